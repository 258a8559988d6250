/-! SIZES: order, sum, difference, signedSum, product, shiftUp, shiftDown -/
def cmpN (a b : Nat) : Int32 := if b < a then 1 else if a = b then 0 else -1
theorem m1lt : ((-1 : Int32)) < 0 := by decide
theorem BBe : BB = 4294967296 := rfl
theorem powBB_pos (n : Nat) : 0 < BB ^ n := Nat.pow_pos (by decide)
theorem mod_s (v i : Nat) : v % BB ^ (i + 1) = v % BB ^ i + lim v i * BB ^ i := by
  rw [Nat.pow_succ, Nat.mod_mul]
  unfold lim
  rw [Nat.mul_comm (BB ^ i)]
theorem mod_all {v n : Nat} (h : nl BB v ≤ n) : v % BB ^ n = v := Nat.mod_eq_of_lt ((nl_le BB1 n v).mp h)
/-- the limbs of x from i on are those of v -/
def Up (G : SH) (M : MS) (x v i : Nat) : Prop := nl BB v ≤ rmw G M x ∧ mI M x 1 = nI (nl BB v) ∧ ∀ j, i ≤ j → j < nl BB v → dgt M x j = lim v j
/-- the limbs of x below i are those of v -/
def Lo (G : SH) (M : MS) (x v i : Nat) : Prop := nl BB v ≤ rmw G M x ∧ mI M x 1 = nI (nl BB v) ∧ ∀ j, j < i → j < nl BB v → dgt M x j = lim v j
theorem Wh.up {G : SH} {M : MS} {x v : Nat} {b : Bool} (h : Wh G M x v b) : Up G M x v 0 := ⟨h.1, h.2.1, fun _ _ hj => h.lim hj⟩
theorem Wh.lo {G : SH} {M : MS} {x v : Nat} {b : Bool} (h : Wh G M x v b) (i : Nat) : Lo G M x v i := ⟨h.1, h.2.1, fun _ _ hj => h.lim hj⟩
theorem dgt_put_ne {M : MS} {x q i j : Nat} {z : Int32} (h : j ≠ i) : dgt (wA M q (upd (mA M q) i z)) x j = dgt M x j := by
  show u32 (mA (wA M q (upd (mA M q) i z)) (mR M x 0) j) = u32 (mA M (mR M x 0) j)
  by_cases e : mR M x 0 = q
  · rw [e, mA_wA]
    show u32 (if j = i then z else mA M q j) = _
    rw [if_neg h]
  · rw [mA_wA_ne e]
theorem dgt_put_s {M : MS} {x i : Nat} {z : Int32} : dgt (wA M (mR M x 0) (upd (mA M (mR M x 0)) i z)) x i = u32 z := by
  rw [dgt_wA]
  show u32 (if i = i then z else _) = _
  rw [if_pos rfl]
theorem Up.put {G : SH} {M : MS} {x v i q : Nat} {z : Int32} (h : Up G M x v i) : Up G (wA M q (upd (mA M q) i z)) x v (i + 1) :=
  ⟨h.1, h.2.1, fun j hj hl => by rw [dgt_put_ne (by omega)]; exact h.2.2 j (by omega) hl⟩
theorem Lo.put {G : SH} {M : MS} {x v i k q : Nat} {z : Int32} (h : Lo G M x v (i + 1)) (hk : i ≤ k) : Lo G (wA M q (upd (mA M q) k z)) x v i :=
  ⟨h.1, h.2.1, fun j hj hl => by rw [dgt_put_ne (by omega)]; exact h.2.2 j (by omega) hl⟩
theorem vl_put {M : MS} {x i : Nat} {z : Int32} {n : Nat} (h : n ≤ i) : vl BB (dgt (wA M (mR M x 0) (upd (mA M (mR M x 0)) i z)) x) n = vl BB (dgt M x) n := vl_congr (fun j hj => dgt_put_ne (by omega))
theorem s_limb_raw {G : SH} {M : MS} {x n k : Nat} {i : Int32} {Q : Int64 → MS → Prop} (hO : Ok G M) (hx : Is G 8 x) (hu : mI M x 1 = nI n) (hn : n ≤ rmw G M x) (hi : i = nI k) (hk : k < 2147483648) (hQ : Q (lN (if k < n then dgt M x k else 0)) M) : w_X9_limb G x i M Q := by
  unfold w_X9_limb
  have hr := hO.1 x hx
  rw [hi, hu, nI_ltI hk (by omega), cl hk, mask_lN]
  refine ⟨fun h => absurd h (nI_lt0 hk), fun _ => ⟨fun h => ⟨vp_in_nI (by unfold rmw at hn; omega) (by unfold rmw at hr; omega), ?_⟩, fun h => ?_⟩⟩
  · rw [if_pos h] at hQ
    exact hQ
  · rw [if_neg h] at hQ
    exact hQ
theorem s_limb_up {G : SH} {M : MS} {x v k i0 : Nat} {i : Int32} {Q : Int64 → MS → Prop} (hO : Ok G M) (hx : Is G 8 x) (h : Up G M x v i0) (hi : i = nI k) (hk : k < 2147483648) (h0 : i0 ≤ k) (hQ : Q (lN (lim v k)) M) : w_X9_limb G x i M Q := by
  refine s_limb_raw hO hx h.2.1 h.1 hi hk ?_
  by_cases c : k < nl BB v
  · rw [if_pos c, h.2.2 k h0 c]; exact hQ
  · rw [if_neg c]
    rw [lim_big (by omega)] at hQ
    exact hQ
theorem s_limb_lo {G : SH} {M : MS} {x v k i0 : Nat} {i : Int32} {Q : Int64 → MS → Prop} (hO : Ok G M) (hx : Is G 8 x) (h : Lo G M x v i0) (hi : i = nI k) (hk : k < 2147483648) (h0 : k < i0) (hQ : Q (lN (lim v k)) M) : w_X9_limb G x i M Q := by
  refine s_limb_raw hO hx h.2.1 h.1 hi hk ?_
  by_cases c : k < nl BB v
  · rw [if_pos c, h.2.2 k h0 c]; exact hQ
  · rw [if_neg c]
    rw [lim_big (by omega)] at hQ
    exact hQ
theorem s_window_up {G : SH} {M : MS} {x v k i0 : Nat} {i : Int32} {Q : Int64 → MS → Prop} (hO : Ok G M) (hx : Is G 8 x) (hw : Up G M x v i0) (hi : i = nI k) (hk : k < 2147483648) (h00 : i0 ≤ k / 32) (hQ : Q (lN (v / 2 ^ k % BB)) M) : w_X9_window G x i M Q := by
  unfold w_X9_window
  rw [hi, shr5 hk, and31 hk, nI_1]
  refine s_limb_up hO hx hw rfl (by omega) (by omega) ?_
  refine s_limb_up hO hx hw rfl (by omega) (by omega) ?_
  intro y ey
  have h1 := lim_l v (k / 32 + 1)
  have h0 := lim_l v (k / 32)
  rw [shl_lN32, g_or (k := 32) (p := 4294967296) rfl h0 (by omega)] at ey
  have hr : k % 32 < 32 := Nat.mod_lt _ (by decide)
  rw [ey, wb_shr (by omega) (by omega), show (4294967295 : Int64) = lN (2 ^ 32 - 1) from rfl, wb_mask (Nat.lt_of_le_of_lt (Nat.div_le_self _ _) (by omega)) (by decide)]
  have e : (lim v (k / 32 + 1) * 4294967296 + lim v (k / 32)) / 2 ^ (k % 32) % 2 ^ 32 = v / 2 ^ k % BB := by
    have e1 : (2 : Nat) ^ k = BB ^ (k / 32) * 2 ^ (k % 32) := by
      show (2 : Nat) ^ k = (2 ^ 32) ^ (k / 32) * 2 ^ (k % 32)
      rw [← Nat.pow_mul, ← Nat.pow_add]
      congr 1
      omega
    unfold lim
    rw [e1, ← Nat.div_div_eq_div_mul, Nat.pow_succ, ← Nat.div_div_eq_div_mul]
    generalize v / BB ^ (k / 32) = w
    generalize k % 32 = r at hr
    have a1 : w / BB % BB * 4294967296 + w % BB = w % (BB * BB) := by
      rw [Nat.mod_mul, Nat.add_comm, Nat.mul_comm]
    rw [a1]
    have hB : BB * BB = 2 ^ r * (BB * 2 ^ (32 - r)) := by
      show 2 ^ 32 * 2 ^ 32 = 2 ^ r * (2 ^ 32 * 2 ^ (32 - r))
      rw [← Nat.pow_add, ← Nat.pow_add, ← Nat.pow_add]
      congr 1
      omega
    rw [hB, Nat.mod_mul_right_div_self]
    exact Nat.mod_mul_right_mod _ _ _
  rw [e]
  exact hQ
/-! order -/
theorem s_order_loop {G : SH} {M : MS} {a b va vb : Nat} {sa sb : Bool} {Q : Int32 → MS → Prop} (hO : Ok G M) (ha : Is G 8 a) (hb : Is G 8 b) (wa : Wh G M a va sa) (wb : Wh G M b vb sb) (hn : nl BB va = nl BB vb) (hQ : Q (cmpN va vb) M) : ∀ (k : Nat), k ≤ nl BB va → va / BB ^ k = vb / BB ^ k → ∃ n, w_X7_order_35 G Q n a b (nI k - 1) M
  | 0, _, h => by
    refine ⟨1, ?_⟩
    rw [w_X7_order_35]
    refine ⟨fun _ => ?_, fun h2 => absurd (by decide) h2⟩
    rw [Nat.pow_zero, Nat.div_one, Nat.div_one] at h
    unfold cmpN at hQ
    rw [if_neg (by omega), if_pos h] at hQ
    exact hQ
  | k + 1, hk, h => by
    have h1 := hO.1 a ha
    have h2 := hO.1 b hb
    have a1 := wa.1
    have b1 := wb.1
    rw [nI_pred]
    have va1 := vp_in_nI (n := k) (N := G.2.2.1 (mR M a 0)) (by unfold rmw at a1; omega) (by unfold rmw at h1; omega)
    have vb1 := vp_in_nI (n := k) (N := G.2.2.1 (mR M b 0)) (by unfold rmw at b1; omega) (by unfold rmw at h2; omega)
    have la := wa.lim (i := k) (by omega)
    have lb := wb.lim (i := k) (by omega)
    have hp := powBB_pos k
    have da : va / BB ^ k = BB * (va / BB ^ (k + 1)) + lim va k := by
      rw [Nat.pow_succ, ← Nat.div_div_eq_div_mul]
      exact (Nat.div_add_mod _ _).symm
    have db : vb / BB ^ k = BB * (vb / BB ^ (k + 1)) + lim vb k := by
      rw [Nat.pow_succ, ← Nat.div_div_eq_div_mul]
      exact (Nat.div_add_mod _ _).symm
    rw [h] at da
    by_cases e : mA M (mR M a 0) k = mA M (mR M b 0) k
    · rw [e, lb] at la
      obtain ⟨n, ih⟩ := s_order_loop hO ha hb wa wb hn hQ k (by omega) (by rw [da, db, la])
      refine ⟨n + 1, ?_⟩
      rw [w_X7_order_35, cl (by omega)]
      refine ⟨fun z => absurd z (nI_lt0 (by omega)), fun _ => ⟨va1, vb1, fun _ y ey => ?_, fun z => absurd e z⟩⟩
      rw [ey, show nI k + -1 = nI k - 1 from (Int32.sub_eq_add_neg ..).symm]
      exact ih
    · refine ⟨1, ?_⟩
      rw [w_X7_order_35, cl (by omega)]
      refine ⟨fun z => absurd z (nI_lt0 (by omega)), fun _ => ⟨va1, vb1, fun z => absurd z e, fun _ => ?_⟩⟩
      refine s_limb hO ha wa rfl (by omega) (s_limb hO hb wb rfl (by omega) ?_)
      have l1 := lim_l va k
      have l2 := lim_l vb k
      have hne : lim va k ≠ lim vb k := fun z => e (u32_inj (by rw [la, lb, z]))
      rw [pk_lLE (by omega) (by omega)]
      refine ⟨fun z => ?_, fun z => ?_⟩
      · have : va < vb := by
          have : va / BB ^ k < vb / BB ^ k := by omega
          exact Nat.lt_of_not_le (fun q => absurd (Nat.div_le_div_right (c := BB ^ k) q) (by omega))
        unfold cmpN at hQ
        rw [if_neg (by omega), if_neg (by omega)] at hQ
        exact hQ
      · have : vb < va := by
          have : vb / BB ^ k < va / BB ^ k := by omega
          exact Nat.lt_of_not_le (fun q => absurd (Nat.div_le_div_right (c := BB ^ k) q) (by omega))
        unfold cmpN at hQ
        rw [if_pos this] at hQ
        exact hQ
theorem s_order {G : SH} {M : MS} {a b va vb : Nat} {sa sb : Bool} {Q : Int32 → MS → Prop} (hO : Ok G M) (ha : Is G 8 a) (hb : Is G 8 b) (wa : Wh G M a va sa) (wb : Wh G M b vb sb) (hQ : Q (cmpN va vb) M) : w_X7_order G a b M Q := by
  unfold w_X7_order
  have h1 := hO.1 a ha
  have h2 := hO.1 b hb
  have a1 := wa.1
  have b1 := wb.1
  rw [wa.2.1, wb.2.1, nI_eq (by omega) (by omega), nI_leI (by omega) (by omega)]
  refine ⟨fun e y ey => ?_, fun e => ⟨fun z => ?_, fun z => ?_⟩⟩
  · rw [ey]
    refine s_order_loop hO ha hb wa wb e hQ (nl BB va) (Nat.le_refl _) ?_
    rw [Nat.div_eq_of_lt ((nl_le BB1 _ _).mp (Nat.le_refl _)), e, Nat.div_eq_of_lt ((nl_le BB1 _ _).mp (Nat.le_refl _))]
  · have : va < vb := Nat.lt_of_not_le (fun q => absurd (nl_mono BB1 q) (by omega))
    unfold cmpN at hQ
    rw [if_neg (by omega), if_neg (by omega)] at hQ
    exact hQ
  · have : vb < va := Nat.lt_of_not_le (fun q => absurd (nl_mono BB1 q) (by omega))
    unfold cmpN at hQ
    rw [if_pos this] at hQ
    exact hQ
theorem mxI {x y : Nat} (hx : x < 2147483648) (hy : y < 2147483648) : (if nI x < nI y then nI y else nI x) = nI (max x y) := by
  by_cases h : nI x < nI y
  · rw [if_pos h]
    rw [nI_ltI hx hy] at h
    congr 1
    omega
  · rw [if_neg h]
    rw [nI_ltI hx hy] at h
    congr 1
    omega
theorem mnI {x y : Nat} (hx : x < 2147483648) (hy : y < 2147483648) : (if nI y < nI x then nI y else nI x) = nI (min x y) := by
  by_cases h : nI y < nI x
  · rw [if_pos h]
    rw [nI_ltI hy hx] at h
    congr 1
    omega
  · rw [if_neg h]
    rw [nI_ltI hy hx] at h
    congr 1
    omega
/-! sum -/
theorem s_sum_loop {G : SH} {d a b va vb c : Nat} (hd : Is G 8 d) (ha : Is G 8 a) (hb : Is G 8 b) (ca : nl BB va ≤ c) (cb : nl BB vb ≤ c) {Q : MS → Prop} : ∀ (t i : Nat) (M : MS) (cy : Nat), i + t = c → Ok G M → c < rmw G M d → cy ≤ 1 → Up G M a va i → Up G M b vb i → vl BB (dgt M d) i + cy * BB ^ i = va % BB ^ i + vb % BB ^ i → (∀ N, Fr G M N [d] → Wh G N d (va + vb) false → Q N) → ∃ n, w_X7_sum_33 G Q n d a b (nI c) (lN cy) (nI i) M
  | 0, i, M, cy, hi, hO, hc, hcy, ua, ub, hv, hQ => by
    refine ⟨1, ?_⟩
    have hr := hO.1 d hd
    obtain rfl : i = c := by omega
    rw [w_X7_sum_33, nI_leI (by omega) (by omega), cl (by omega), nI_1, lN_i]
    refine ⟨fun _ => ⟨vp_in_nI (by unfold rmw at hc; omega) (by unfold rmw at hr; omega), fun N eN => ?_⟩, fun h => absurd (Nat.le_refl _) h⟩
    have f0 : Fr G M N [d] := by rw [eN]; exact Fr.wA hd _
    refine s_keep (c := i + 1) (f0.ok hO) hd rfl (by rw [f0.room]; omega) (fun P f1 _ f3 => hQ P (f0.tr1 f1) ?_)
    have e : vl BB (dgt N d) (i + 1) = va + vb := by
      rw [vl_s, eN, vl_put (Nat.le_refl _), dgt_put_s, u32_nI_lt (by omega), hv, mod_all ca, mod_all cb]
    rw [e] at f3
    exact f3
  | t + 1, i, M, cy, hi, hO, hc, hcy, ua, ub, hv, hQ => by
    have hr := hO.1 d hd
    have la := lim_l va i
    have lb := lim_l vb i
    generalize hs : cy + (lim va i + lim vb i) = s
    have f0 : Fr G M (wA M (mR M d 0) (upd (mA M (mR M d 0)) i (nI s))) [d] := Fr.wA hd _
    obtain ⟨n, ih⟩ := s_sum_loop hd ha hb ca cb (Q := Q) t (i + 1) (wA M (mR M d 0) (upd (mA M (mR M d 0)) i (nI s))) (s / BB) (by omega) (f0.ok hO) (by rw [f0.room]; exact hc) (by show s / 4294967296 ≤ 1; omega) ua.put ub.put
      (by
        rw [vl_s, vl_put (Nat.le_refl _), dgt_put_s, u32_nI, mod_s, mod_s, Nat.pow_succ]
        have hs2 : 4294967296 * (s / 4294967296) + s % 4294967296 = s := Nat.div_add_mod _ _
        have e : s % 4294967296 * BB ^ i + s / BB * (BB ^ i * BB) = s * BB ^ i := by
          calc s % 4294967296 * BB ^ i + s / BB * (BB ^ i * BB) = (4294967296 * (s / 4294967296) + s % 4294967296) * BB ^ i := by show _ + s / 4294967296 * (BB ^ i * 4294967296) = _; grind
            _ = s * BB ^ i := by rw [hs2]
        have e2 : s * BB ^ i = cy * BB ^ i + lim va i * BB ^ i + lim vb i * BB ^ i := by rw [← hs]; grind
        omega)
      (fun N f1 f2 => hQ N (f0.tr1 f1) f2)
    refine ⟨n + 1, ?_⟩
    rw [w_X7_sum_33, nI_leI (by omega) (by omega), cl (c := i) (by omega)]
    refine ⟨fun h => absurd h (by omega), fun _ => ?_⟩
    refine s_limb_up hO ha ua rfl (by omega) (Nat.le_refl _) (s_limb_up hO hb ub rfl (by omega) (Nat.le_refl _) ?_)
    intro y ey
    rw [lN_add, lN_add, hs] at ey
    refine ⟨vp_in_nI (by unfold rmw at hc; omega) (by unfold rmw at hr; omega), fun N eN z ez w ew => ?_⟩
    rw [ey, lN_i] at eN
    rw [ey, ushr_lN32 (by omega)] at ez
    rw [ew, nI_1, ez, eN]
    exact ih
theorem s_sum {G : SH} {M : MS} {d a b va vb : Nat} {sa sb : Bool} {Q : MS → Prop} (hO : Ok G M) (hd : Is G 8 d) (ha : Is G 8 a) (hb : Is G 8 b) (wa : Wh G M a va sa) (wb : Wh G M b vb sb) (hra : nl BB va < rmw G M d) (hrb : nl BB vb < rmw G M d) (hQ : ∀ N, Fr G M N [d] → Wh G N d (va + vb) false → Q N) : w_X7_sum G d a b M Q := by
  unfold w_X7_sum
  intro y ey
  have hr := hO.1 d hd
  rw [wa.2.1, wb.2.1, mxI (by omega) (by omega)] at ey
  obtain ⟨c, e, h1, h2, h3⟩ : ∃ c, y = nI c ∧ nl BB va ≤ c ∧ nl BB vb ≤ c ∧ c < rmw G M d := ⟨_, ey, by omega, by omega, by omega⟩
  rw [e, nI_ltI (by omega) (by unfold rmw at hr; omega)]
  refine ⟨fun _ => ?_, fun h => absurd (by unfold rmw at h3; exact h3) h⟩
  have := s_sum_loop hd ha hb h1 h2 (Q := Q) c 0 M 0 (by omega) hO h3 (by decide) wa.up wb.up (by rw [vl_0, Nat.zero_mul, Nat.pow_zero, Nat.mod_one, Nat.mod_one]) hQ
  exact this
/-! difference -/
theorem s_diff_loop {G : SH} {d a b va vb : Nat} (hd : Is G 8 d) (ha : Is G 8 a) (hb : Is G 8 b) (hab : vb ≤ va) {Q : MS → Prop} : ∀ (t i : Nat) (M : MS) (cy : Int), i + t = nl BB va → Ok G M → nl BB va ≤ rmw G M d → (cy = 0 ∨ cy = -1) → Up G M a va i → Up G M b vb i → (vl BB (dgt M d) i : Int) + cy * (BB ^ i : Nat) = (va % BB ^ i : Nat) - (vb % BB ^ i : Nat) → (∀ N, Fr G M N [d] → Wh G N d (va - vb) false → Q N) → ∃ n, w_X7_difference_26 G Q n d a b (nI (nl BB va)) (lZ cy) (nI i) M
  | 0, i, M, cy, hi, hO, hc, hcy, ua, ub, hv, hQ => by
    refine ⟨1, ?_⟩
    have hr := hO.1 d hd
    rw [w_X7_difference_26, nI_leI (by omega) (by omega)]
    refine ⟨fun _ => s_keep hO hd rfl hc (fun P f1 _ f3 => hQ P f1 ?_), fun h => absurd (by omega) h⟩
    have e : vl BB (dgt M d) (nl BB va) = va - vb := by
      have hi2 : i = nl BB va := by omega
      subst hi2
      rw [mod_all (Nat.le_refl _), mod_all (nl_mono BB1 hab)] at hv
      have hl := vl_lt (B := BB) (f := dgt M d) (n := nl BB va) (fun j _ => dgt_lt M d j)
      rcases hcy with rfl | rfl
      · omega
      · omega
    rw [e] at f3
    exact f3
  | t + 1, i, M, cy, hi, hO, hc, hcy, ua, ub, hv, hQ => by
    have hr := hO.1 d hd
    have la := lim_l va i
    have lb := lim_l vb i
    generalize hs : cy + ((lim va i : Int) - (lim vb i : Int)) = s
    have f0 : Fr G M (wA M (mR M d 0) (upd (mA M (mR M d 0)) i (iZ s))) [d] := Fr.wA hd _
    obtain ⟨n, ih⟩ := s_diff_loop hd ha hb hab (Q := Q) t (i + 1) (wA M (mR M d 0) (upd (mA M (mR M d 0)) i (iZ s))) (s / 4294967296) (by omega) (f0.ok hO) (by rw [f0.room]; exact hc) (by omega) ua.put ub.put
      (by
        rw [vl_s, vl_put (Nat.le_refl _), dgt_put_s, mod_s, mod_s, Nat.pow_succ]
        have hu := u32_iZ s
        generalize u32 (iZ s) = w at hu
        have hs2 : 4294967296 * (s / 4294967296) + s % 4294967296 = s := Int.mul_ediv_add_emod s 4294967296
        rw [← hu] at hs2
        generalize s / 4294967296 = k at hs2
        generalize hX : BB ^ i = X at hv
        have e1 : ((vl BB (dgt M d) i + w * X : Nat) : Int) + k * ((X * BB : Nat) : Int) = (vl BB (dgt M d) i : Int) + (4294967296 * k + w) * (X : Int) := by
          rw [Int.natCast_add, Int.natCast_mul, Int.natCast_mul, show ((BB : Nat) : Int) = 4294967296 from rfl]
          grind
        have e2 : ((va % X + lim va i * X : Nat) : Int) - ((vb % X + lim vb i * X : Nat) : Int) = ((va % X : Nat) : Int) - ((vb % X : Nat) : Int) + ((lim va i : Int) - (lim vb i : Int)) * (X : Int) := by
          rw [Int.natCast_add, Int.natCast_mul, Int.natCast_add, Int.natCast_mul]
          grind
        have e3 : s * (X : Int) = cy * (X : Int) + ((lim va i : Int) - (lim vb i : Int)) * (X : Int) := by rw [← hs]; grind
        rw [e1, e2, hs2, e3]
        omega)
      (fun N f1 f2 => hQ N (f0.tr1 f1) f2)
    refine ⟨n + 1, ?_⟩
    rw [w_X7_difference_26, nI_leI (by omega) (by omega), cl (c := i) (by omega)]
    refine ⟨fun h => absurd h (by omega), fun _ => ?_⟩
    refine s_limb_up hO ha ua rfl (by omega) (Nat.le_refl _) (s_limb_up hO hb ub rfl (by omega) (Nat.le_refl _) ?_)
    intro y ey
    rw [lN_lZ, lN_lZ, lZ_sub, lZ_add, hs] at ey
    refine ⟨vp_in_nI (by unfold rmw at hc; omega) (by unfold rmw at hr; omega), fun N eN z ez w ew => ?_⟩
    rw [ey, lZ_i] at eN
    rw [ey, shr_lZ32 (by omega) (by omega)] at ez
    rw [ew, nI_1, ez, eN]
    exact ih
theorem s_diff {G : SH} {M : MS} {d a b va vb : Nat} {sa sb : Bool} {Q : MS → Prop} (hO : Ok G M) (hd : Is G 8 d) (ha : Is G 8 a) (hb : Is G 8 b) (wa : Wh G M a va sa) (wb : Wh G M b vb sb) (hab : vb ≤ va) (hra : nl BB va ≤ rmw G M d) (hQ : ∀ N, Fr G M N [d] → Wh G N d (va - vb) false → Q N) : w_X7_difference G d a b M Q := by
  unfold w_X7_difference
  intro y ey
  have hr := hO.1 d hd
  rw [wa.2.1] at ey
  rw [ey, nI_leI (by omega) (by unfold rmw at hr; omega)]
  refine ⟨fun _ => ?_, fun h => absurd (by unfold rmw at hra; exact hra) h⟩
  exact s_diff_loop hd ha hb hab (Q := Q) (nl BB va) 0 M 0 (by omega) hO hra (Or.inl rfl) wa.up wb.up (by rw [vl_0, Nat.pow_zero, Nat.mod_one, Nat.mod_one]; rfl) hQ
/-! signedSum: d has a + b, b with the sign that is told -/
def sg (v : Nat) (b : Bool) : Int := if b then -(v : Int) else v
theorem s_signedSum {G : SH} {M : MS} {d a b va vb : Nat} {sa sb tb : Bool} {i : Int32} {Q : MS → Prop} (hO : Ok G M) (hd : Is G 8 d) (ha : Is G 8 a) (hb : Is G 8 b) (wa : Wh G M a va sa) (wb : Wh G M b vb sb) (hi : i = if tb then 1 else 0) (hra : nl BB va < rmw G M d) (hrb : nl BB vb < rmw G M d)
    (hQ : ∀ N, Fr G M N [d] → Wh G N d (sg va sa + sg vb tb).natAbs (decide (sg va sa + sg vb tb < 0)) → Q N) : w_X7_signedSum G d a b i M Q := by
  unfold w_X7_signedSum
  intro y ey
  rw [wa.2.2.2] at ey
  have hne : (y = i) ↔ sa = tb := by
    rw [ey, hi]
    cases sa <;> cases tb <;> decide
  rw [hne]
  refine ⟨fun h => ?_, fun h => ?_⟩
  · refine s_order hO ha hb wa wb ?_
    have hc : cmpN va vb < 0 ↔ va < vb := by
      unfold cmpN
      by_cases h1 : vb < va
      · rw [if_pos h1]
        exact ⟨fun z => absurd z (by decide), fun z => by omega⟩
      · rw [if_neg h1]
        by_cases h2 : va = vb
        · rw [if_pos h2]
          exact ⟨fun z => absurd z (by decide), fun z => by omega⟩
        · rw [if_neg h2]
          exact ⟨fun z => by omega, fun z => by decide⟩
    rw [hc]
    refine ⟨fun h2 => ?_, fun h2 => ?_⟩
    · refine s_diff hO hd hb ha wb wa (by omega) (by omega) (fun N f1 f2 => ?_)
      refine s_takeSign (f1.ok hO) hd f2 hi (fun P f3 f4 => hQ P (f1.tr1 f3) ?_)
      have e1 : (sg va sa + sg vb tb).natAbs = vb - va := by
        unfold sg
        cases sa <;> cases tb <;> simp at h ⊢ <;> omega
      have e2 : decide (sg va sa + sg vb tb < 0) = (tb && decide (0 < vb - va)) := by
        unfold sg
        cases sa <;> cases tb <;> simp at h ⊢ <;> omega
      rw [e1, e2]
      exact f4
    · refine s_diff hO hd ha hb wa wb (by omega) (by omega) (fun N f1 f2 => ?_)
      refine s_takeSign (f1.ok hO) hd f2 ey (fun P f3 f4 => hQ P (f1.tr1 f3) ?_)
      have e1 : (sg va sa + sg vb tb).natAbs = va - vb := by
        unfold sg
        cases sa <;> cases tb <;> simp at h ⊢ <;> omega
      have e2 : decide (sg va sa + sg vb tb < 0) = (sa && decide (0 < va - vb)) := by
        unfold sg
        cases sa <;> cases tb <;> simp at h ⊢ <;> omega
      rw [e1, e2]
      exact f4
  · subst h
    refine s_sum hO hd ha hb wa wb hra hrb (fun N f1 f2 => ?_)
    refine s_takeSign (f1.ok hO) hd f2 ey (fun P f3 f4 => hQ P (f1.tr1 f3) ?_)
    have e1 : (sg va sa + sg vb sa).natAbs = va + vb := by
      unfold sg
      cases sa <;> simp <;> omega
    have e2 : decide (sg va sa + sg vb sa < 0) = (sa && decide (0 < va + vb)) := by
      unfold sg
      cases sa <;> simp <;> omega
    rw [e1, e2]
    exact f4
