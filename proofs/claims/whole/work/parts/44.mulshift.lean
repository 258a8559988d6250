/-! product -/
theorem mul_le_sq {a b : Nat} (ha : a < 4294967296) (hb : b < 4294967296) : a * b ≤ 18446744065119617025 := by
  have h : a * b ≤ 4294967295 * 4294967295 := Nat.mul_le_mul (by omega) (by omega)
  omega
theorem s_prod_in {G : SH} {Mi : MS} {d a b vb f i : Nat} {sb : Bool} (hd : Is G 8 d) (hb : Is G 8 b) (hdb : b ≠ d) (hOi : Ok G Mi) (hf : f < 4294967296) (hr : i + nl BB vb < rmw G Mi d) {K : Nat → Nat → Nat → Nat → Int32 → Int32 → MS → Prop} {Q : MS → Prop}
    (wbi : Wh G Mi b vb sb) (hK : ∀ N, Fr G Mi N [d] → vl BB (dgt N d) (i + nl BB vb + 1) = vl BB (dgt Mi d) (i + nl BB vb) + f * vb * BB ^ i → K d a b (mR Mi d 0) (nI (nl BB vb)) (nI (i + 1)) N) :
    ∀ (t j : Nat) (M : MS) (cy : Nat), j + t = nl BB vb → Fr G Mi M [d] → cy < 4294967296 → vl BB (dgt M d) (i + j) + cy * BB ^ (i + j) = vl BB (dgt Mi d) (i + j) + f * (vb % BB ^ j) * BB ^ i → (∀ k, i + j ≤ k → dgt M d k = dgt Mi d k) → ∃ n, w_X7_product_82 G K Q n d a b (mR Mi d 0) (nI (nl BB vb)) (nI i) (lN f) (lN cy) (nI j) M
  | 0, j, M, cy, hj, f1, hcy, hv, hup => by
    have h1 := hOi.1 d hd
    have hq : mR M d 0 = mR Mi d 0 := f1.2.1 d 0
    have hO := f1.ok hOi
    refine ⟨1, ?_⟩
    obtain rfl : j = nl BB vb := by omega
    rw [w_X7_product_82, nI_leI (by omega) (by omega), nI_add, cl (c := i + nl BB vb) (by omega), nI_1, lN_i]
    refine ⟨fun _ => ⟨vp_in_nI (by unfold rmw at hr; omega) (by unfold rmw at h1; omega), fun N eN x ex => ?_⟩, fun h => absurd (Nat.le_refl _) h⟩
    rw [ex]
    rw [← hq] at eN
    have f2 : Fr G M N [d] := by rw [eN]; exact Fr.wA hd _
    refine hK N (f1.tr1 f2) ?_
    rw [vl_s, eN, vl_put (Nat.le_refl _), dgt_put_s, u32_nI_lt hcy, hv, mod_all (Nat.le_refl _)]
  | t + 1, j, M, cy, hj, f1, hcy, hv, hup => by
    have h1 := hOi.1 d hd
    have hq : mR M d 0 = mR Mi d 0 := f1.2.1 d 0
    have hO := f1.ok hOi
    have wb := f1.wh hOi hb (by simpa using hdb) wbi
    have hrb := hO.1 b hb
    have b1 := wb.1
    have lb := lim_l vb j
    have hfb := mul_le_sq hf lb
    have hdl := u32_lt (mA M (mR M d 0) (i + j))
    have hdm : u32 (mA M (mR M d 0) (i + j)) = dgt Mi d (i + j) := hup (i + j) (Nat.le_refl _)
    generalize hs : cy + (f * lim vb j + u32 (mA M (mR M d 0) (i + j))) = s
    have f0 : Fr G M (wA M (mR M d 0) (upd (mA M (mR M d 0)) (i + j) (nI s))) [d] := Fr.wA hd _
    obtain ⟨n, ih⟩ := s_prod_in hd hb hdb hOi hf hr (Q := Q) wbi hK t (j + 1) (wA M (mR M d 0) (upd (mA M (mR M d 0)) (i + j) (nI s))) (s / 4294967296) (by omega) (f1.tr1 f0) (by omega)
      (by
        rw [← Nat.add_assoc, vl_s, vl_s, vl_put (Nat.le_refl _), dgt_put_s, u32_nI, mod_s, Nat.pow_succ]
        have hs2 : 4294967296 * (s / 4294967296) + s % 4294967296 = s := Nat.div_add_mod _ _
        have e : s % 4294967296 * BB ^ (i + j) + s / 4294967296 * (BB ^ (i + j) * BB) = s * BB ^ (i + j) := by
          calc s % 4294967296 * BB ^ (i + j) + s / 4294967296 * (BB ^ (i + j) * BB) = (4294967296 * (s / 4294967296) + s % 4294967296) * BB ^ (i + j) := by show _ + s / 4294967296 * (BB ^ (i + j) * 4294967296) = _; grind
            _ = s * BB ^ (i + j) := by rw [hs2]
        have e2 : s * BB ^ (i + j) = cy * BB ^ (i + j) + f * lim vb j * BB ^ (i + j) + dgt Mi d (i + j) * BB ^ (i + j) := by rw [← hs, hdm]; grind
        have e3 : f * (vb % BB ^ j + lim vb j * BB ^ j) * BB ^ i = f * (vb % BB ^ j) * BB ^ i + f * lim vb j * BB ^ (i + j) := by rw [Nat.pow_add]; grind
        omega)
      (fun k hk => by rw [dgt_put_ne (by omega)]; exact hup k (by omega))
    refine ⟨n + 1, ?_⟩
    rw [w_X7_product_82, nI_leI (by omega) (by omega), nI_add i j, cl (c := j) (by omega), cl (c := i + j) (by omega), mask_lN, mask_lN]
    refine ⟨fun h => absurd h (by omega), fun _ => ⟨vp_in_nI (by unfold rmw at b1; omega) (by unfold rmw at hrb; omega), vp_in_nI (by unfold rmw at hr; omega) (by unfold rmw at h1; omega), fun y ey => ⟨vp_in_nI (by unfold rmw at hr; omega) (by unfold rmw at h1; omega), fun N eN z ez w ew => ?_⟩⟩⟩
    rw [wb.lim (by omega), ← hq, lN_mul, lN_add, lN_add, hs] at ey
    rw [ey, lN_i, ← hq] at eN
    rw [ey, ushr_lN32 (by omega)] at ez
    rw [ew, nI_1, ez, eN]
    exact ih
theorem s_prod_out {G : SH} {M0 : MS} {d a b va vb : Nat} {sa sb : Bool} (hO0 : Ok G M0) (hd : Is G 8 d) (ha : Is G 8 a) (hb : Is G 8 b) (hda : a ≠ d) (hdb : b ≠ d) (wa0 : Wh G M0 a va sa) (wb0 : Wh G M0 b vb sb) (hr : nl BB va + nl BB vb ≤ rmw G M0 d) {Q : MS → Prop} (hQ : ∀ N, Fr G M0 N [d] → Wh G N d (va * vb) false → Q N) :
    ∀ (n i : Nat) (M : MS), nl BB va - i < n → i ≤ nl BB va → Fr G M0 M [d] → vl BB (dgt M d) (i + nl BB vb) = va % BB ^ i * vb → w_X7_product_53 G Q n d a b (mR M0 d 0) (nI (nl BB vb)) (nI i) M
  | 0, i, M, hn, _, _, _ => absurd hn (Nat.not_lt_zero _)
  | n + 1, i, M, hn, hi, f1, hv => by
    have hO := f1.ok hO0
    have hq : mR M d 0 = mR M0 d 0 := f1.2.1 d 0
    have wa := f1.wh hO0 ha (by simpa using hda) wa0
    have wb := f1.wh hO0 hb (by simpa using hdb) wb0
    have h1 := hO0.1 d hd
    have h2 := hO.1 a ha
    have a1 := wa.1
    rw [w_X7_product_53, wa.2.1, nI_leI (by omega) (by omega), nI_add, cl (c := i) (by omega), mask_lN]
    refine ⟨fun h => ?_, fun h => ⟨vp_in_nI (by unfold rmw at a1; omega) (by unfold rmw at h2; omega), fun x ex => ?_⟩⟩
    · obtain rfl : i = nl BB va := by omega
      refine s_keep hO hd rfl (by rw [f1.room]; exact hr) (fun P f2 _ f3 => hQ P (f1.tr1 f2) ?_)
      rw [hv, mod_all (Nat.le_refl _)] at f3
      exact f3
    · rw [wa.lim (by omega)] at ex
      rw [ex, ← hq]
      refine s_prod_in (sb := sb) hd hb hdb hO (lim_l va i) (by rw [f1.room]; omega) (Q := Q) wb (fun N f2 f3 => ?_) (nl BB vb) 0 M 0 (by omega) (Fr.rf (by simpa using hd)) (by decide) (by rw [Nat.pow_zero, Nat.mod_one]; grind) (fun _ _ => rfl)
      rw [hq]
      refine s_prod_out hO0 hd ha hb hda hdb wa0 wb0 hr hQ n (i + 1) N (by omega) (by omega) (f1.tr1 f2) ?_
      rw [show i + 1 + nl BB vb = i + nl BB vb + 1 by omega, f3, hv, mod_s]
      grind
theorem s_prod_zero {G : SH} {M0 : MS} {d a b va vb : Nat} {sa sb : Bool} (hO0 : Ok G M0) (hd : Is G 8 d) (ha : Is G 8 a) (hb : Is G 8 b) (hda : a ≠ d) (hdb : b ≠ d) (wa0 : Wh G M0 a va sa) (wb0 : Wh G M0 b vb sb) (hr : nl BB va + nl BB vb ≤ rmw G M0 d) {Q : MS → Prop} (hQ : ∀ N, Fr G M0 N [d] → Wh G N d (va * vb) false → Q N) :
    ∀ (t i : Nat) (M : MS), i + t = nl BB vb → Fr G M0 M [d] → vl BB (dgt M d) i = 0 → ∃ n, w_X7_product_32 G Q n d a b (mR M0 d 0) (nI (nl BB vb)) (nI i) M
  | 0, i, M, hi, f1, hv => by
    refine ⟨1, ?_⟩
    have h1 := hO0.1 d hd
    rw [w_X7_product_32, nI_leI (by omega) (by omega)]
    refine ⟨fun _ => ⟨nl BB va + 1, ?_⟩, fun h => absurd (by omega) h⟩
    rw [← nI_0]
    refine s_prod_out hO0 hd ha hb hda hdb wa0 wb0 hr hQ _ 0 M (by omega) (by omega) f1 ?_
    obtain rfl : i = nl BB vb := by omega
    rw [Nat.zero_add, hv, Nat.pow_zero, Nat.mod_one, Nat.zero_mul]
  | t + 1, i, M, hi, f1, hv => by
    have h1 := hO0.1 d hd
    have hq : mR M d 0 = mR M0 d 0 := f1.2.1 d 0
    have f0 : Fr G M (wA M (mR M d 0) (upd (mA M (mR M d 0)) i 0)) [d] := Fr.wA hd _
    obtain ⟨n, ih⟩ := s_prod_zero hO0 hd ha hb hda hdb wa0 wb0 hr hQ t (i + 1) (wA M (mR M d 0) (upd (mA M (mR M d 0)) i 0)) (by omega) (f1.tr1 f0) (by rw [vl_s, vl_put (Nat.le_refl _), dgt_put_s, hv, u32_0, Nat.zero_mul])
    refine ⟨n + 1, ?_⟩
    rw [w_X7_product_32, nI_leI (by omega) (by omega), cl (c := i) (by omega)]
    refine ⟨fun h => absurd h (by omega), fun _ => ⟨vp_in_nI (by unfold rmw at hr; omega) (by unfold rmw at h1; omega), fun N eN x ex => ?_⟩⟩
    rw [ex, nI_1, eN, ← hq]
    rw [← hq] at ih
    exact ih
theorem s_product {G : SH} {M : MS} {d a b va vb : Nat} {sa sb : Bool} (hO : Ok G M) (hd : Is G 8 d) (ha : Is G 8 a) (hb : Is G 8 b) (hda : a ≠ d) (hdb : b ≠ d) (wa : Wh G M a va sa) (wb : Wh G M b vb sb) (hr : nl BB va + nl BB vb ≤ rmw G M d) {Q : MS → Prop} (hQ : ∀ N, Fr G M N [d] → Wh G N d (va * vb) false → Q N) : w_X7_product G d a b M Q := by
  unfold w_X7_product
  intro y ey
  have h1 := hO.1 d hd
  rw [ey, wa.2.1, wb.2.1, nI_add, nI_leI (by omega) (by unfold rmw at h1; omega)]
  refine ⟨fun _ => ?_, fun h => absurd (by unfold rmw at hr; exact hr) h⟩
  exact s_prod_zero hO hd ha hb hda hdb wa wb hr hQ (nl BB vb) 0 M (by omega) (Fr.rf (by simpa using hd)) (vl_0 _ _)
/-! shiftUp -/
theorem BBp (n : Nat) : BB ^ n = 2 ^ (32 * n) := by rw [Nat.pow_mul]
theorem shl_dig {X b : Nat} (hb : b < 32) : X * 2 ^ b % 18446744073709551616 / 4294967296 = X / 2 ^ (32 - b) % BB := by
  have e1 : 18446744073709551616 = 2 ^ b * (2 ^ (32 - b) * 2 ^ 32) := by
    show 2 ^ 64 = _
    rw [← Nat.pow_add, ← Nat.pow_add]
    congr 1
    omega
  have e2 : 4294967296 = 2 ^ b * 2 ^ (32 - b) := by
    show 2 ^ 32 = _
    rw [← Nat.pow_add]
    congr 1
    omega
  have hp : 0 < 2 ^ b := Nat.pow_pos (by decide)
  rw [e1, Nat.mul_comm X, Nat.mul_mod_mul_left]
  rw [e2, Nat.mul_div_mul_left _ _ hp, Nat.mod_mul_right_div_self]
theorem up_dig {v b i : Nat} (hb : b < 32) (hi : 0 < i) : (lim v i * 4294967296 + lim v (i - 1)) / 2 ^ (32 - b) % BB = lim (v * 2 ^ b) i := by
  obtain ⟨k, rfl⟩ : ∃ k, i = k + 1 := ⟨i - 1, by omega⟩
  rw [Nat.add_sub_cancel]
  unfold lim
  have a1 : v / BB ^ (k + 1) % BB * 4294967296 + v / BB ^ k % BB = v / BB ^ k % (BB * BB) := by
    rw [Nat.mod_mul, Nat.pow_succ, ← Nat.div_div_eq_div_mul, Nat.add_comm, Nat.mul_comm]
  rw [a1]
  have hB : BB * BB = 2 ^ (32 - b) * (BB * 2 ^ b) := by
    show 2 ^ 32 * 2 ^ 32 = 2 ^ (32 - b) * (2 ^ 32 * 2 ^ b)
    rw [← Nat.pow_add, ← Nat.pow_add, ← Nat.pow_add]
    congr 1
    omega
  rw [hB, Nat.mod_mul_right_div_self, Nat.mod_mul_right_mod]
  have hp : 0 < 2 ^ b := Nat.pow_pos (by decide)
  have e3 : BB ^ (k + 1) = BB ^ k * 2 ^ (32 - b) * 2 ^ b := by
    rw [Nat.pow_succ, Nat.mul_assoc, ← Nat.pow_add]
    show _ * 2 ^ 32 = _
    congr 2
    omega
  rw [e3, Nat.mul_div_mul_right _ _ hp, Nat.div_div_eq_div_mul]
theorem s_su_zero {G : SH} {M0 : MS} {d c jump : Nat} (hO0 : Ok G M0) (hd : Is G 8 d) (hr : c + jump < rmw G M0 d) {Q : MS → Prop} {w : Nat} (hQ : ∀ N, Fr G M0 N [d] → vl BB (dgt N d) (c + jump + 1) = w → Wh G N d w false → Q N) :
    ∀ (t j : Nat) (M : MS), j + t = jump → Fr G M0 M [d] → vl BB (dgt M d) j = 0 → BB ^ jump * vl BB (fun i => dgt M d (jump + i)) (c + 1) = w → ∃ n, w_X7_shiftUp_94 G Q n d (nI jump) (nI c) (nI j) M
  | 0, j, M, hj, f1, h0, hv => by
    have h1 := hO0.1 d hd
    refine ⟨1, ?_⟩
    obtain rfl : j = jump := by omega
    rw [w_X7_shiftUp_94, nI_leI (by omega) (by omega), nI_add, nI_1]
    refine ⟨fun _ => s_keep (f1.ok hO0) hd rfl (by rw [f1.room]; omega) (fun P f2 fa f3 => ?_), fun h => absurd (Nat.le_refl _) h⟩
    have e : vl BB (dgt M d) (c + j + 1) = w := by
      rw [show c + j + 1 = j + (c + 1) by omega, vl_low, h0, Nat.zero_add]
      exact hv
    rw [e] at f3
    refine hQ P (f1.tr1 f2) ?_ f3
    rw [← e]
    refine vl_congr (fun i _ => ?_)
    unfold dgt
    rw [f2.2.1, fa]
  | t + 1, j, M, hj, f1, h0, hv => by
    have h1 := hO0.1 d hd
    have hrm := f1.room d
    have f0 : Fr G M (wA M (mR M d 0) (upd (mA M (mR M d 0)) j 0)) [d] := Fr.wA hd _
    obtain ⟨n, ih⟩ := s_su_zero hO0 hd hr hQ t (j + 1) (wA M (mR M d 0) (upd (mA M (mR M d 0)) j 0)) (by omega) (f1.tr1 f0) (by rw [vl_s, vl_put (Nat.le_refl _), dgt_put_s, h0, u32_0, Nat.zero_mul])
      (by rw [← hv]; congr 1; exact vl_congr (fun i _ => dgt_put_ne (by omega)))
    refine ⟨n + 1, ?_⟩
    rw [w_X7_shiftUp_94, nI_leI (by omega) (by omega), cl (c := j) (by omega)]
    refine ⟨fun h => absurd h (by omega), fun _ => ⟨vp_in_nI (by unfold rmw at hr hrm; omega) (by unfold rmw at h1 hrm; omega), fun N eN x ex => ?_⟩⟩
    rw [ex, nI_1, eN]
    exact ih
theorem s_su_loop {G : SH} {M0 : MS} {d a v jump b : Nat} (hO0 : Ok G M0) (hd : Is G 8 d) (ha : Is G 8 a) (hb : b < 32) (hr : nl BB v + jump < rmw G M0 d) {Q : MS → Prop} (hQ : ∀ N, Fr G M0 N [d] → vl BB (dgt N d) (nl BB v + jump + 1) = v * 2 ^ b * BB ^ jump → Wh G N d (v * 2 ^ b * BB ^ jump) false → Q N) :
    ∀ (k : Nat) (M : MS), k ≤ nl BB v + 1 → Fr G M0 M [d] → Lo G M a v k → (∀ t, k ≤ t → t ≤ nl BB v → dgt M d (jump + t) = lim (v * 2 ^ b) t) → ∃ n, w_X7_shiftUp_42 G Q n d a (nI jump) (nI b) (nI (nl BB v)) (nI k - 1) M
  | 0, M, _, f1, la, hv => by
    refine ⟨1, ?_⟩
    rw [w_X7_shiftUp_42]
    refine ⟨fun _ => ?_, fun h => absurd (by decide) h⟩
    rw [← nI_0]
    refine s_su_zero hO0 hd hr hQ jump 0 M (by omega) f1 (vl_0 _ _) ?_
    have e : vl BB (fun i => dgt M d (jump + i)) (nl BB v + 1) = v * 2 ^ b := by
      rw [vl_congr (g := lim (v * 2 ^ b)) (fun i hi => hv i (by omega) (by omega)), vl_lim]
      refine Nat.mod_eq_of_lt ?_
      have h1 := (nl_le BB1 (nl BB v) v).mp (Nat.le_refl _)
      have h2 : 2 ^ b ≤ 2 ^ 32 := Nat.pow_le_pow_right (by decide) (by omega)
      have hp : 0 < 2 ^ b := Nat.pow_pos (by decide)
      rw [Nat.pow_succ]
      calc v * 2 ^ b < BB ^ nl BB v * 2 ^ b := Nat.mul_lt_mul_of_pos_right h1 hp
        _ ≤ BB ^ nl BB v * BB := Nat.mul_le_mul_left _ h2
    rw [e, Nat.mul_comm]
  | k + 1, M, hk, f1, la, hv => by
    have h1 := hO0.1 d hd
    have h2 := hO0.1 a ha
    have hO := f1.ok hO0
    have hrm := f1.room d
    have l1 := la.1
    rw [nI_pred]
    have hstep : ∀ (y : Int64), y = lN ((lim v k * 4294967296 + (if k = 0 then 0 else lim v (k - 1))) * 2 ^ b % 18446744073709551616 / 4294967296) → y.toInt32 = nI (lim (v * 2 ^ b) k) := by
      intro y ey
      rw [ey, lN_i, shl_dig hb]
      congr 1
      by_cases h0 : k = 0
      · subst h0
        rw [if_pos rfl, Nat.add_zero]
        unfold lim
        rw [Nat.pow_zero, Nat.div_one, Nat.div_one]
        have hp : 0 < 2 ^ (32 - b) := Nat.pow_pos (by decide)
        have e2 : (4294967296 : Nat) = 2 ^ b * 2 ^ (32 - b) := by
          show 2 ^ 32 = _
          rw [← Nat.pow_add]
          congr 1
          omega
        rw [e2, ← Nat.mul_assoc, Nat.mul_div_cancel _ hp, Nat.mul_mod, Nat.mod_mod, ← Nat.mul_mod]
      · rw [if_neg h0]
        exact up_dig hb (by omega)
    have f0 : Fr G M (wA M (mR M d 0) (upd (mA M (mR M d 0)) (k + jump) (nI (lim (v * 2 ^ b) k)))) [d] := Fr.wA hd _
    obtain ⟨n, ih⟩ := s_su_loop hO0 hd ha hb hr hQ k (wA M (mR M d 0) (upd (mA M (mR M d 0)) (k + jump) (nI (lim (v * 2 ^ b) k)))) (by omega) (f1.tr1 f0) (la.put (by omega))
      (fun t ht hl => by
        rcases Nat.eq_or_lt_of_le ht with e | e
        · subst e
          rw [Nat.add_comm jump, dgt_put_s, u32_nI_lt (lim_l _ _)]
        · rw [dgt_put_ne (by omega)]
          exact hv t (by omega) hl)
    refine ⟨n + 1, ?_⟩
    rw [w_X7_shiftUp_42, nI_add k jump, cl (c := k + jump) (by omega)]
    refine ⟨fun h => absurd h (nI_lt0 (by omega)), fun _ => ?_⟩
    refine s_limb_lo hO ha la rfl (by omega) (by omega) ?_
    have tail : ∀ (lo : Nat), lo = (if k = 0 then 0 else lim v (k - 1)) → ∀ x7_12 : Int64, x7_12 = (lN (lim v k) <<< ((32 : Int32).toInt64 &&& 63)) ||| lN lo → (vp_in (nI (k + jump)) (G.2.2.1 (mR M d 0)) ∧ (∀ M14 : MS, M14 = wA M (mR M d 0) (upd (mA M (mR M d 0)) (k + jump) ((((x7_12 <<< ((nI b).toInt64 &&& 63)).toUInt64 >>> ((32 : Int32).toInt64.toUInt64 &&& Int64.toUInt64 63)).toInt64).toInt32)) → (∀ x6_15 : Int32, x6_15 = nI k + (-1) → w_X7_shiftUp_42 G Q n d a (nI jump) (nI b) (nI (nl BB v)) x6_15 M14))) := by
      intro lo hlo y ey
      have l2 := lim_l v k
      have l3 : lo < 4294967296 := by
        rw [hlo]
        by_cases h0 : k = 0
        · rw [if_pos h0]; decide
        · rw [if_neg h0]; exact lim_l _ _
      rw [shl_lN32, g_or (k := 32) (p := 4294967296) rfl l3 (by omega)] at ey
      refine ⟨vp_in_nI (by unfold rmw at hr hrm; omega) (by unfold rmw at h1 hrm; omega), fun N eN x ex => ?_⟩
      rw [ey, wb_shl _ (by omega), wb_mod, ushr_lN32 (Nat.mod_lt _ (by decide))] at eN
      rw [hstep _ (by rw [hlo])] at eN
      rw [ex, show nI k + -1 = nI k - 1 from (Int32.sub_eq_add_neg ..).symm, eN]
      exact ih
    by_cases h0 : k = 0
    · subst h0
      refine s_limb_neg (by decide) ?_
      exact tail 0 (by rw [if_pos rfl])
    · obtain ⟨k', rfl⟩ : ∃ k', k = k' + 1 := ⟨k - 1, by omega⟩
      rw [nI_pred]
      refine s_limb_lo hO ha la rfl (by omega) (by omega) ?_
      exact tail (lim v k') (by rw [if_neg h0, Nat.add_sub_cancel])
theorem pow_split (n : Nat) : 2 ^ n = 2 ^ (n % 32) * BB ^ (n / 32) := by
  rw [BBp, ← Nat.pow_add]
  congr 1
  omega
theorem s_shiftUp {G : SH} {M : MS} {d a v n : Nat} {sa : Bool} {i : Int32} (hO : Ok G M) (hd : Is G 8 d) (ha : Is G 8 a) (wa : Wh G M a v sa) (hi : i = nI n) (hn : n < 2147483648) (hr : nl BB v + n / 32 < rmw G M d) {Q : MS → Prop} (hQ : ∀ N, Fr G M N [d] → vl BB (dgt N d) (nl BB v + n / 32 + 1) = v * 2 ^ n → Wh G N d (v * 2 ^ n) false → Q N) : w_X7_shiftUp G d a i M Q := by
  unfold w_X7_shiftUp
  intro x ex y ey z ez
  have h1 := hO.1 d hd
  rw [hi, shr5 hn] at ex
  rw [hi, and31 hn] at ey
  rw [wa.2.1] at ez
  rw [ex, ey, ez, hi, nI_add, nI_ltI (by omega) (by unfold rmw at h1; omega)]
  refine ⟨fun h => absurd h (nI_lt0 hn), fun _ => ⟨fun _ => ?_, fun h => absurd (by unfold rmw at hr; exact hr) h⟩⟩
  have e : v * 2 ^ n = v * 2 ^ (n % 32) * BB ^ (n / 32) := by rw [pow_split n, Nat.mul_assoc]
  rw [e] at hQ
  have := s_su_loop hO hd ha (b := n % 32) (Nat.mod_lt _ (by decide)) hr hQ (nl BB v + 1) M (Nat.le_refl _) (Fr.rf (by simpa using hd)) (wa.lo _) (fun t h1 h2 => by omega)
  rw [nI_pred] at this
  exact this
/-! shiftDown -/
theorem s_sd_loop {G : SH} {M0 : MS} {d a v n c : Nat} (hO0 : Ok G M0) (hd : Is G 8 d) (ha : Is G 8 a) (hc : nl BB (v / 2 ^ n) ≤ c) (hn : n < 1000000) (hr : c ≤ rmw G M0 d) {Q : MS → Prop} (hQ : ∀ N, Fr G M0 N [d] → Wh G N d (v / 2 ^ n) false → Q N) :
    ∀ (t i : Nat) (M : MS), i + t = c → Fr G M0 M [d] → Up G M a v i → (∀ k, k < i → dgt M d k = lim (v / 2 ^ n) k) → ∃ m, w_X7_shiftDown_40 G Q m d a (nI n) (nI c) (nI i) M
  | 0, i, M, hi, f1, ua, hv => by
    have h1 := hO0.1 d hd
    refine ⟨1, ?_⟩
    obtain rfl : i = c := by omega
    rw [w_X7_shiftDown_40, nI_leI (by omega) (by omega)]
    refine ⟨fun _ => s_keep (f1.ok hO0) hd rfl (by rw [f1.room]; exact hr) (fun P f2 _ f3 => hQ P (f1.tr1 f2) ?_), fun h => absurd (Nat.le_refl _) h⟩
    rw [vl_congr (g := lim (v / 2 ^ n)) (fun k hk => hv k hk), vl_lim_all hc] at f3
    exact f3
  | t + 1, i, M, hi, f1, ua, hv => by
    have h1 := hO0.1 d hd
    have hO := f1.ok hO0
    have hrm := f1.room d
    have e : v / 2 ^ (32 * i + n) % BB = lim (v / 2 ^ n) i := by
      unfold lim
      rw [BBp, Nat.div_div_eq_div_mul, ← Nat.pow_add, Nat.add_comm]
    have f0 : Fr G M (wA M (mR M d 0) (upd (mA M (mR M d 0)) i (nI (lim (v / 2 ^ n) i)))) [d] := Fr.wA hd _
    obtain ⟨m, ih⟩ := s_sd_loop hO0 hd ha hc hn hr hQ t (i + 1) (wA M (mR M d 0) (upd (mA M (mR M d 0)) i (nI (lim (v / 2 ^ n) i)))) (by omega) (f1.tr1 f0) ua.put
      (fun k hk => by
        rcases Nat.eq_or_lt_of_le (Nat.le_of_lt_succ hk) with e | e
        · subst e
          rw [dgt_put_s, u32_nI_lt (lim_l _ _)]
        · rw [dgt_put_ne (by omega)]
          exact hv k e)
    refine ⟨m + 1, ?_⟩
    rw [w_X7_shiftDown_40, nI_leI (by omega) (by omega), show (32 : Int32) = nI 32 from rfl, pk_mul, nI_add, cl (c := i) (by omega)]
    refine ⟨fun h => absurd h (by omega), fun _ => ?_⟩
    refine s_window_up hO ha ua rfl (by omega) (by omega) ⟨vp_in_nI (by unfold rmw at hr hrm; omega) (by unfold rmw at h1 hrm; omega), fun N eN x ex => ?_⟩
    rw [e, lN_i] at eN
    rw [ex, nI_1, eN]
    exact ih
theorem s_shiftDown {G : SH} {M : MS} {d a v n : Nat} {sa : Bool} {i : Int32} (hO : Ok G M) (hd : Is G 8 d) (ha : Is G 8 a) (wa : Wh G M a v sa) (hi : i = nI n) (hn : n < 1000000) (hr : nl BB v - n / 32 ≤ rmw G M d) {Q : MS → Prop} (hQ : ∀ N, Fr G M N [d] → Wh G N d (v / 2 ^ n) false → Q N) : w_X7_shiftDown G d a i M Q := by
  unfold w_X7_shiftDown
  intro x ex y ey
  have h1 := hO.1 d hd
  have h2 := hO.1 a ha
  have a1 := wa.1
  rw [hi, shr5 (by omega)] at ex
  rw [wa.2.1, ex] at ey
  have hlt : v / 2 ^ n < BB ^ (nl BB v - n / 32) := by
    rw [Nat.div_lt_iff_lt_mul (Nat.pow_pos (by decide))]
    have b1 := (nl_le BB1 (nl BB v) v).mp (Nat.le_refl _)
    refine Nat.lt_of_lt_of_le b1 ?_
    rw [BBp, BBp, ← Nat.pow_add]
    exact Nat.pow_le_pow_right (by decide) (by omega)
  refine ⟨fun h => absurd h (by rw [hi]; exact nI_lt0 (by omega)), fun _ => ⟨fun h => ?_, fun h => ⟨fun _ => ?_, fun h3 => ?_⟩⟩⟩
  · rw [← nI_0]
    refine s_keep hO hd rfl (Nat.zero_le _) (fun P f2 _ f3 => hQ P f2 ?_)
    have : nl BB v - n / 32 = 0 := by
      rcases Nat.lt_or_ge (n / 32) (nl BB v) with q | q
      · rw [pk_sub (by omega)] at ey
        rw [ey, nI_le0 (by omega)] at h
        exact h
      · omega
    rw [this, Nat.pow_zero] at hlt
    rw [Nat.lt_one_iff.mp hlt]
    rw [vl_0] at f3
    exact f3
  · have hq : n / 32 < nl BB v := by
      rcases Nat.lt_or_ge (n / 32) (nl BB v) with q | q
      · exact q
      · refine absurd ?_ h
        rw [ey, fa_le, ← nI_0, nI_toInt (by decide), pk_sub_toInt (by omega) (by omega)]
        omega
    rw [pk_sub (by omega)] at ey
    rw [ey, hi]
    have hc : nl BB (v / 2 ^ n) ≤ nl BB v - n / 32 := (nl_le BB1 _ _).mpr hlt
    rw [← nI_0]
    exact s_sd_loop hO hd ha hc hn hr hQ (nl BB v - n / 32) 0 M (by omega) (Fr.rf (by simpa using hd)) wa.up (fun k hk => absurd hk (Nat.not_lt_zero _))
  · have hq : n / 32 < nl BB v := by
      rcases Nat.lt_or_ge (n / 32) (nl BB v) with q | q
      · exact q
      · refine absurd ?_ h
        rw [ey, fa_le, ← nI_0, nI_toInt (by decide), pk_sub_toInt (by omega) (by omega)]
        omega
    rw [pk_sub (by omega)] at ey
    rw [ey, nI_leI (by omega) (by unfold rmw at h1; omega)] at h3
    exact absurd (by unfold rmw at hr; exact hr) h3
