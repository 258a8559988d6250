/-! Knuth's division: plain facts -/
theorem kn1 {P D Dh dl W Wh wl q : Nat} (hD : D = dl + P * Dh) (hW : W = wl + P * Wh) (hw : wl < P) (h : q * D ≤ W) : q * Dh ≤ Wh := by
  have h1 : P * (q * Dh) ≤ q * D := by
    rw [hD, Nat.mul_add, Nat.mul_left_comm]
    exact Nat.le_add_left _ _
  have h2 : P * (q * Dh) < P * (Wh + 1) := by
    rw [Nat.mul_add, Nat.mul_one]
    omega
  have := Nat.lt_of_mul_lt_mul_left h2
  omega
theorem kn2 {P D Dh dl W Wh wl s k : Nat} (hD : D = dl + P * Dh) (hd : dl < P) (hW : W = wl + P * Wh) (h : (s + k) * Dh ≤ Wh) (hs : s ≤ k * Dh) : s * D ≤ W := by
  have h1 : s * D ≤ s * (P * Dh + P) := Nat.mul_le_mul_left _ (by omega)
  have h2 : s * (P * Dh + P) = P * (s * Dh + s) := by grind
  have h3 : P * (s * Dh + s) ≤ P * Wh := Nat.mul_le_mul_left _ (by rw [Nat.add_mul] at h; omega)
  omega
theorem kn3 {P D Dh dl W Wh wl q : Nat} (hD : D = dl + P * Dh) (hW : W = wl + P * Wh) (hw : wl < P) (h : Wh < q * Dh) : W < q * D := by
  have h1 : P * (Wh + 1) ≤ P * (q * Dh) := Nat.mul_le_mul_left _ h
  have h2 : P * (q * Dh) ≤ q * D := by
    rw [hD, Nat.mul_add, Nat.mul_left_comm]
    exact Nat.le_add_left _ _
  rw [Nat.mul_add, Nat.mul_one] at h1
  omega
/-! takeAway -/
def wd (M : MS) (m j : Nat) : Nat → Nat := fun t => dgt M m (j + t)
theorem wd_lt (M : MS) (m j i : Nat) : wd M m j i < BB := dgt_lt M m _
theorem vl_wd_put {M : MS} {m j i n : Nat} {z : Int32} (h : n ≤ i) : vl BB (wd (wA M (mR M m 0) (upd (mA M (mR M m 0)) (j + i) z)) m j) n = vl BB (wd M m j) n := vl_congr (fun t ht => dgt_put_ne (by omega))
theorem wd_put_s {M : MS} {m j i : Nat} {z : Int32} : wd (wA M (mR M m 0) (upd (mA M (mR M m 0)) (j + i) z)) m j i = u32 z := dgt_put_s
theorem s_take_loop {G : SH} {M0 : MS} {m x D j dg : Nat} {sx : Bool} (hO0 : Ok G M0) (hm : Is G 8 m) (hx : Is G 8 x) (hxm : x ≠ m) (wx0 : Wh G M0 x D sx) (hdg : dg < 4294967296) (hr : j + nl BB D < rmw G M0 m) {Q : Int32 → MS → Prop}
    (hQ : ∀ (N : MS) (r : Int32), Fr G M0 N [m] → (∀ t, t < j ∨ j + nl BB D < t → dgt N m t = dgt M0 m t) → (r = 0 ∧ vl BB (wd N m j) (nl BB D + 1) + dg * D = vl BB (wd M0 m j) (nl BB D + 1)) ∨ (r = 1 ∧ vl BB (wd N m j) (nl BB D + 1) + dg * D = vl BB (wd M0 m j) (nl BB D + 1) + BB ^ (nl BB D + 1)) → Q r N) :
    ∀ (t i : Nat) (M : MS) (cy : Nat) (bo : Int), i + t = nl BB D → Fr G M0 M [m] → cy < 4294967296 → (bo = 0 ∨ bo = -1) → (∀ k, k < j ∨ j + i ≤ k → dgt M m k = dgt M0 m k) → (vl BB (wd M m j) i : Int) + bo * (BB ^ i : Nat) - cy * (BB ^ i : Nat) = vl BB (wd M0 m j) i - dg * (D % BB ^ i : Nat) → ∃ n, w_X0_takeAway_18 G Q n (mR M0 m 0) (nI j) (nI (nl BB D)) (lN dg) (mR M0 x 0) (lN cy) (lZ bo) (nI i) M
  | 0, i, M, cy, bo, hi, f1, hcy, hbo, hk, hF => by
    have h1 := hO0.1 m hm
    have hq : mR M m 0 = mR M0 m 0 := f1.2.1 m 0
    obtain rfl : i = nl BB D := by omega
    refine ⟨1, ?_⟩
    rw [w_X0_takeAway_18, nI_leI (by omega) (by omega), nI_add j, cl (c := j + nl BB D) (by omega), mask_lN]
    have hv := vp_in_nI (n := j + nl BB D) (N := G.2.2.1 (mR M0 m 0)) (by unfold rmw at hr; omega) (by unfold rmw at h1; omega)
    refine ⟨fun _ => ⟨hv, fun y ey => ⟨hv, fun N eN => ?_⟩⟩, fun h => absurd (Nat.le_refl _) h⟩
    have hold : u32 (mA M (mR M0 m 0) (j + nl BB D)) = wd M0 m j (nl BB D) := by
      rw [← hq]
      exact hk (j + nl BB D) (Or.inr (Nat.le_refl _))
    have hol := wd_lt M0 m j (nl BB D)
    rw [hold, lN_lZ, lN_lZ, lZ_sub, lZ_add] at ey
    generalize hs : bo + ((wd M0 m j (nl BB D) : Int) - (cy : Int)) = s at ey
    rw [← hq] at eN
    rw [ey, lZ_i] at eN
    have f2 : Fr G M N [m] := by rw [eN]; exact Fr.wA hm _
    have hpos : (0 : Int64) ≤ y ↔ 0 ≤ s := by
      rw [ey, fa_le64, lZ_toInt (by have : (BB : Nat) = 4294967296 := rfl; omega) (by have : (BB : Nat) = 4294967296 := rfl; omega)]
      rfl
    rw [hpos]
    have hdig : ∀ t, t < j ∨ j + nl BB D < t → dgt N m t = dgt M0 m t := fun t ht => by
      rw [eN, dgt_put_ne (by omega)]
      exact hk t (by omega)
    have hu := u32_iZ s
    have hval : vl BB (wd N m j) (nl BB D + 1) = vl BB (wd M m j) (nl BB D) + u32 (iZ s) * BB ^ nl BB D := by
      rw [vl_s, eN, vl_wd_put (Nat.le_refl _), wd_put_s]
    rw [mod_all (Nat.le_refl _)] at hF
    have hBB : (BB : Nat) = 4294967296 := rfl
    have key : (vl BB (wd N m j) (nl BB D + 1) : Int) + dg * D = vl BB (wd M0 m j) (nl BB D + 1) + (((u32 (iZ s) : Nat) : Int) - s) * (BB ^ nl BB D : Nat) := by
      rw [hval, vl_s, Int.natCast_add, Int.natCast_add, Int.natCast_mul, Int.natCast_mul]
      generalize ((BB ^ nl BB D : Nat) : Int) = X at hF ⊢
      rw [← hs]
      have e1 : (((u32 (iZ s) : Nat) : Int) - (bo + ((wd M0 m j (nl BB D) : Int) - (cy : Int)))) * X = ((u32 (iZ s) : Nat) : Int) * X - bo * X - (wd M0 m j (nl BB D) : Int) * X + (cy : Int) * X := by grind
      rw [hs] at e1 ⊢
      rw [e1]
      omega
    refine ⟨fun h => hQ N 0 (f1.tr1 f2) hdig (Or.inl ⟨rfl, ?_⟩), fun h => hQ N 1 (f1.tr1 f2) hdig (Or.inr ⟨rfl, ?_⟩)⟩
    · have e : ((u32 (iZ s) : Nat) : Int) - s = 0 := by omega
      rw [e, Int.zero_mul, Int.add_zero] at key
      have : ((dg * D : Nat) : Int) = (dg : Int) * D := Int.natCast_mul _ _
      omega
    · have e : ((u32 (iZ s) : Nat) : Int) - s = 4294967296 := by omega
      rw [e] at key
      have h2 : ((dg * D : Nat) : Int) = (dg : Int) * D := Int.natCast_mul _ _
      have h3 : ((BB ^ (nl BB D + 1) : Nat) : Int) = 4294967296 * ((BB ^ nl BB D : Nat) : Int) := by
        rw [Nat.pow_succ, Int.natCast_mul, Int.mul_comm]
        rfl
      omega
  | t + 1, i, M, cy, bo, hi, f1, hcy, hbo, hk, hF => by
    have h1 := hO0.1 m hm
    have hq : mR M m 0 = mR M0 m 0 := f1.2.1 m 0
    have hqx : mR M x 0 = mR M0 x 0 := f1.2.1 x 0
    have hO := f1.ok hO0
    have wx := f1.wh hO0 hx (by simpa using hxm) wx0
    have hrx := hO0.1 x hx
    have x1 := wx0.1
    have lx := lim_l D i
    have hdl := mul_le_sq hdg lx
    generalize hc1 : cy + dg * lim D i = c1
    have hold : u32 (mA M (mR M0 m 0) (j + i)) = wd M0 m j i := by
      rw [← hq]
      exact hk (j + i) (Or.inr (Nat.le_refl _))
    have hol : wd M0 m j i < 4294967296 := wd_lt M0 m j i
    generalize hs : bo + ((wd M0 m j i : Int) - ((c1 % 4294967296 : Nat) : Int)) = s
    have f0 : Fr G M (wA M (mR M m 0) (upd (mA M (mR M m 0)) (j + i) (iZ s))) [m] := Fr.wA hm _
    obtain ⟨n, ih⟩ := s_take_loop hO0 hm hx hxm wx0 hdg hr hQ t (i + 1) (wA M (mR M m 0) (upd (mA M (mR M m 0)) (j + i) (iZ s))) (c1 / 4294967296) (s / 4294967296) (by omega) (f1.tr1 f0) (by omega) (by omega) (fun k hk2 => by rw [dgt_put_ne (by omega)]; exact hk k (by omega))
      (by
        rw [vl_s, vl_wd_put (Nat.le_refl _), wd_put_s, vl_s, mod_s, Nat.pow_succ]
        have hu := u32_iZ s
        generalize u32 (iZ s) = w at hu
        have hs2 : 4294967296 * (s / 4294967296) + s % 4294967296 = s := Int.mul_ediv_add_emod s 4294967296
        rw [← hu] at hs2
        generalize s / 4294967296 = b1 at hs2
        have hc2 : 4294967296 * (c1 / 4294967296) + c1 % 4294967296 = c1 := Nat.div_add_mod _ _
        generalize c1 / 4294967296 = c2 at hc2
        generalize c1 % 4294967296 = lo at hc2 hs
        generalize BB ^ i = X at hF
        generalize vl BB (wd M m j) i = V at hF
        generalize vl BB (wd M0 m j) i = V0 at hF
        generalize wd M0 m j i = o at hs
        generalize lim D i = dd at hc1
        generalize D % X = Dm at hF
        have hBB : ((BB : Nat) : Int) = 4294967296 := rfl
        simp only [Int.natCast_add, Int.natCast_mul, hBB]
        have hc3 : (4294967296 : Int) * c2 + lo = cy + dg * dd := by
          have := congrArg (fun z : Nat => (z : Int)) hc2
          rw [← hc1] at this
          simp only [Int.natCast_add, Int.natCast_mul] at this
          exact this
        have a1 : (4294967296 * b1 + (w : Int)) * X = (bo + ((o : Int) - (lo : Int))) * X := by rw [hs2, hs]
        have a2 : ((4294967296 : Int) * c2 + lo) * X = ((cy : Int) + dg * dd) * X := by rw [hc3]
        grind)
    refine ⟨n + 1, ?_⟩
    rw [w_X0_takeAway_18, nI_leI (by omega) (by omega), nI_add i j, Nat.add_comm i j, cl (c := i) (by omega), cl (c := j + i) (by omega), mask_lN, mask_lN, mask_lN]
    have hv := vp_in_nI (n := j + i) (N := G.2.2.1 (mR M0 m 0)) (by unfold rmw at hr; omega) (by unfold rmw at h1; omega)
    refine ⟨fun h => absurd h (by omega), fun _ => ⟨vp_in_nI (by unfold rmw at x1; omega) (by unfold rmw at hrx; omega), fun y ey => ⟨hv, fun z ez => ⟨hv, fun N eN p ep q eq r er => ?_⟩⟩⟩⟩
    rw [← hqx, wx.lim (by omega), lN_mul, lN_add, hc1] at ey
    rw [hold, ey, show (4294967295 : Int64) = lN (2 ^ 32 - 1) from rfl, wb_mask (by omega) (by decide), lN_lZ, lN_lZ, lZ_sub, lZ_add] at ez
    rw [show (c1 % 2 ^ 32 : Nat) = c1 % 4294967296 from rfl, hs] at ez
    rw [ez, lZ_i, ← hq] at eN
    rw [ey, ushr_lN32 (by omega)] at ep
    rw [ez, shr_lZ32 (by omega) (by omega)] at eq
    rw [er, nI_1, ep, eq, eN]
    exact ih
theorem s_takeAway {G : SH} {M : MS} {dv m x D j dg : Nat} {sx : Bool} (hO : Ok G M) (hm : Is G 8 m) (hx : Is G 8 x) (ex : mR M dv 0 = x) (hxm : x ≠ m) (wx : Wh G M x D sx) (hdg : dg < 4294967296) (hr : j + nl BB D < rmw G M m) {Q : Int32 → MS → Prop}
    (hQ : ∀ (N : MS) (r : Int32), Fr G M N [m] → (∀ t, t < j ∨ j + nl BB D < t → dgt N m t = dgt M m t) → (r = 0 ∧ vl BB (wd N m j) (nl BB D + 1) + dg * D = vl BB (wd M m j) (nl BB D + 1)) ∨ (r = 1 ∧ vl BB (wd N m j) (nl BB D + 1) + dg * D = vl BB (wd M m j) (nl BB D + 1) + BB ^ (nl BB D + 1)) → Q r N) : w_X0_takeAway G dv (mR M m 0) (nI j) (nI (nl BB D)) (lN dg) M Q := by
  unfold w_X0_takeAway
  rw [ex]
  exact s_take_loop hO hm hx hxm wx hdg hr hQ (nl BB D) 0 M 0 0 (by omega) (Fr.rf (by simpa using hm)) (by decide) (Or.inl rfl) (fun _ _ => rfl) (by rw [vl_0, Nat.pow_zero, Nat.mod_one]; simp)
/-! giveBack -/
theorem u32_add (x : Int32) (n : Nat) : u32 (x + nI n) = (u32 x + n) % 4294967296 := by
  rw [← nI_u32 x, nI_add, u32_nI, nI_u32]
theorem s_give_loop {G : SH} {M0 : MS} {dv m x D j : Nat} {sx : Bool} (hO0 : Ok G M0) (hm : Is G 8 m) (hx : Is G 8 x) (ex : mR M0 dv 0 = x) (hxm : x ≠ m) (wx0 : Wh G M0 x D sx) (hr : j + nl BB D < rmw G M0 m) {Q : MS → Prop}
    (hQ : ∀ (N : MS) (e : Nat), Fr G M0 N [m] → (∀ t, t < j ∨ j + nl BB D < t → dgt N m t = dgt M0 m t) → vl BB (wd N m j) (nl BB D + 1) + e * BB ^ (nl BB D + 1) = vl BB (wd M0 m j) (nl BB D + 1) + D → e ≤ 1 → Q N) :
    ∀ (t i : Nat) (M : MS) (cy : Nat), i + t = nl BB D → Fr G M0 M [m] → cy ≤ 1 → (∀ k, k < j ∨ j + i ≤ k → dgt M m k = dgt M0 m k) → vl BB (wd M m j) i + cy * BB ^ i = vl BB (wd M0 m j) i + D % BB ^ i → ∃ n, w_X0_giveBack_6 G Q n dv (mR M0 m 0) (nI j) (nI (nl BB D)) (lN cy) (nI i) M
  | 0, i, M, cy, hi, f1, hcy, hk, hF => by
    have h1 := hO0.1 m hm
    have hq : mR M m 0 = mR M0 m 0 := f1.2.1 m 0
    obtain rfl : i = nl BB D := by omega
    refine ⟨1, ?_⟩
    rw [w_X0_giveBack_6, nI_leI (by omega) (by omega), nI_add j, cl (c := j + nl BB D) (by omega), lN_i]
    have hv := vp_in_nI (n := j + nl BB D) (N := G.2.2.1 (mR M0 m 0)) (by unfold rmw at hr; omega) (by unfold rmw at h1; omega)
    refine ⟨fun _ => ⟨hv, hv, fun N eN => ?_⟩, fun h => absurd (Nat.le_refl _) h⟩
    have hold : u32 (mA M (mR M m 0) (j + nl BB D)) = wd M0 m j (nl BB D) := hk (j + nl BB D) (Or.inr (Nat.le_refl _))
    have hol : wd M0 m j (nl BB D) < 4294967296 := wd_lt M0 m j (nl BB D)
    rw [← hq] at eN
    have f2 : Fr G M N [m] := by rw [eN]; exact Fr.wA hm _
    have hdm := Nat.div_add_mod (wd M0 m j (nl BB D) + cy) 4294967296
    refine hQ N ((wd M0 m j (nl BB D) + cy) / 4294967296) (f1.tr1 f2) (fun t ht => by rw [eN, dgt_put_ne (by omega)]; exact hk t (by omega)) ?_ (by omega)
    rw [mod_all (Nat.le_refl _)] at hF
    rw [vl_s, eN, vl_wd_put (Nat.le_refl _), wd_put_s, u32_add, hold, vl_s, Nat.pow_succ]
    generalize (wd M0 m j (nl BB D) + cy) / 4294967296 = e at hdm
    generalize (wd M0 m j (nl BB D) + cy) % 4294967296 = w at hdm
    have a1 : e * (BB ^ nl BB D * BB) + w * BB ^ nl BB D = (4294967296 * e + w) * BB ^ nl BB D := by show e * (BB ^ nl BB D * 4294967296) + _ = _; grind
    rw [hdm, Nat.add_mul] at a1
    omega
  | t + 1, i, M, cy, hi, f1, hcy, hk, hF => by
    have h1 := hO0.1 m hm
    have hq : mR M m 0 = mR M0 m 0 := f1.2.1 m 0
    have hqd : mR M dv 0 = x := (f1.2.1 dv 0).trans ex
    have hO := f1.ok hO0
    have wx := f1.wh hO0 hx (by simpa using hxm) wx0
    have lx := lim_l D i
    have hold : u32 (mA M (mR M0 m 0) (j + i)) = wd M0 m j i := by
      rw [← hq]
      exact hk (j + i) (Or.inr (Nat.le_refl _))
    have hol : wd M0 m j i < 4294967296 := wd_lt M0 m j i
    generalize hs : cy + (wd M0 m j i + lim D i) = s
    have f0 : Fr G M (wA M (mR M m 0) (upd (mA M (mR M m 0)) (j + i) (nI s))) [m] := Fr.wA hm _
    obtain ⟨n, ih⟩ := s_give_loop hO0 hm hx ex hxm wx0 hr hQ t (i + 1) (wA M (mR M m 0) (upd (mA M (mR M m 0)) (j + i) (nI s))) (s / 4294967296) (by omega) (f1.tr1 f0) (by omega) (fun k hk2 => by rw [dgt_put_ne (by omega)]; exact hk k (by omega))
      (by
        rw [vl_s, vl_wd_put (Nat.le_refl _), wd_put_s, u32_nI, vl_s, mod_s, Nat.pow_succ]
        have hdm := Nat.div_add_mod s 4294967296
        generalize s / 4294967296 = e at hdm
        generalize s % 4294967296 = w at hdm
        have a1 : e * (BB ^ i * BB) + w * BB ^ i = (4294967296 * e + w) * BB ^ i := by show e * (BB ^ i * 4294967296) + _ = _; grind
        rw [hdm, ← hs, Nat.add_mul, Nat.add_mul] at a1
        omega)
    refine ⟨n + 1, ?_⟩
    rw [w_X0_giveBack_6, nI_leI (by omega) (by omega), nI_add i j, Nat.add_comm i j, cl (c := j + i) (by omega), mask_lN, hqd, hold]
    have hv := vp_in_nI (n := j + i) (N := G.2.2.1 (mR M0 m 0)) (by unfold rmw at hr; omega) (by unfold rmw at h1; omega)
    refine ⟨fun h => absurd h (by omega), fun _ => ⟨hv, s_limb hO hx wx rfl (by omega) (fun y ey => ⟨hv, fun N eN p ep r er => ?_⟩)⟩⟩
    rw [lN_add, lN_add, hs] at ey
    rw [ey, lN_i, ← hq] at eN
    rw [ey, ushr_lN32 (by omega)] at ep
    rw [er, nI_1, ep, eN]
    exact ih
theorem s_giveBack {G : SH} {M : MS} {dv m x D j : Nat} {sx : Bool} (hO : Ok G M) (hm : Is G 8 m) (hx : Is G 8 x) (ex : mR M dv 0 = x) (hxm : x ≠ m) (wx : Wh G M x D sx) (hr : j + nl BB D < rmw G M m) {Q : MS → Prop}
    (hQ : ∀ (N : MS) (e : Nat), Fr G M N [m] → (∀ t, t < j ∨ j + nl BB D < t → dgt N m t = dgt M m t) → vl BB (wd N m j) (nl BB D + 1) + e * BB ^ (nl BB D + 1) = vl BB (wd M m j) (nl BB D + 1) + D → e ≤ 1 → Q N) : w_X0_giveBack G dv (mR M m 0) (nI j) (nI (nl BB D)) M Q := by
  unfold w_X0_giveBack
  exact s_give_loop hO hm hx ex hxm wx hr hQ (nl BB D) 0 M 0 (by omega) (Fr.rf (by simpa using hm)) (by decide) (fun _ _ => rfl) (by rw [vl_0, Nat.pow_zero, Nat.mod_one])
