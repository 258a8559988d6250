/-! quotientLimb -/
theorem s_ql166 {G : SH} {M : MS} {dv m x D j qh W : Nat} {sx : Bool} (hO : Ok G M) (hm : Is G 8 m) (hx : Is G 8 x) (ex : mR M dv 0 = x) (hxm : x ≠ m) (wx : Wh G M x D sx) (hD : 0 < D) (hr : j + nl BB D < rmw G M m) (hW : vl BB (wd M m j) (nl BB D + 1) = W) (h1 : W / D ≤ qh) (h2 : qh ≤ W / D + 1) (h3 : qh < 4294967296) {Q : Int32 → MS → Prop}
    (hQ : ∀ N, Fr G M N [m] → (∀ t, t < j ∨ j + nl BB D < t → dgt N m t = dgt M m t) → vl BB (wd N m j) (nl BB D + 1) = W % D → Q (nI (W / D)) N) : w_X0_quotientLimb_166 G Q dv (mR M m 0) (nI j) (nI (nl BB D)) (lN qh) M := by
  unfold w_X0_quotientLimb_166
  have hdm := Nat.div_add_mod W D
  have hml := Nat.mod_lt W hD
  have hle : ∀ z, z * D ≤ W → z ≤ W / D := fun z hz => (Nat.le_div_iff_mul_le hD).mpr hz
  generalize W / D = q at h1 h2 hdm hQ hle
  generalize W % D = rr at hdm hml hQ
  refine s_takeAway hO hm hx ex hxm wx h3 hr (fun N r f1 f2 f3 => ⟨fun h => ?_, fun h => ?_⟩)
  · rcases f3 with ⟨-, f3⟩ | ⟨f3, -⟩
    · rw [hW] at f3
      have e : qh = q := by
        have : qh ≤ q := hle qh (by omega)
        omega
      rw [lN_i, e]
      refine hQ N f1 f2 ?_
      rw [e, Nat.mul_comm] at f3
      omega
    · rw [f3] at h
      exact absurd h (by decide)
  · rcases f3 with ⟨f3, -⟩ | ⟨-, f3⟩
    · exact absurd f3 h
    · rw [hW] at f3
      have hlt := vl_lt (B := BB) (f := wd N m j) (n := nl BB D + 1) (fun i _ => wd_lt N m j i)
      have e : qh = q + 1 := by
        rcases Nat.lt_or_ge qh (q + 1) with c | c
        · have : qh = q := by omega
          rw [this, Nat.mul_comm] at f3
          omega
        · omega
      have wx2 := f1.wh hO hx (by simpa using hxm) wx
      have hq : mR N m 0 = mR M m 0 := f1.2.1 m 0
      rw [← hq]
      refine s_giveBack (f1.ok hO) hm hx ((f1.2.1 dv 0).trans ex) hxm wx2 (by rw [f1.room]; exact hr) (fun P e2 g1 g2 g3 g4 => ?_)
      intro y ey
      rw [ey, show (1 : Int64) = lN 1 from rfl, lN_sub (by omega), lN_i, e, Nat.add_sub_cancel]
      refine hQ P (f1.tr1 g1) (fun t ht => (g2 t ht).trans (f2 t ht)) ?_
      have hlt2 := vl_lt (B := BB) (f := wd P m j) (n := nl BB D + 1) (fun i _ => wd_lt P m j i)
      rw [e, Nat.add_mul, Nat.one_mul, Nat.mul_comm] at f3
      rcases (show e2 = 0 ∨ e2 = 1 by omega) with rfl | rfl
      · rw [Nat.zero_mul] at g3
        omega
      · rw [Nat.one_mul] at g3
        omega
theorem lt_aux {X Y A B C af : Nat} (e : X = A + B) (e2 : Y = C + A) (h : C + af < B) : Y + af < X := by omega
theorem lt_aux2 {X Y Z U : Nat} (h : X < U) (h1 : U = Y) (h2 : Y ≤ Z) : X < Z := by omega
theorem s_ql_loop {G : SH} {M : MS} {Q : Int32 → MS → Prop} {dv row P D W dl wl top second after pair : Nat} {vj vc : Int32} (hD : D = dl + P * (top * 4294967296 + second)) (hdl : dl < P) (hW : W = wl + P * (pair * 4294967296 + after)) (hwl : wl < P) (hDp : 0 < D) {q : Nat} (hq : W / D = q) (htop : 2147483648 ≤ top) (htop2 : top < 4294967296) (hsec : second < 4294967296) (haft : after < 4294967296)
    (hfin : ∀ qh, q ≤ qh → qh ≤ q + 1 → qh < 4294967296 → w_X0_quotientLimb_166 G Q dv row vj vc (lN qh) M) :
    ∀ (t i qh ov : Nat), i + t = 2 → ov + qh * top = pair → q ≤ qh → qh ≤ q + t → qh < 4294967296 → ov < 8589934592 → ∃ n, w_X0_quotientLimb_110 G Q n dv row vj vc (lN after) (lN top) (lN second) (lN qh) (lN ov) (nI i) M
  | 0, i, qh, ov, hi, hp, h1, h2, h3, h4 => by
    refine ⟨1, ?_⟩
    rw [w_X0_quotientLimb_110]
    obtain rfl : i = 2 := by omega
    exact ⟨fun _ => hfin qh h1 (by omega) h3, fun h => absurd (by decide) h⟩
  | t + 1, i, qh, ov, hi, hp, h1, h2, h3, h4 => by
    have hqs := mul_le_sq h3 hsec
    have hb : qh * second ≤ ov * 4294967296 + after → qh ≤ q + 1 := by
      intro h
      rcases Nat.eq_zero_or_pos qh with z | z
      · omega
      · have : (qh - 1) * D ≤ W := by
          refine kn2 (k := 1) hD hdl hW ?_ ?_
          · rw [Nat.sub_add_cancel z]
            have e : qh * (top * 4294967296 + second) = qh * top * 4294967296 + qh * second := by grind
            have e2 : pair * 4294967296 = ov * 4294967296 + qh * top * 4294967296 := by rw [← hp]; grind
            omega
          · omega
        have := (Nat.le_div_iff_mul_le hDp).mpr this
        rw [hq] at this
        omega
    by_cases hov : 4294967295 < ov
    · refine ⟨1, ?_⟩
      rw [w_X0_quotientLimb_110]
      have : qh ≤ q + 1 := hb (by omega)
      refine ⟨fun _ => hfin qh h1 this h3, fun _ => ⟨fun _ => hfin qh h1 this h3, fun h => absurd ?_ h⟩⟩
      rw [show (4294967295 : Int64) = lN 4294967295 from rfl, pk_lLT (by decide) (by omega)]
      exact hov
    · have hcmp : (lN ov <<< ((32 : Int32).toInt64 &&& 63)) ||| lN after = lN (ov * 4294967296 + after) := by
        rw [shl_lN32, g_or (k := 32) (p := 4294967296) rfl haft (by omega)]
      by_cases htest : ov * 4294967296 + after < qh * second
      · have hq1 : q < qh := by
          rw [← hq, Nat.div_lt_iff_lt_mul hDp, Nat.mul_comm]
          rw [Nat.mul_comm]
          refine kn3 hD hW hwl ?_
          have e : qh * (top * 4294967296 + second) = qh * top * 4294967296 + qh * second := by grind
          have e2 : pair * 4294967296 = ov * 4294967296 + qh * top * 4294967296 := by rw [← hp]; grind
          exact lt_aux e e2 htest
        obtain ⟨n, ih⟩ := s_ql_loop hD hdl hW hwl hDp hq htop htop2 hsec haft hfin t (i + 1) (qh - 1) (ov + top) (by omega) (by
          rw [← hp, Nat.sub_mul, Nat.one_mul]
          have : 1 * top ≤ qh * top := Nat.mul_le_mul_right _ (by omega)
          omega) (by omega) (by omega) (by omega) (by omega)
        refine ⟨n + 1, ?_⟩
        rw [w_X0_quotientLimb_110, show (2 : Int32) = nI 2 from rfl, nI_leI (by decide) (by omega), show (4294967295 : Int64) = lN 4294967295 from rfl, pk_lLT (by decide) (by omega), lN_mul, hcmp]
        refine ⟨fun h => absurd h (by omega), fun _ => ⟨fun h => absurd h hov, fun _ => s_cmpU (by omega) (by omega) (fun r hr => ⟨fun _ y ey z ez w ew => ?_, fun h => absurd (hr.mpr htest) h⟩)⟩⟩
        rw [show (1 : Int64) = lN 1 from rfl, lN_sub (by omega)] at ey
        rw [lN_add] at ez
        rw [ey, ez, ew, nI_1]
        exact ih
      · refine ⟨1, ?_⟩
        have hle := hb (by omega)
        rw [w_X0_quotientLimb_110, lN_mul, hcmp]
        refine ⟨fun _ => hfin qh h1 hle h3, fun _ => ⟨fun _ => hfin qh h1 hle h3, fun _ => s_cmpU (by omega) (by omega) (fun r hr => ⟨fun h => absurd (hr.mp h) htest, fun _ => hfin qh h1 hle h3⟩)⟩⟩
theorem s_quotientLimb {G : SH} {M : MS} {dv m x D j W : Nat} {sx : Bool} (hO : Ok G M) (hm : Is G 8 m) (hx : Is G 8 x) (ex : mR M dv 0 = x) (hxm : x ≠ m) (wx : Wh G M x D sx) (hc : 2 ≤ nl BB D) (htop : 2147483648 ≤ lim D (nl BB D - 1)) (hr : j + nl BB D < rmw G M m) (hW : vl BB (wd M m j) (nl BB D + 1) = W) (hWD : W < D * BB) {Q : Int32 → MS → Prop}
    (hQ : ∀ N, Fr G M N [m] → (∀ t, t < j ∨ j + nl BB D < t → dgt N m t = dgt M m t) → vl BB (wd N m j) (nl BB D + 1) = W % D → Q (nI (W / D)) N) : w_X0_quotientLimb G dv (mR M m 0) (nI j) (nI (nl BB D)) M Q := by
  have hDp : 0 < D := by
    rcases Nat.eq_zero_or_pos D with z | z
    · rw [z, nl_0] at hc; omega
    · exact z
  have h1 := hO.1 m hm
  obtain ⟨e, he⟩ : ∃ e, nl BB D = e + 2 := ⟨nl BB D - 2, by omega⟩
  have hfin : ∀ qh, W / D ≤ qh → qh ≤ W / D + 1 → qh < 4294967296 → w_X0_quotientLimb_166 G Q dv (mR M m 0) (nI j) (nI (nl BB D)) (lN qh) M := fun qh a b c => s_ql166 hO hm hx ex hxm wx hDp hr hW a b c hQ
  unfold w_X0_quotientLimb
  rw [nI_add, ex]
  have e1 : nI (j + nl BB D) - 1 = nI (j + (e + 1)) := by rw [he, show j + (e + 2) = j + (e + 1) + 1 by omega, nI_pred]
  have e2 : nI (j + nl BB D) - 2 = nI (j + e) := by rw [he, show (2 : Int32) = nI 2 from rfl, pk_sub (by omega)]; congr 1
  rw [e1, e2, cl (c := j + nl BB D) (by omega), cl (c := j + (e + 1)) (by omega), cl (c := j + e) (by omega), mask_lN, mask_lN, mask_lN]
  have hv0 := vp_in_nI (n := j + nl BB D) (N := G.2.2.1 (mR M m 0)) (by unfold rmw at hr; omega) (by unfold rmw at h1; omega)
  have hv1 := vp_in_nI (n := j + (e + 1)) (N := G.2.2.1 (mR M m 0)) (by unfold rmw at hr; omega) (by unfold rmw at h1; omega)
  have hv2 := vp_in_nI (n := j + e) (N := G.2.2.1 (mR M m 0)) (by unfold rmw at hr; omega) (by unfold rmw at h1; omega)
  refine ⟨hv0, fun x4 ex4 => ⟨hv1, fun x6 ex6 => ⟨hv2, fun x8 ex8 => ?_⟩⟩⟩
  have e3 : nI (nl BB D) - 1 = nI (e + 1) := by rw [he, show e + 2 = e + 1 + 1 from rfl, nI_pred]
  have e4 : nI (nl BB D) - 2 = nI e := by rw [he, show (2 : Int32) = nI 2 from rfl, pk_sub (by omega)]; congr 1
  rw [e3, e4]
  refine s_limb hO hx wx rfl (by omega) ?_
  rw [ex]
  refine s_limb hO hx wx rfl (by omega) ?_
  intro x14 ex14
  have htl := lim_l D (e + 1)
  have hsl := lim_l D e
  rw [he, show e + 2 - 1 = e + 1 by omega] at htop
  -- the digits' names
  have hhi : u32 (mA M (mR M m 0) (j + nl BB D)) = wd M m j (e + 2) := by rw [he]; rfl
  have hnx : u32 (mA M (mR M m 0) (j + (e + 1))) = wd M m j (e + 1) := rfl
  have haf : u32 (mA M (mR M m 0) (j + e)) = wd M m j e := rfl
  rw [hhi] at ex4
  rw [hnx] at ex6
  rw [haf] at ex8
  have l0 : wd M m j (e + 2) < 4294967296 := wd_lt M m j _
  have l1 : wd M m j (e + 1) < 4294967296 := wd_lt M m j _
  have l2 : wd M m j e < 4294967296 := wd_lt M m j _
  have hWl : W = vl BB (wd M m j) e + BB ^ e * ((wd M m j (e + 2) * 4294967296 + wd M m j (e + 1)) * BB + wd M m j e) := by
    rw [← hW, he, show e + 2 + 1 = e + 3 by omega, vl_low]
    have : vl BB (fun i => wd M m j (e + i)) 3 = (wd M m j (e + 2) * 4294967296 + wd M m j (e + 1)) * BB + wd M m j e := by
      rw [vl_s, vl_s, vl_s, vl_0]
      show 0 + wd M m j (e + 0) * 4294967296 ^ 0 + wd M m j (e + 1) * 4294967296 ^ 1 + wd M m j (e + 2) * 4294967296 ^ 2 = (wd M m j (e + 2) * 4294967296 + wd M m j (e + 1)) * 4294967296 + wd M m j e
      rw [Nat.pow_zero, Nat.pow_one]
      show _ + wd M m j (e + 2) * 18446744073709551616 = _
      rw [Nat.add_zero]
      omega
    rw [this]
  have hwl : vl BB (wd M m j) e < BB ^ e := vl_lt (fun i _ => wd_lt M m j i)
  have hDl : D = D % BB ^ e + BB ^ e * (lim D (e + 1) * BB + lim D e) := by
    have a1 := mod_s D e
    have a2 := mod_s D (e + 1)
    have a3 : D % BB ^ (e + 1 + 1) = D := mod_all (by omega)
    rw [a3, a1] at a2
    rw [Nat.pow_succ] at a2
    have : BB ^ e * (lim D (e + 1) * BB + lim D e) = lim D e * BB ^ e + lim D (e + 1) * (BB ^ e * BB) := by grind
    omega
  have hdl : D % BB ^ e < BB ^ e := Nat.mod_lt _ (powBB_pos e)
  rw [ex4, ex6, shl_lN32, g_or (k := 32) (p := 4294967296) rfl l1 (by omega)] at ex14
  generalize wd M m j (e + 2) = hi at *
  generalize wd M m j (e + 1) = nx at *
  generalize wd M m j e = af at *
  generalize lim D (e + 1) = tp at *
  generalize lim D e = se at *
  generalize D % BB ^ e = dlo at *
  generalize vl BB (wd M m j) e = wlo at *
  have hP := powBB_pos e
  generalize BB ^ e = P at *
  have hq0 : W / D < BB := by rw [Nat.div_lt_iff_lt_mul hDp, Nat.mul_comm]; exact hWD
  have hBB : (BB : Nat) = 4294967296 := rfl
  have hqD : W / D * D ≤ W := Nat.div_mul_le_self W D
  -- D and W by their highest limb, two limbs
  have hD1 : D = (dlo + P * se) + (P * BB) * tp := by rw [hDl]; grind
  have hW1 : W = (wlo + P * af) + (P * BB) * (hi * 4294967296 + nx) := by rw [hWl]; grind
  have hd1 : dlo + P * se < P * BB := by
    have : P * (se + 1) ≤ P * BB := Nat.mul_le_mul_left _ (by omega)
    rw [Nat.mul_add, Nat.mul_one] at this
    omega
  have hw1 : wlo + P * af < P * BB := by
    have : P * (af + 1) ≤ P * BB := Nat.mul_le_mul_left _ (by omega)
    rw [Nat.mul_add, Nat.mul_one] at this
    omega
  have hqt : W / D * tp ≤ hi * 4294967296 + nx := kn1 hD1 hW1 hw1 hqD
  have hle : ∀ z, z * D ≤ W → z ≤ W / D := fun z hz => (Nat.le_div_iff_mul_le hDp).mpr hz
  have hlp := s_ql_loop (G := G) (M := M) (Q := Q) (dv := dv) (row := mR M m 0) (vj := nI j) (vc := nI (nl BB D)) hDl hdl hWl hwl hDp rfl htop htl hsl l2 hfin
  generalize W / D = qq at hlp hle hqt hqD hq0
  have fin95 : ∀ q0 ov, ov + q0 * tp = hi * 4294967296 + nx → qq ≤ q0 → q0 < 4294967296 → ov < 8589934592 → w_X0_quotientLimb_95 G Q dv (mR M m 0) (nI j) (nI (nl BB D)) x8 (lN tp) (lN se) x14 (lN q0) M := by
    intro q0 ov ho hq hq2 hov
    unfold w_X0_quotientLimb_95
    intro x18 ex18
    rw [ex14, lN_mul, lN_sub (by omega), show hi * 4294967296 + nx - q0 * tp = ov by omega] at ex18
    rw [ex18, ex8, ← nI_0]
    refine hlp 2 0 q0 ov rfl ho hq ?_ hq2 hov
    rcases Nat.lt_or_ge q0 2 with c | c
    · omega
    · have : (q0 - 2) * D ≤ W := by
        refine kn2 (k := 2) hD1 hd1 hW1 ?_ ?_
        · rw [Nat.sub_add_cancel c]; omega
        · omega
      have := hle _ this
      omega
  rw [ex4, pk_lLT (by omega) (by omega)]
  refine ⟨fun h => ?_, fun h => ?_⟩
  · rw [ex14]
    refine s_qop (by omega) (by omega) htl ?_
    rw [← ex14]
    have hdm := Nat.div_add_mod (hi * 4294967296 + nx) tp
    have hml := Nat.mod_lt (hi * 4294967296 + nx) (show 0 < tp by omega)
    refine fin95 ((hi * 4294967296 + nx) / tp) ((hi * 4294967296 + nx) % tp) (by have := hdm; rw [Nat.mul_comm tp] at this; omega) ((Nat.le_div_iff_mul_le (by omega)).mpr hqt) ?_ (by omega)
    rw [Nat.div_lt_iff_lt_mul (by omega)]
    have : (hi + 1) * 4294967296 ≤ tp * 4294967296 := Nat.mul_le_mul_right _ (by omega)
    rw [Nat.mul_comm 4294967296 tp]
    omega
  · have hhi2 : hi = tp := by
      have hWu : W < BB * ((P * BB) * (tp + 1)) := by
        have : D ≤ (P * BB) * (tp + 1) := by rw [Nat.mul_add, Nat.mul_one]; omega
        have : D * BB ≤ (P * BB) * (tp + 1) * BB := Nat.mul_le_mul_right _ this
        rw [Nat.mul_comm BB]
        exact Nat.lt_of_lt_of_le hWD this
      have hWd2 : (P * BB) * (hi * 4294967296) ≤ W := by
        rw [hW1]
        have : (P * BB) * (hi * 4294967296) ≤ (P * BB) * (hi * 4294967296 + nx) := Nat.mul_le_mul_left _ (by omega)
        exact Nat.le_trans this (Nat.le_add_left _ _)
      have h5 : (P * BB) * (hi * 4294967296) < (P * BB) * ((tp + 1) * 4294967296) := by
        have : BB * ((P * BB) * (tp + 1)) = (P * BB) * ((tp + 1) * 4294967296) := by rw [hBB]; grind
        exact Nat.lt_of_le_of_lt hWd2 (this ▸ hWu)
      have := Nat.lt_of_mul_lt_mul_left h5
      clear hWu hWd2 h5 hlp hfin hQ
      omega
    subst hhi2
    rw [show (4294967295 : Int64) = lN 4294967295 from rfl]
    exact fin95 4294967295 (hi + nx) (by omega) (by omega) (by decide) (by omega)
