/-! OUT -/
theorem s_tc_loop {G : SH} {M0 : MS} {o x V D : Nat} (hO0 : Ok G M0) (hx : Is G 8 x) (e2 : mR M0 o 2 = x) (hDe : D = 1000000000) (hr : nl BB V ≤ rmw G M0 x) {Q : Int32 → MS → Prop} (hQ : ∀ N, Fr G M0 N [x] → Wh G N x (V / D) false → Q (nI (V % D)) N) :
    ∀ (k : Nat) (M : MS), k ≤ nl BB V → Fr G M0 M [x] → Lo G M x V k → (∀ t, k ≤ t → t < nl BB V → dgt M x t = lim (V / D) t) → ∃ n, w_X4_takeChunk_12 G Q n o (lN (V / BB ^ k % D)) (nI k - 1) M
  | 0, M, _, f1, lo, hv => by
    have hO := f1.ok hO0
    refine ⟨1, ?_⟩
    rw [w_X4_takeChunk_12, f1.2.1, e2, lo.2.1, Nat.pow_zero, Nat.div_one, lN_i]
    refine ⟨fun _ => s_keep hO hx rfl (by rw [f1.room]; exact hr) (fun P f2 _ f3 => hQ P (f1.tr1 f2) ?_), fun h => absurd (by decide) h⟩
    rw [vl_congr (g := lim (V / D)) (fun t ht => hv t (Nat.zero_le _) ht), vl_lim_all (nl_mono BB1 (Nat.div_le_self _ _))] at f3
    exact f3
  | k + 1, M, hk, f1, lo, hv => by
    have hO := f1.ok hO0
    have h1 := hO0.1 x hx
    have hrm := f1.room x
    have hD : 0 < D := by omega
    have st := dl_step (va := V) (k := k) hD
    have hl := lim_l V k
    have ho := Nat.mod_lt (V / BB ^ (k + 1)) hD
    have f0 : Fr G M (wA M (mR M x 0) (upd (mA M (mR M x 0)) k (nI (lim (V / D) k)))) [x] := Fr.wA hx _
    obtain ⟨n, ih⟩ := s_tc_loop hO0 hx e2 hDe hr hQ k (wA M (mR M x 0) (upd (mA M (mR M x 0)) k (nI (lim (V / D) k)))) (by omega) (f1.tr1 f0) (lo.put (Nat.le_refl _))
      (fun t ht hl => by
        rcases Nat.eq_or_lt_of_le ht with e | e
        · subst e
          rw [dgt_put_s, u32_nI_lt (lim_l _ _)]
        · rw [dgt_put_ne (by omega)]
          exact hv t (by omega) hl)
    refine ⟨n + 1, ?_⟩
    have eo : mR M o 2 = x := by rw [f1.2.1]; exact e2
    rw [nI_pred, w_X4_takeChunk_12, eo]
    refine ⟨fun h => absurd h (nI_lt0 (by omega)), fun _ => s_limb_lo hO hx lo rfl (by omega) (by omega) ?_⟩
    intro z ez
    generalize V / BB ^ (k + 1) % D = w at st ho ez
    rw [shl_lN32, g_or (k := 32) (p := 4294967296) rfl hl (by omega)] at ez
    have st1 : (w * 4294967296 + lim V k) / D = lim (V / D) k := st.1
    have st2 : (w * 4294967296 + lim V k) % D = V / BB ^ k % D := st.2
    have eD : (1000000000 : Int64) = lN D := by rw [hDe]; rfl
    rw [ez, eD, pk_lRem (by omega) hD (by omega), pk_lDiv (by omega) hD (by omega), st1, st2, lN_i, eo, cl (c := k) (by omega)]
    have nz : ¬ lN D = 0 := by rw [hDe]; decide
    refine ⟨nz, vp_in_nI (by unfold rmw at hr hrm; omega) (by unfold rmw at h1 hrm; omega), fun N eN => ⟨nz, fun y ey z' ez' => ?_⟩⟩
    rw [ez', show nI k + -1 = nI k - 1 from (Int32.sub_eq_add_neg ..).symm, ey, eN]
    exact ih
theorem s_takeChunk {G : SH} {M : MS} {o x V : Nat} {b : Bool} (hO : Ok G M) (hx : Is G 8 x) (e2 : mR M o 2 = x) (hw : Wh G M x V b) {Q : Int32 → MS → Prop} (hQ : ∀ N, Fr G M N [x] → Wh G N x (V / 1000000000) false → Q (nI (V % 1000000000)) N) : w_X4_takeChunk G o M Q := by
  unfold w_X4_takeChunk
  intro y ey
  rw [e2, hw.2.1] at ey
  rw [ey]
  have := s_tc_loop hO hx e2 rfl hw.1 hQ (nl BB V) M (Nat.le_refl _) (Fr.rf (by simpa using hx)) (hw.lo _) (fun t h1 h2 => by omega)
  rw [Nat.div_eq_of_lt ((nl_le BB1 _ _).mp (Nat.le_refl _)), Nat.zero_mod] at this
  exact this
theorem Tp.add2 {G : SH} {M : MS} {o q h L : Nat} {tb : Nat → Int32} (t : Tp G M o q tb h L) (hh : h < L) {x j : Int32} (hx : x = tb h) (hj : j = nI (h + 1)) : Tp G (wI (wA M q (upd (mA M q) h x)) o 0 j) o q tb (h + 1) L := by
  have := t.add hh x j hj
  have e : tset tb h x = tb := by
    funext i
    unfold tset
    by_cases c : i = h
    · rw [if_pos c, c, hx]
    · rw [if_neg c]
  rw [e] at this
  exact this
theorem s_oappend {G : SH} {M : MS} {o q h L : Nat} {tb : Nat → Int32} {v : Int32} (t : Tp G M o q tb h L) (hh : h < L) (ho : G.2.1 o ≠ 8) (hv : v.toInt8.toInt32 = tb h) {Q : MS → Prop} (hQ : ∀ N, Fg G M N [] [o] [q] → (∀ a k, mR N a k = mR M a k) → Tp G N o q tb (h + 1) L → Q N) : w_X4_append G o v M Q := by
  unfold w_X4_append
  obtain ⟨a1, a2, a3, a4, a5, a6⟩ := id t
  rw [a1, a2, a5, nI_leI (by omega) (by omega), cl (by omega)]
  refine ⟨fun z => absurd z (by omega), fun _ => ⟨vp_in_nI hh (by omega), fun M3 e3 M4 e4 => ?_⟩⟩
  have e3' : mI M3 o 0 = nI h := by rw [e3, mI_wA]; exact a5
  rw [e3', nI_1] at e4
  have f3 : Fg G M M3 [] [o] [q] := by rw [e3]; exact Fg.wA (by simp) (all1 ho) (by simp) _
  have f4 : Fg G M3 M4 [] [o] [q] := by rw [e4]; exact Fg.wI (by simp) (all1 ho) (by simp) _ _
  refine hQ M4 (f3.tr f4) (fun a k => by rw [e4, mR_wI, e3, mR_wA]) ?_
  rw [e4, e3, i8i8]
  exact t.add2 hh hv rfl
/-- the i-th digit of v, as an octet -/
def dg (v i : Nat) : Int32 := nI (48 + v / 10 ^ i % 10)
theorem dg8 : ∀ d, d < 10 → (nI (48 + d)).toInt8.toInt32 = nI (48 + d) := by decide
theorem dg_b8 (v i : Nat) : (dg v i).toInt8.toInt32 = dg v i := dg8 _ (Nat.mod_lt _ (by decide))
theorem nl10 {v k : Nat} : k < nl 10 v ↔ 0 < v / 10 ^ k := by
  rw [nl_lt_iff (by decide)]
  exact (Nat.div_pos_iff.trans ⟨fun h => h.2, fun h => ⟨Nat.pow_pos (by decide), h⟩⟩).symm
theorem s_ac_loop {G : SH} {M0 : MS} {o q x V0 V' L k0 : Nat} (hO0 : Ok G M0) (hx : Is G 8 x) (ho : G.2.1 o ≠ 8) (hxq : mR M0 x 0 ≠ q) (wx : Wh G M0 x V' false) (hL : nl 10 V0 ≤ L) (hp : 0 < V0 / 10 ^ k0) {Q : MS → Prop} (hQ : ∀ N k, Fg G M0 N [] [o] [q] → (∀ a k, mR N a k = mR M0 a k) → Tp G N o q (dg V0) k L → V0 / 10 ^ k = V' → k0 < k → k ≤ nl 10 V0 → Q N) :
    ∀ (t i : Nat) (M : MS) (c : Nat), i + t = 9 → Fg G M0 M [] [o] [q] → (∀ a k, mR M a k = mR M0 a k) → mR M o 2 = x → Tp G M o q (dg V0) (k0 + i) L → V0 / 10 ^ (k0 + i) = V' * 10 ^ t + c → c < 10 ^ t → k0 + i ≤ nl 10 V0 → w_X4_appendChunk_4 G Q (t + 1) o (nI c) (nI i) M
  | 0, i, M, c, hi, f1, r1, e2, t1, hV, hc, hk => by
    rw [w_X4_appendChunk_4, show (9 : Int32) = nI 9 from rfl, nI_leI (by decide) (by omega)]
    refine ⟨fun _ => hQ M (k0 + i) f1 r1 t1 ?_ (by omega) hk, fun z => absurd (by omega) z⟩
    rw [hV]
    omega
  | t + 1, i, M, c, hi, f1, r1, e2, t1, hV, hc, hk => by
    have hO := f1.ok hO0
    have c9 : 10 ^ (t + 1) ≤ 10 ^ 9 := Nat.pow_le_pow_right (by decide) (by omega)
    have c9' : c < 1000000000 := Nat.lt_of_lt_of_le hc c9
    have wx1 := f1.wh hO0 hx (by simp) (by simpa using hxq) wx
    have hr := hO.1 x hx
    have wx11 := wx1.1
    have step : 0 < V0 / 10 ^ (k0 + i) → w_X4_appendChunk_24 G (w_X4_appendChunk_4 G Q (t + 1)) Q o (nI c) (nI i) M := by
      intro hpos
      unfold w_X4_appendChunk_24
      have hk2 := nl10.mpr hpos
      have hpw : V' * 10 ^ (t + 1) = V' * 10 ^ t * 10 := by rw [Nat.pow_succ, Nat.mul_assoc]
      have em : V0 / 10 ^ (k0 + i) % 10 = c % 10 := by rw [hV, hpw]; omega
      have ed : V0 / 10 ^ (k0 + (i + 1)) = V' * 10 ^ t + c / 10 := by
        rw [show k0 + (i + 1) = (k0 + i) + 1 from rfl, Nat.pow_succ, ← Nat.div_div_eq_div_mul, hV, hpw]
        omega
      rw [show (10 : Int32) = nI 10 from rfl, pk_rem (by omega) (by decide) (by decide), show (48 : Int32) = nI 48 from rfl, nI_add]
      refine ⟨by decide, ?_⟩
      refine s_oappend t1 (by omega) ho (by rw [dg8 _ (Nat.mod_lt _ (by decide))]; unfold dg; rw [em]) (fun N f2 r2 t2 => ?_)
      refine ⟨by decide, fun x2 ex2 x3 ex3 => ?_⟩
      rw [pk_div (by omega) (by decide) (by decide)] at ex2
      rw [ex2, ex3, nI_1]
      exact s_ac_loop hO0 hx ho hxq wx hL hp hQ t (i + 1) N (c / 10) (by omega) (f1.tr f2) (fun a k => (r2 a k).trans (r1 a k)) (by rw [r2]; exact e2) t2 ed (by rw [Nat.pow_succ] at hc; omega) (by omega)
    rw [w_X4_appendChunk_4, show (9 : Int32) = nI 9 from rfl, nI_leI (by decide) (by omega), e2, wx1.2.1, nI_0lt (by omega), nI_le0 (by omega)]
    have hp10 : 0 < 10 ^ (t + 1) := Nat.pow_pos (by decide)
    refine ⟨fun z => absurd z (by omega), fun _ => ⟨fun z => step ?_, fun z => ⟨fun z2 => ?_, fun z2 => step ?_⟩⟩⟩
    · rw [hV]
      have hv : 0 < V' := by
        rcases Nat.eq_zero_or_pos V' with e | e
        · rw [e, nl_0] at z; omega
        · exact e
      have := Nat.mul_pos hv hp10
      omega
    · have hv : V' = 0 := nl_v0.mp (by omega)
      subst hv
      subst z2
      rw [Nat.zero_mul] at hV
      have hi0 : i ≠ 0 := fun e => by
        subst e
        rw [Nat.add_zero] at hV
        omega
      exact hQ M (k0 + i) f1 r1 t1 hV (by omega) hk
    · rw [hV]; omega
theorem s_appendChunk {G : SH} {M : MS} {o q x V0 V' L k0 c : Nat} (hO : Ok G M) (hx : Is G 8 x) (ho : G.2.1 o ≠ 8) (hxq : mR M x 0 ≠ q) (wx : Wh G M x V' false) (hL : nl 10 V0 ≤ L) (hp : 0 < V0 / 10 ^ k0) (e2 : mR M o 2 = x) (t : Tp G M o q (dg V0) k0 L) (hV : V0 / 10 ^ k0 = V' * 1000000000 + c) (hc : c < 1000000000) {Q : MS → Prop} (hQ : ∀ N k, Fg G M N [] [o] [q] → (∀ a k, mR N a k = mR M a k) → Tp G N o q (dg V0) k L → V0 / 10 ^ k = V' → k0 < k → k ≤ nl 10 V0 → Q N) : w_X4_appendChunk G o (nI c) M Q := by
  unfold w_X4_appendChunk
  refine ⟨10, ?_⟩
  rw [← nI_0]
  have := nl10.mpr hp
  exact s_ac_loop hO hx ho hxq wx hL hp hQ 9 0 M c rfl (Fg.rf (by simp) (all1 ho)) (fun _ _ => rfl) e2 t hV hc (by omega)
/-! turnRound -/
theorem s_tr_loop {G : SH} {M0 : MS} {o q n L : Nat} {f : Nat → Int32} (ho : G.2.1 o ≠ 8) (hL : L ≤ 100000) (hq : G.2.2.1 q = L) (e1 : mR M0 o 1 = q) (hn : n ≤ L) (hb : ∀ i, i < n → (f i).toInt8.toInt32 = f i) {Q : MS → Prop} (hQ : ∀ N, Fg G M0 N [] [o] [q] → (∀ a k, mR N a k = mR M0 a k) → (∀ a k, mI N a k = mI M0 a k) → (∀ i, i < n → mA N q i = f (n - 1 - i)) → Q N) :
    ∀ (t i : Nat) (M : MS), i + t = n → Fg G M0 M [] [o] [q] → (∀ a k, mR M a k = mR M0 a k) → (∀ a k, mI M a k = mI M0 a k) → 0 < n → i ≤ n - i → (∀ k, k < n → mA M q k = if k < i ∨ n - i ≤ k then f (n - 1 - k) else f k) → w_X4_turnRound_9 G Q (t + 1) o (nI i) (nI (n - i) - 1) M
  | t, i, M, hi, f1, r1, j1, hn0, hin, hA => by
    have eq1 : mR M o 1 = q := by rw [r1]; exact e1
    rcases Nat.eq_zero_or_pos (n - i) with z | z
    · have hi0 : i = 0 := by omega
      omega
    · obtain ⟨m, em⟩ : ∃ m, n - i = m + 1 := ⟨n - i - 1, by omega⟩
      rw [em, nI_pred, w_X4_turnRound_9, eq1, hq, nI_leI (by omega) (by omega)]
      refine ⟨fun h => hQ M f1 r1 j1 (fun k hk => ?_), fun h => ?_⟩
      · rw [hA k hk]
        by_cases c : k < i ∨ n - i ≤ k
        · rw [if_pos c]
        · rw [if_neg c]
          congr 1
          omega
      · have am := hA m (by omega)
        rw [if_neg (by omega)] at am
        have ai := hA i (by omega)
        rw [if_neg (by omega)] at ai
        rw [cl (by omega), cl (by omega), am, hb m (by omega)]
        refine ⟨vp_in_nI (by omega) (by omega), fun x3 ex3 => ⟨vp_in_nI (by omega) (by omega), vp_in_nI (by omega) (by omega), fun M6 e6 => ?_⟩⟩
        rw [ai] at ex3
        have g6 : Fg G M M6 [] [o] [q] := by rw [e6]; exact Fg.wA (by simp) (all1 ho) (by simp) _
        have q6 : mR M6 o 1 = q := by rw [e6, mR_wA]; exact eq1
        rw [q6, hq]
        refine ⟨vp_in_nI (by omega) (by omega), fun M8 e8 x1 ex1 x2 ex2 => ?_⟩
        have g8 : Fg G M6 M8 [] [o] [q] := by rw [e8]; exact Fg.wA (by simp) (all1 ho) (by simp) _
        rw [ex3, hb i (by omega)] at e8
        have ht : t = t - 1 + 1 := by omega
        rw [ex1, ex2, nI_1, show nI m + -1 = nI m - 1 from (Int32.sub_eq_add_neg ..).symm, show m = n - (i + 1) by omega, ht]
        refine s_tr_loop ho hL hq e1 hn hb hQ (t - 1) (i + 1) M8 (by omega) ((f1.tr g6).tr g8) (fun a k => by rw [e8, mR_wA, e6, mR_wA]; exact r1 a k) (fun a k => by rw [e8, mI_wA, e6, mI_wA]; exact j1 a k) hn0 (by omega) (fun k hk => ?_)
        rw [e8, mA_wA]
        show (if k = m then f i else mA M6 q k) = _
        rw [e6, mA_wA]
        show (if k = m then f i else if k = i then f m else mA M q k) = _
        by_cases c1 : k = m
        · rw [if_pos c1, if_pos (by omega)]
          congr 1
          omega
        · rw [if_neg c1]
          by_cases c2 : k = i
          · rw [if_pos c2, if_pos (by omega)]
            congr 1
            omega
          · rw [if_neg c2, hA k hk]
            by_cases c3 : k < i ∨ n - i ≤ k
            · rw [if_pos c3, if_pos (by omega)]
            · rw [if_neg c3, if_neg (by omega)]
  termination_by t => t
  decreasing_by omega
theorem s_turnRound {G : SH} {M : MS} {o q n L : Nat} {f : Nat → Int32} (ho : G.2.1 o ≠ 8) (t : Tp G M o q f n L) (hn : 0 < n) (hb : ∀ i, i < n → (f i).toInt8.toInt32 = f i) {Q : MS → Prop} (hQ : ∀ N, Fg G M N [] [o] [q] → (∀ a k, mR N a k = mR M a k) → Tp G N o q (fun i => f (n - 1 - i)) n L → Q N) : w_X4_turnRound G o M Q := by
  unfold w_X4_turnRound
  obtain ⟨a1, a2, a3, a4, a5, a6⟩ := t
  intro x2 ex2
  rw [a5] at ex2
  refine ⟨n + 1, ?_⟩
  rw [ex2, ← nI_0]
  refine s_tr_loop (n := n) (f := f) ho a3 a2 a1 a4 hb (fun N f1 r1 j1 h => hQ N f1 r1 ⟨by rw [r1]; exact a1, a2, a3, a4, by rw [j1]; exact a5, h⟩) n 0 M (by omega) (Fg.rf (by simp) (all1 ho)) (fun _ _ => rfl) (fun _ _ => rfl) hn (by omega) (fun k hk => ?_)
  rw [if_neg (by omega)]
  exact a6 k hk
