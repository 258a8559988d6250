/-! write of the reference -/
theorem dl_stepH {va D k : Nat} (hD : 0 < D) : (va / HB ^ (k + 1) % D * HB + hl va k) / D = hl (va / D) k ∧ (va / HB ^ (k + 1) % D * HB + hl va k) % D = va / HB ^ k % D := by
  have e : va / HB ^ k = va / HB ^ (k + 1) * HB + hl va k := by
    rw [Nat.pow_succ, ← Nat.div_div_eq_div_mul]
    unfold hl
    rw [Nat.mul_comm]
    exact (Nat.div_add_mod _ _).symm
  generalize hZ : va / HB ^ (k + 1) = Y at e ⊢
  have e2 := Nat.div_add_mod Y D
  have hl' : hl va k < HB := hl_lt va k
  have ho := Nat.mod_lt Y hD
  generalize hz : Y / D = Z at e2
  generalize Y % D = o at e2 ho ⊢
  have e3 : va / HB ^ k = D * (Z * HB) + (o * HB + hl va k) := by rw [e, ← e2]; grind
  have hlt : (o * HB + hl va k) / D < HB := by
    rw [Nat.div_lt_iff_lt_mul hD]
    have : (o + 1) * HB ≤ D * HB := Nat.mul_le_mul_right _ ho
    rw [Nat.add_mul, Nat.one_mul] at this
    rw [Nat.mul_comm HB D]
    omega
  constructor
  · have : hl (va / D) k = va / HB ^ k / D % HB := by
      unfold hl
      rw [Nat.div_div_eq_div_mul, Nat.div_div_eq_div_mul, Nat.mul_comm]
    rw [this, e3, Nat.mul_add_div hD, Nat.mul_comm Z, Nat.mul_add_mod, Nat.mod_eq_of_lt hlt]
  · rw [e3, Nat.mul_add_mod]
def setO (s : ST) (ob : Nat → Int32) : ST := (s.1, s.2.1, s.2.2.1, ob, s.2.2.2.2.1, s.2.2.2.2.2)
theorem KE.ob {G : SH} {M0 M : MS} {L : LV} {n w : Nat} {s : ST} {g : Nat → Int} (h : KE G M0 M L n w s g) (f : Nat → Int32) : KE G M0 (wA M L.2.2 f) L n w (setO s f) g := by
  obtain ⟨h1, ⟨a0, ⟨z1, z2, z3, z4, z5⟩, i, b, t, o⟩, h3, h4, h5, h6⟩ := h
  refine ⟨h1.tr ⟨fun _ _ => rfl, fun _ _ => rfl, fun _ _ _ => rfl, fun q _ _ _ _ e => mA_wA_ne e⟩, ⟨a0, ⟨z1, z2, z3, z4, z5⟩, i, b, fun j hj => ?_, fun j hj => ?_⟩, h3, KI.wo h4 z4.1 z4.2.1 z4.2.2, h5, h6⟩
  · rw [mA_wA_ne z5]
    exact t j hj
  · show mA (wA M L.2.2 f) L.2.2 j = f j
    rw [mA_wA]
theorem KE.fo {G : SH} {M0 M : MS} {L : LV} {n w k : Nat} {s : ST} {g : Nat → Int} {tb : Nat → Int32} {i : Int32} (h : KE G M0 M L n w s g) (hk : k ≤ 500) (hi : i = nI k) (hb : ∀ j, j < k → mA M L.2.2 j = tb j) : KE G M0 (wI M (kO L.1) 10 i) L n w (s.1, s.2.1, s.2.2.1, tb, k, s.2.2.2.2.2) g := by
  obtain ⟨h1, ⟨a0, z, ⟨i1, i2, i3, i4, i5⟩, b, t, o⟩, h3, h4, h5, h6⟩ := h
  exact ⟨h1.tr (KG.wI 10 i), ⟨a0, z, ⟨by rw [mI_wI_k M _ (by decide)]; exact i1, by rw [mI_wI_k M _ (by decide)]; exact i2, by rw [mI_wI_k M _ (by decide)]; exact i3, by rw [mI_wI_k M _ (by decide)]; exact i4, by rw [mI_wI_s]; exact hi⟩, ⟨b.1, hk⟩, t, hb⟩, by rw [mI_wI_k M _ (by decide)]; exact h3, h4, h5, h6⟩
theorem k_wr_rev {G : SH} {M0 : MS} {L : LV} {nn w n : Nat} {s : ST} {g : Nat → Int} {f : Nat → Int32} (hn : n ≤ 500) (hb : ∀ i, i < n → (f i).toInt8.toInt32 = f i) {Q : Int32 → MS → Prop} (hQ : ∀ (N : MS), KE G M0 N L nn w (s.1, s.2.1, s.2.2.1, (fun i => f (n - 1 - i)), n, s.2.2.2.2.2) g → Q (nI n) N) :
    ∀ (t i : Nat) (M : MS) (ob : Nat → Int32), i + t = n → KE G M0 M L nn w (setO s ob) g → 0 < n → i ≤ n - i → (∀ k, k < n → mA M L.2.2 k = if k < i ∨ n - i ≤ k then f (n - 1 - k) else f k) → w_X11_write_145 G Q (t + 1) (kO L.1) (nI n) (nI i) (nI (n - i) - 1) M
  | t, i, M, ob, hi, hE, hn0, hin, hA => by
    obtain ⟨-, ⟨a0, ⟨⟨z1, z2⟩, ⟨y1, y2⟩, -⟩, -⟩, -⟩ := id hE
    rcases Nat.eq_zero_or_pos (n - i) with z | z
    · have hi0 : i = 0 := by omega
      omega
    · obtain ⟨m, em⟩ : ∃ m, n - i = m + 1 := ⟨n - i - 1, by omega⟩
      rw [em, nI_pred, w_X11_write_145, z2, y2, nI_leI (by omega) (by omega)]
      refine ⟨fun h N eN => ?_, fun h => ?_⟩
      · have h2 := hE.fo (k := n) (i := nI n) (tb := fun i => f (n - 1 - i)) hn rfl (fun k hk => by
          rw [hA k hk]
          by_cases c : k < i ∨ n - i ≤ k
          · rw [if_pos c]
          · rw [if_neg c]
            congr 1
            omega)
        rw [← eN] at h2
        exact hQ N h2
      · have am := hA m (by omega)
        rw [if_neg (by omega)] at am
        have ai := hA i (by omega)
        rw [if_neg (by omega)] at ai
        rw [cl (by omega), cl (by omega), am, hb m (by omega)]
        refine ⟨vp_in_nI (by omega) (by omega), fun x3 ex3 => ⟨vp_in_nI (by omega) (by omega), vp_in_nI (by omega) (by omega), fun M6 e6 => ?_⟩⟩
        rw [ai] at ex3
        have h6 := hE.ob (upd (mA M L.2.2) i (f m))
        rw [← e6] at h6
        have q6 : mR M6 (kO L.1) 8 = L.2.2 := by rw [e6, mR_wA]; exact z2
        rw [q6, y2]
        refine ⟨vp_in_nI (by omega) (by omega), fun M8 e8 x1 ex1 x2 ex2 => ?_⟩
        rw [ex3, hb i (by omega)] at e8
        have h8 := h6.ob (upd (mA M6 L.2.2) m (f i))
        rw [← e8] at h8
        have h8 : KE G M0 M8 L nn w (setO s (upd (mA M6 L.2.2) m (f i))) g := h8
        have ht : t = t - 1 + 1 := by omega
        rw [ex1, ex2, nI_1, show nI m + -1 = nI m - 1 from (Int32.sub_eq_add_neg ..).symm, show m = n - (i + 1) by omega, ht]
        refine k_wr_rev hn hb hQ (t - 1) (i + 1) M8 _ (by omega) h8 hn0 (by omega) (fun k hk => ?_)
        rw [e8, mA_wA]
        show (if k = m then f i else mA M6 L.2.2 k) = _
        rw [e6, mA_wA]
        show (if k = m then f i else if k = i then f m else mA M L.2.2 k) = _
        by_cases c1 : k = m
        · rw [if_pos c1, if_pos (by omega)]
          congr 1
          omega
        · rw [if_neg c1]
          by_cases c2 : k = i
          · rw [if_pos c2, if_pos (by omega)]
            congr 1
            omega
          · rw [if_neg c2, hA k hk]
            by_cases c3 : k < i ∨ n - i ≤ k
            · rw [if_pos c3, if_pos (by omega)]
            · rw [if_neg c3, if_neg (by omega)]
  termination_by t => t
  decreasing_by omega
theorem k_wr_div {G : SH} {Mi : MS} {K : KV} {g : Nat → Int} {V : Nat} {v1 v2 : Int32} (nV : nl HB V ≤ 80) {K19 : Nat → Int32 → Int32 → MS → Prop} {Q : Int32 → MS → Prop}
    (hC : ∀ N, KF K Mi N → KX G N K 19 g → mA N (kN K) 19 = nI (nl HB V) → (∀ j, j < nl HB V → hd N K 19 j = hl (V / 10) j) → w_X11_write_32 G K19 Q 1 (kO K) v1 v2 (nI (V % 10)) (-1) N) :
    ∀ (J : Nat) (M : MS), J ≤ nl HB V → KF K Mi M → KX G M K 19 g → mA M (kN K) 19 = nI (nl HB V) → (∀ j, j < J → hd M K 19 j = hl V j) → (∀ j, J ≤ j → j < nl HB V → hd M K 19 j = hl (V / 10) j) → w_X11_write_32 G K19 Q (J + 1) (kO K) v1 v2 (nI (V / HB ^ J % 10)) (nI J - 1) M
  | 0, M, _, f1, hX, hm, _, hj => by
    rw [Nat.pow_zero, Nat.div_one]
    exact hC M f1 hX hm (fun j h => hj j (Nat.zero_le _) h)
  | k + 1, M, hJ, f1, hX, hm, hlo, hhi => by
    obtain ⟨⟨e0, e1, e2⟩, ⟨g0, g1, g2⟩, n1, n2, n3⟩ := id hX.1
    have ei : (4940 : Int32) + nI k = nI (260 * 19 + k) := by rw [show (4940 : Int32) = nI 4940 from rfl, nI_add]
    have ed := mA_hd (hlo k (Nat.lt_succ_self _))
    have lh := hl_lt V k
    have hr10 : V / HB ^ (k + 1) % 10 < 10 := Nat.mod_lt _ (by decide)
    have st := dl_stepH (va := V) (D := 10) (k := k) (by decide)
    generalize hR : V / HB ^ (k + 1) % 10 = R at *
    have eor : (nI R <<< ((16 : Int32) &&& 31)) ||| nI (hl V k) = nI (R * HB + hl V k) := by
      rw [pk_shlN _ 16 rfl (by omega), Nat.mul_comm, fa_or_sum _ (show hl V k < 2 ^ 16 from lh), Nat.mul_comm]
    have hBB : R * HB = R * 65536 := rfl
    rw [nI_pred, w_X11_write_32, ei, e0, g0, cl (by omega), ed, eor]
    refine ⟨fun q => absurd q (nI_lt0 (by omega)), fun _ => ⟨vp_in_nI (by omega) (by decide), fun x ex => ⟨by decide, vp_in_nI (by omega) (by decide), fun N eN => ⟨by decide, fun y ey z ez => ?_⟩⟩⟩⟩
    have hx10 : x / 10 = nI (hl (V / 10) k) := by rw [ex, show (10 : Int32) = nI 10 from rfl, pk_div (by omega) (by decide) (by decide), st.1]
    have hy : y = nI (V / HB ^ k % 10) := by rw [ey, ex, show (10 : Int32) = nI 10 from rfl, pk_rem (by omega) (by decide) (by decide), st.2]
    rw [hx10] at eN
    have x1 : KX G N K 19 g := by rw [eN]; exact hX.wHx (by omega) _
    have f2 : KF K M N := by rw [eN]; exact KF.wH _
    have lq := hl_lt (V / 10) k
    rw [hy, ez, show nI k + -1 = nI k - 1 from (Int32.sub_eq_add_neg ..).symm]
    refine k_wr_div nV hC k N (by omega) (f1.tr f2) x1 (by rw [eN, mA_wA_ne n1.symm]; exact hm) (fun j h => by rw [eN, hd_wH (by omega)]; exact hlo j (by omega)) (fun j h h2 => ?_)
    by_cases c : j = k
    · rw [c, eN, hd_wHs, u32_nI_lt (by omega)]
    · rw [eN, hd_wH (by omega)]; exact hhi j (by omega) h2
def oWri (n : Nat) (s : ST) (r : Int32) : ST × Int32 := if isR n r then ((s.1, s.2.1, s.2.2.1, OT (s.1 (ix r)).natAbs (decide (s.1 (ix r) < 0)), OL (s.1 (ix r)).natAbs (decide (s.1 (ix r) < 0)), s.2.2.2.2.2), nI (OL (s.1 (ix r)).natAbs (decide (s.1 (ix r) < 0)))) else (s, 0)
theorem nl10_le {v w : Nat} (h : nl BB v ≤ w) : nl 10 v ≤ 10 * w := by
  rw [nl_le (by decide)]
  rw [nl_le BB1] at h
  rw [Nat.pow_mul]
  exact Nat.lt_of_lt_of_le h (Nat.pow_le_pow_left (by decide) w)
theorem OL_le {v w : Nat} {b : Bool} (hw : 1 ≤ w) (h : nl BB v ≤ w) : OL v b ≤ 10 * w + 1 := by
  have := nl10_le h
  unfold OL ODn
  split <;> split <;> omega
theorem ODn_eq {v c : Nat} (hc : c = 0 ∨ c < nl 10 v) (h : ¬ c + 1 < nl 10 v) : ODn v = c + 1 := by
  unfold ODn
  by_cases hv : v = 0
  · rw [if_pos hv]
    rw [hv, nl_0] at hc
    omega
  · rw [if_neg hv]
    have : 0 < nl 10 v := by
      rcases Nat.eq_zero_or_pos (nl 10 v) with e | e
      · have := (nl_le (B := 10) (by decide) 0 v).mp (by omega)
        rw [Nat.pow_zero] at this
        omega
      · exact e
    omega
theorem k_wr_it {G : SH} {M0 M : MS} {L : LV} {n w r v c : Nat} {s : ST} {g : Nat → Int} {ob : Nat → Int32} (hr : r < n) (hv : (s.1 r).natAbs = v) {K19 : Nat → Int32 → Int32 → MS → Prop} {Q : Int32 → MS → Prop} (hQ : OX G M0 L n w (nI r) ((s.1, s.2.1, s.2.2.1, OT v (decide (s.1 r < 0)), OL v (decide (s.1 r < 0)), s.2.2.2.2.2), nI (OL v (decide (s.1 r < 0)))) Q) (hE : KE G M0 M L n w (setO s ob) g) (h19 : (g 19).natAbs = v / 10 ^ c) (hO : ∀ j, j < c → mA M L.2.2 j = dg v j) (hc : c = 0 ∨ c < nl 10 v) (hcont : c + 1 < nl 10 v → ∀ (N : MS) (g : Nat → Int) (ob : Nat → Int32), KE G M0 N L n w (setO s ob) g → (g 19).natAbs = v / 10 ^ (c + 1) → (∀ j, j < c + 1 → mA N L.2.2 j = dg v j) → K19 (kO L.1) (nI r) (nI (c + 1)) N) (x4 : Int32) (hx4 : x4 = nI (nl HB (v / 10 ^ c)) - 1) : ∃ n1, w_X11_write_32 G K19 Q n1 (kO L.1) (nI r) (nI c) 0 x4 M := by
  have hn := hE.n16
  have hw := hE.w40
  have hw1 := hE.2.1.1.2.2.1
  have hvw : nl BB v ≤ w := by rw [← hv]; exact hE.2.2.2.2.2 r hr
  have nvH : nl HB v ≤ 80 := by
    have := nlHB.mpr hvw
    omega
  have ncl : c + 1 ≤ 401 := by
    have := nl10_le hvw
    omega
  generalize hV : v / 10 ^ c = V at *
  have nV : nl HB V ≤ 80 := by
    refine Nat.le_trans (nl_mono HB1 ?_) nvH
    rw [← hV]
    exact Nat.div_le_self _ _
  have hV10 : v / 10 ^ (c + 1) = V / 10 := by rw [Nat.pow_succ, ← Nat.div_div_eq_div_mul, hV]
  refine ⟨nl HB V + 1, ?_⟩
  have s19 := hE.ki.2 19 (by decide)
  have m19 := s19.1.1
  rw [h19] at m19
  have e0' : (0 : Int32) = nI (V / HB ^ nl HB V % 10) := by rw [Nat.div_eq_of_lt ((nl_le HB1 _ _).mp (Nat.le_refl _))]; rfl
  rw [hx4, e0']
  obtain ⟨-, ⟨a0, hZ, -⟩, -⟩ := id hE
  refine k_wr_div (Mi := M) (g := g) nV (fun N f1 hX hm hj => ?_) _ M (Nat.le_refl _) KF.rf (hE.ki.x 19) m19 (fun j h => by rw [s19.hl (by rw [h19]; exact h), h19]) (fun j h h2 => absurd h (by omega))
  obtain ⟨⟨e0, e1, e2⟩, ⟨g0, g1, g2⟩, n1, n2, n3⟩ := id hX.1
  have hle : V / 10 ≤ V := Nat.div_le_self _ _
  have nV10 := nl_mono HB1 hle
  have v19 := vp_in_nI (n := 19) (N := 40) (by decide) (by decide)
  rw [w_X11_write_32, e1, g1, show (19 : Int32).toNatClampNeg = 19 from rfl, hm]
  refine ⟨fun _ => ⟨v19, ?_⟩, fun q => absurd (by decide) q⟩
  refine k_trim (d := 19) ((V / 10 : Nat) : Int) hX (by decide) (c := nl HB V) (by omega) rfl (by rw [Int.natAbs_natCast]; omega) (by rw [Int.natAbs_natCast, vl_congr hj, vl_hl, modH_all nV10]) (fun j h => by rw [hj j h]; exact hl_lt _ _) iS_nat (fun M6 f2 h6 => ?_)
  have hE6 := hE.up1 (f1.tr f2) h6 (by decide)
  obtain ⟨-, ⟨-, ⟨⟨z1, z2⟩, ⟨y1, y2⟩, z3, z4, z5⟩, -⟩, -⟩ := id hE6
  have hO6 : ∀ j, j < c → mA M6 L.2.2 j = dg v j := fun j hj => by
    rw [(f1.tr f2).2.2.2 _ z4.1 z4.2.1 z4.2.2]
    exact hO j hj
  have dgv : dg v c = nI (48 + V % 10) := by
    unfold dg
    rw [hV]
  have e48 : (((48 : Int32) + nI (V % 10)).toInt8.toInt32).toInt8.toInt32 = dg v c := by
    rw [show (48 : Int32) = nI 48 from rfl, nI_add, i8i8, dgv]
    exact dg8 _ (Nat.mod_lt _ (by decide))
  rw [z2, y2, e48, cl (by omega)]
  refine ⟨vp_in_nI (by omega) (by decide), fun M8 e8 x2 ex2 => ?_⟩
  have hE8 := hE6.ob (upd (mA M6 L.2.2) c (dg v c))
  rw [← e8] at hE8
  have hE8 : KE G M0 M8 L n w (setO s (upd (mA M6 L.2.2) c (dg v c))) (setK g 19 ((V / 10 : Nat) : Int)) := hE8
  have hO8 : ∀ j, j < c + 1 → mA M8 L.2.2 j = dg v j := fun j hj => by
    rw [e8, mA_wA]
    by_cases q : j = c
    · rw [q, updS]
    · rw [updN q]; exact hO6 j (by omega)
  obtain ⟨⟨d0, d1, d2⟩, -⟩ := id hE8.ki.1
  have t19 := (hE8.ki.2 19 (by decide)).1.1
  rw [setK_s, Int.natAbs_natCast] at t19
  have tr := (hE8.ki.2 r (by omega)).1.2.1
  have gr : setK g 19 ((V / 10 : Nat) : Int) r = s.1 r := hE8.rg hr
  rw [gr] at tr
  have pos : 0 < V / 10 ↔ c + 1 < nl 10 v := by rw [nl10, hV10]
  rw [nI_1] at ex2
  subst ex2
  have nz : 0 < nl HB (V / 10) ↔ 0 < V / 10 := by
    have := @nlH0 (V / 10)
    omega
  rw [d1, g1, t19, nI_0lt (by omega), nz, pos, d2, g2, cl (c := r) (by omega), tr, iS_ge0]
  refine ⟨v19, fun q => hcont q M8 _ _ hE8 (by rw [setK_s, Int.natAbs_natCast, hV10]) hO8, fun q => ⟨vp_in_nI (by omega) (by decide), ?_⟩⟩
  have eD := ODn_eq hc q
  have fin : ∀ (N : MS) (m : Nat), OL v (decide (s.1 r < 0)) = m → KE G M0 N L n w (s.1, s.2.1, s.2.2.1, (fun i => sd v (m - 1 - i)), m, s.2.2.2.2.2) (setK g 19 ((V / 10 : Nat) : Int)) → Q (nI m) N := by
    intro N m hm hN
    have hN2 : KE G M0 N L n w (s.1, s.2.1, s.2.2.1, OT v (decide (s.1 r < 0)), OL v (decide (s.1 r < 0)), s.2.2.2.2.2) (setK g 19 ((V / 10 : Nat) : Int)) := by
      unfold OT
      rw [hm]
      exact hN
    rw [← hm]
    exact hQ N hN2.1 ⟨hN2.2.1, ⟨_, hN2.2.2.2.1, hN2.2.2.2.2.1⟩, hN2.2.2.2.2.2⟩ (by rw [if_pos (isR_nI (by omega) hr)]; exact hN2.2.2.1)
  have r8 : mR M8 (kO L.1) 8 = L.2.2 := by rw [e8, mR_wA]; exact z2
  refine ⟨fun hs x ex => ⟨c + 1 + 1, ?_⟩, fun hs => ?_⟩
  · have eL : OL v (decide (s.1 r < 0)) = c + 1 := by
      unfold OL
      rw [eD, decide_eq_false (by omega)]
      rfl
    rw [ex, ← nI_0]
    exact k_wr_rev (f := sd v) (s := s) (by omega) (fun i _ => sd_b8 v i) (fun N hN => fin N (c + 1) eL hN) (c + 1) 0 M8 _ (by omega) hE8 (by omega) (by omega) (fun k hk => by
      rw [if_neg (by omega), hO8 k hk]
      unfold sd
      rw [if_pos (by omega)])
  · have eL : OL v (decide (s.1 r < 0)) = c + 2 := by
      unfold OL
      rw [eD, decide_eq_true (by omega)]
      rfl
    rw [r8, y2, cl (by omega), show (45 : Int32).toInt8.toInt32 = 45 from by decide]
    refine ⟨vp_in_nI (by omega) (by decide), fun M24 e24 x5 ex5 x6 ex6 => ⟨c + 2 + 1, ?_⟩⟩
    have hE24 := hE8.ob (upd (mA M8 L.2.2) (c + 1) 45)
    rw [← e24] at hE24
    rw [nI_1] at ex5
    rw [ex6, ex5, ← nI_0]
    exact k_wr_rev (f := sd v) (s := s) (ob := upd (mA M8 L.2.2) (c + 1) 45) (by omega) (fun i _ => sd_b8 v i) (fun N hN => fin N (c + 2) eL hN) (c + 2) 0 M24 (by omega) hE24 (by omega) (by omega) (fun k hk => by
      rw [if_neg (by omega), e24, mA_wA]
      unfold sd
      by_cases q2 : k = c + 1
      · rw [q2, updS, if_neg (by omega)]
      · rw [updN q2, hO8 k (by omega), if_pos (by omega)])
theorem k_wr_loop {G : SH} {M0 : MS} {L : LV} {n w r v : Nat} {s : ST} (hr : r < n) (hv : (s.1 r).natAbs = v) {Q : Int32 → MS → Prop} (hQ : OX G M0 L n w (nI r) ((s.1, s.2.1, s.2.2.1, OT v (decide (s.1 r < 0)), OL v (decide (s.1 r < 0)), s.2.2.2.2.2), nI (OL v (decide (s.1 r < 0)))) Q) :
    ∀ (t c : Nat) (M : MS) (g : Nat → Int) (ob : Nat → Int32), KE G M0 M L n w (setO s ob) g → (g 19).natAbs = v / 10 ^ c → (∀ j, j < c → mA M L.2.2 j = dg v j) → (c = 0 ∨ c < nl 10 v) → nl 10 v ≤ c + t → w_X11_write_19 G Q (t + 1) (kO L.1) (nI r) (nI c) M := by
  have start : ∀ (t c : Nat) (M : MS) (g : Nat → Int) (ob : Nat → Int32), KE G M0 M L n w (setO s ob) g → (g 19).natAbs = v / 10 ^ c → (∀ j, j < c → mA M L.2.2 j = dg v j) → (c = 0 ∨ c < nl 10 v) → (c + 1 < nl 10 v → ∀ (N : MS) (g : Nat → Int) (ob : Nat → Int32), KE G M0 N L n w (setO s ob) g → (g 19).natAbs = v / 10 ^ (c + 1) → (∀ j, j < c + 1 → mA N L.2.2 j = dg v j) → w_X11_write_19 G Q t (kO L.1) (nI r) (nI (c + 1)) N) → w_X11_write_19 G Q (t + 1) (kO L.1) (nI r) (nI c) M := by
    intro t c M g ob hE h19 hO hc hcont
    obtain ⟨⟨e0, e1, e2⟩, ⟨g0, g1, g2⟩, -⟩ := id hE.ki.1
    have m19 := (hE.ki.2 19 (by decide)).1.1
    rw [h19] at m19
    rw [w_X11_write_19, e1, g1, show (19 : Int32).toNatClampNeg = 19 from rfl, m19]
    exact ⟨vp_in_nI (n := 19) (by decide) (by decide), fun x4 ex4 => k_wr_it hr hv hQ hE h19 hO hc hcont x4 ex4⟩
  intro t
  induction t with
  | zero =>
    intro c M g ob hE h19 hO hc ht
    exact start 0 c M g ob hE h19 hO hc (fun q => absurd q (by omega))
  | succ t ih =>
    intro c M g ob hE h19 hO hc ht
    exact start (t + 1) c M g ob hE h19 hO hc (fun q N g' ob' hN h19' hO' => ih (c + 1) N g' ob' hN h19' hO' (Or.inr q) (by omega))
theorem k_wri {G : SH} {M : MS} {L : LV} {n w : Nat} {s : ST} {r : Int32} (h : KJ G M L n w s) {Q : Int32 → MS → Prop} (hQ : OX G M L n w r (oWri n s r) Q) : w_X11_write G (kO L.1) r M Q := by
  unfold w_X11_write
  unfold oWri at hQ
  refine k_lacks h (fun i M2 f hi ei hf => ⟨fun _ => ?_, fun q => absurd rfl q⟩) (fun z M2 g2 h2 t2 => ⟨fun q => absurd q (by decide), fun _ => ?_⟩)
  · subst ei
    have hn := hf.n16
    rw [if_pos (isR_nI (by omega) hi), ix_nI (by omega)] at hQ
    refine k_copy hf.ki (d := 19) (by decide) (by omega) (fun N f1 h1 => ⟨nl 10 (s.1 i).natAbs + 1, ?_⟩)
    rw [← nI_0]
    have hE : KE G M N L n w (setO s s.2.2.2.1) (setK f 19 (f i)) := hf.up1 f1 h1 (by decide)
    exact k_wr_loop hi rfl hQ _ 0 N _ s.2.2.2.1 hE (by rw [setK_s, hf.rg hi, Nat.pow_zero, Nat.div_one]) (fun j hj => absurd hj (Nat.not_lt_zero _)) (Or.inl rfl) (by omega)
  · rw [if_neg z] at hQ
    exact hQ M2 g2 h2 (by rw [if_neg z]; exact t2)
