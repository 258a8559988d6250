/-! Lehmer.divisor -/
/-- what becomes of u and v, and the whole divisions, as long as v has more than a limb -/
def LG : Nat → Nat → Nat → Nat → Nat × Nat × Nat
  | 0, u, v, s => (u, v, s)
  | n + 1, u, v, s => if v < BB then (u, v, s) else if (LCF u v).2.1 = 0 then LG n v (u % v) (s + 1) else LG n ((LCF u v).1 * u + (LCF u v).2.1 * v).toNat ((LCF u v).2.2.1 * u + (LCF u v).2.2.2 * v).toNat s
/-- Lehmer's whole divisions of a and b -/
def LST (a b : Nat) : Nat := if 0 < (LG 9000 (max a b) (min a b) 0).2.1 ∧ BB ≤ (LG 9000 (max a b) (min a b) 0).1 then (LG 9000 (max a b) (min a b) 0).2.2 + 1 else (LG 9000 (max a b) (min a b) 0).2.2
theorem nl_le1 {v : Nat} : nl BB v ≤ 1 ↔ v < BB := by rw [nl_le BB1, Nat.pow_one]
theorem s_div_loop {G : SH} {M0 : MS} {o dv xd qd rm c g : Nat} {X : List Nat} {T : Nat × Nat × Nat} (hX : ∀ y ∈ X, Is G 8 y) (hO0 : Ok G M0) (ho : G.2.1 o ≠ 8) (hdo : dv ≠ o) (hroom : ∀ y ∈ X, rmw G M0 y = rm) (hc : c < rm) (hrm : rm ≤ 100) {Q : Nat → MS → Prop}
    (hQ : ∀ N u v s t, Fs G M0 N X [o] → LeR N o dv xd qd u v s t → (∀ y ∈ [xd, qd, u, v, s, t], y ∈ X) → NDL [xd, qd, u, v, s, t] → Wh G N u T.1 false → Wh G N v T.2.1 false → T.2.1 < BB → nl BB T.1 ≤ c → Nat.gcd T.1 T.2.1 = g → mI N o 0 = nI T.2.2 → w_X3_divisor_118 G Q o N) :
    ∀ (n : Nat) (M : MS) (u v s t pu pv st k : Nat), Fs G M0 M X [o] → LeR M o dv xd qd u v s t → (∀ y ∈ [xd, qd, u, v, s, t], y ∈ X) → NDL [xd, qd, u, v, s, t] → Wh G M u pu false → Wh G M v pv false → pv ≤ pu → nl BB pu ≤ c → Nat.gcd pu pv = g → mI M o 0 = nI st → LG n pu pv st = T → EM pu pv < n → k + n ≤ 10000 → w_X3_divisor_70 G Q n o (nI k) M
  | 0, M, u, v, s, t, pu, pv, st, k, _, _, _, _, _, _, _, _, _, _, _, hn, _ => absurd hn (Nat.not_lt_zero _)
  | n + 1, M, u, v, s, t, pu, pv, st, k, f1, hR, hmem, hnd, wu, wv, hvu, cu, hg, hst, hT, hn, hk => by
    have hO := f1.ok hO0
    have I : ∀ (k y : Nat), [xd, qd, u, v, s, t][k]? = some y → y ∈ X := fun k y h => hmem y (List.mem_of_getElem? h)
    have hnv := nl_mono BB1 hvu
    have hr1 : ∀ y ∈ X, rmw G M y = rm := fun y hy => by rw [f1.room (hX y hy)]; exact hroom y hy
    rw [LG] at hT
    rw [w_X3_divisor_70, hR.2.2.2.2.1, wv.2.1, show (1000000 : Int32) = nI 1000000 from rfl, nI_leI (by decide) (by omega), show (1 : Int32) = nI 1 from rfl, nI_leI (by omega) (by decide), nl_le1]
    refine ⟨fun h => absurd h (by omega), fun _ => ⟨fun h => ?_, fun h => ?_⟩⟩
    · rw [if_pos h] at hT
      subst hT
      exact hQ M u v s t f1 hR hmem hnd wu wv h cu hg hst
    · rw [if_neg h] at hT
      have hb : 33 ≤ nl 2 pu := by
        rcases Nat.lt_or_ge (nl 2 pu) 33 with q | q
        · have := (nl_le (B := 2) (by decide) 32 pu).mp (by omega)
          have e : (2 : Nat) ^ 32 = BB := rfl
          omega
        · exact q
      refine s_findCofactors hO hR (hX u (I 2 u rfl)) (hX v (I 3 v rfl)) wu wv hb hvu cu (by omega) (fun N U V x y jn hI hem k7 k8 k9 k10 => ?_)
      have fN := jn.fs hX ho
      have hON := fN.ok hO
      have hRN : LeR N o dv xd qd u v s t := by
        obtain ⟨e0, e1, e2, e3, e4, e5, e6⟩ := hR
        exact ⟨by rw [jn.1]; exact e0, by rw [jn.1]; exact e1, by rw [jn.1]; exact e2, by rw [jn.1]; exact e3, by rw [jn.1]; exact e4, by rw [jn.1]; exact e5, by rw [jn.1]; exact e6⟩
      have jf : Fs G M N [] [o] := jn.fs (by simp) ho
      have wuN := jf.wh hO (hX u (I 2 u rfl)) (by simp) wu
      have wvN := jf.wh hO (hX v (I 3 v rfl)) (by simp) wv
      have hrN : ∀ y ∈ X, rmw G N y = rm := fun y hy => by rw [fN.room (hX y hy)]; exact hr1 y hy
      have hpv : 0 < pv := by have := BB1; omega
      have bb := hI.2.2.2.2.1
      have hI' := hI
      obtain ⟨-, -, -, -, -, ⟨ex, ey⟩, hgx, hdi, -⟩ := hI'
      rw [k8, lZ_0, lZ_eq (by omega) (by omega) (by decide) (by decide)]
      refine ⟨fun hB => ?_, fun hB => ?_⟩
      · rw [if_neg hB, ← ex, ← ey, Int.toNat_natCast, Int.toNat_natCast] at hT
        have hst2 : x ≤ pv ∧ y < x := by
          rcases hdi with ⟨-, z, -, -⟩ | ⟨-, -, z1, z2⟩
          · exact absurd z hB
          · exact ⟨z1, z2⟩
        refine s_combineBoth hX hON ho hdo hRN hmem hnd hrN wuN wvN hvu (by omega) hI hB k7 k8 k9 k10 (fun P g1 g2 v1 v2 g3 => ?_)
        intro x4 ex4
        rw [ex4, show (nI 1 : Int32) = 1 from rfl, nI_1]
        exact s_div_loop hX hO0 ho hdo hroom hc hrm hQ n P s t u v x y st (k + 1) ((f1.tr fN).tr g1) g2 (NDL.mem hmem [0, 1, 4, 5, 2, 3] rfl) (hnd.sub [0, 1, 4, 5, 2, 3] (by decide) rfl) v1 v2 (by omega) (Nat.le_trans (nl_mono BB1 (by omega)) cu) (by rw [hgx]; exact hg) (by rw [g3, jn.2.1]; exact hst) hT (by have := hem.2 hB; omega) (by omega)
      · rw [if_pos hB] at hT
        refine s_takeStep hX hON ho hdo hRN hmem hnd hrN wuN wvN hpv (by omega) (by omega) (fun P g1 g2 v1 v2 g3 => ?_)
        intro x4 ex4
        rw [ex4, show (nI 1 : Int32) = 1 from rfl, nI_1]
        have hEM := EM_lt (u := pu) hpv
        have hm := Nat.mod_lt pu hpv
        exact s_div_loop hX hO0 ho hdo hroom hc hrm hQ n P v s u t pv (pu % pv) (st + 1) (k + 1) ((f1.tr fN).tr g1) g2 (NDL.mem hmem [0, 1, 3, 4, 2, 5] rfl) (hnd.sub [0, 1, 3, 4, 2, 5] (by decide) rfl) v1 v2 (by omega) (by omega) (by rw [← hg, Nat.gcd_comm pu pv, Nat.gcd_rec pv pu, Nat.gcd_comm]) (by rw [g3, jn.2.1, hst, nI_1]) hT (by omega) (by omega)
theorem s_div_143 {G : SH} {M : MS} {o dv xd qd u v s t c pu pv g : Nat} {X : List Nat} (hX : ∀ y ∈ X, Is G 8 y) (hO : Ok G M) (ho : G.2.1 o ≠ 8) (hR : LeR M o dv xd qd u v s t) (hmem : ∀ y ∈ [xd, qd, u, v, s, t], y ∈ X) (wu : Wh G M u pu false) (wv : Wh G M v pv false) (hv : pv < BB) (hu : pv = 0 ∨ pu < BB) (hg : Nat.gcd pu pv = g) (cv : nl BB pv ≤ c) (hc : c < 100) {Q : Nat → MS → Prop}
    (hQ : ∀ N, Fs G M N X [o] → LeR N o dv xd qd u v s t → Wh G N u g false → mI N o 0 = mI M o 0 → Q u N) : w_X3_divisor_143 G Q o M := by
  unfold w_X3_divisor_143
  have I : ∀ (k y : Nat), [xd, qd, u, v, s, t][k]? = some y → y ∈ X := fun k y h => hmem y (List.mem_of_getElem? h)
  rw [hR.2.2.2.2.1, hR.2.2.2.1, wv.2.1, nI_le0 (by omega), nl_v0]
  refine ⟨fun h => ?_, fun h => ?_⟩
  · subst h
    rw [Nat.gcd_zero_right] at hg
    subst hg
    exact hQ M (Fs.rf hX (all1 ho)) hR wu rfl
  · refine s_limb hO (hX u (I 2 u rfl)) wu nI_0.symm (by decide) ?_
    rw [hR.2.2.2.2.1]
    refine s_limb hO (hX v (I 3 v rfl)) wv nI_0.symm (by decide) ?_
    refine s_divisorOfLimbs (lim_l _ _) (lim_l _ _) ?_
    refine s_become hO (hX u (I 2 u rfl)) (fun N f1 w1 => ?_)
    have hRN := f1.ler hR
    rw [hRN.2.2.2.1]
    have l1 : lim pu 0 = pu := by unfold lim; rw [Nat.pow_zero, Nat.div_one, Nat.mod_eq_of_lt (by omega)]
    have l2 : lim pv 0 = pv := by unfold lim; rw [Nat.pow_zero, Nat.div_one, Nat.mod_eq_of_lt hv]
    have hgl : g < 4294967296 := by
      rw [← hg]
      exact Nat.lt_of_le_of_lt (Nat.gcd_le_right pu (by omega)) hv
    rw [l1, l2, hg, u32_nI_lt hgl] at w1
    exact hQ N (f1.fs hX (all1 ho) (all1 (I 2 u rfl))) hRN w1 (f1.io ho 0)
theorem s_lehmer {G : SH} {M : MS} {o dv xd qd u v s t a b va vb rm c : Nat} {sa sb : Bool} {X : List Nat} (hX : ∀ y ∈ X, Is G 8 y) (hO : Ok G M) (ho : G.2.1 o ≠ 8) (hdo : dv ≠ o) (hroom : ∀ y ∈ X, rmw G M y = rm) (hc1 : 1 ≤ c) (hc : c < rm) (hrm : rm ≤ 100) (hR : LeR M o dv xd qd u v s t) (hmem : ∀ y ∈ [xd, qd, u, v, s, t], y ∈ X) (hnd : NDL [xd, qd, u, v, s, t]) (ha : Is G 8 a) (hb : Is G 8 b) (haX : a ∉ X) (hbX : b ∉ X) (wa : Wh G M a va sa) (wb : Wh G M b vb sb) (cA : nl BB va ≤ c) (cB : nl BB vb ≤ c) {Q : Nat → MS → Prop}
    (hQ : ∀ N u v s t, Fs G M N X [o] → LeR N o dv xd qd u v s t → (∀ y ∈ [xd, qd, u, v, s, t], y ∈ X) → NDL [xd, qd, u, v, s, t] → Wh G N u (Nat.gcd va vb) false → mI N o 0 = nI (LST va vb) → Q u N) : w_X3_divisor G o a b M Q := by
  unfold w_X3_divisor
  refine s_order hO ha hb wa wb ?_
  rw [cmp_lt0]
  have I : ∀ (k y : Nat), [xd, qd, u, v, s, t][k]? = some y → y ∈ X := fun k y h => hmem y (List.mem_of_getElem? h)
  have i2 := I 2 u rfl
  have i3 := I 3 v rfl
  have key : ∀ (x y px py : Nat) (sx sy : Bool) (w3 : Int32), x ∉ X → y ∉ X → Is G 8 x → Is G 8 y → Wh G M x px sx → Wh G M y py sy → nl BB px ≤ c → py ≤ px → max va vb = px → min va vb = py → ((w3 = 0 → y = a) ∧ (¬ w3 = 0 → y = b)) → w_X3_divisor_27 G Q o a b w3 x (mR M o 3) M := by
    intro x y px py sx sy w3 nx ny ix iy wx wy cx hyx ex ey h3
    unfold w_X3_divisor_27
    rw [hR.2.2.2.1]
    have r2 := hroom u i2
    have r3 := hroom v i3
    refine s_copy hO (hX u i2) ix wx (by omega) (fun M3 f3 w3' => ?_)
    intro M5 e5
    have hO3 := f3.ok hO
    have hR3 := f3.ler hR
    rw [hR3.2.2.2.1] at e5
    have f5 : Fr G M3 M5 [u] := by rw [e5]; exact Fr.wI (hX u i2) 2 0
    have w5 : Wh G M5 u px false := by rw [e5]; exact w3'.pos
    have g5 := f3.tr1 f5
    have hO5 := g5.ok hO
    have hR5 := g5.ler hR
    have tail : w_X3_divisor_51 G Q o y (mR M5 o 4) M5 := by
      unfold w_X3_divisor_51
      rw [hR5.2.2.2.2.1]
      have wy5 := g5.wh hO iy (ni1 (fun e => ny (by rw [e]; exact i2))) wy
      have hyl := nl_mono BB1 hyx
      refine s_copy hO5 (hX v i3) iy wy5 (by rw [g5.room]; omega) (fun M7 f7 w7 => ?_)
      intro M9 e9 M10 e10
      have hO7 := f7.ok hO5
      have hR7 := f7.ler hR5
      rw [hR7.2.2.2.2.1] at e9
      have f9 : Fr G M7 M9 [v] := by rw [e9]; exact Fr.wI (hX v i3) 2 0
      have w9 : Wh G M9 v py false := by rw [e9]; exact w7.pos
      have g9 := f7.tr1 f9
      have hO9 := g9.ok hO5
      have hR9 := g9.ler hR5
      have wu9 := g9.wh hO5 (hX u i2) (ni1 (hnd.ne 2 3 rfl rfl (by decide))) w5
      have f10 : Fs G M9 M10 [] [o] := by rw [e10]; exact Fs.wIo ho _ _
      have FF : Fs G M M10 X [o] := ((g5.fs hX (all1 ho) (all1 i2)).tr (g9.fs hX (all1 ho) (all1 i3))).tr (f10.mono hX (all1 ho) (by simp) (by simp))
      have hR10 : LeR M10 o dv xd qd u v s t := by
        have rr : ∀ a k, mR M10 a k = mR M9 a k := fun a k => by rw [e10, mR_wI]
        obtain ⟨d0, d1, d2, d3, d4, d5, d6⟩ := hR9
        exact ⟨by rw [rr]; exact d0, by rw [rr]; exact d1, by rw [rr]; exact d2, by rw [rr]; exact d3, by rw [rr]; exact d4, by rw [rr]; exact d5, by rw [rr]; exact d6⟩
      refine ⟨9000, ?_⟩
      rw [← nI_0]
      have hgg : Nat.gcd px py = Nat.gcd va vb := by
        rw [← ex, ← ey]
        rcases Nat.le_total va vb with q | q
        · rw [Nat.max_eq_right q, Nat.min_eq_left q, Nat.gcd_comm]
        · rw [Nat.max_eq_left q, Nat.min_eq_right q]
      have hEM := EM_le (u := px) (v := py) (n := c) cx (by omega)
      refine s_div_loop (M0 := M) (T := LG 9000 px py 0) (g := Nat.gcd va vb) (c := c) (rm := rm) hX hO ho hdo hroom hc hrm ?_ 9000 M10 u v s t px py 0 0 FF hR10 hmem hnd (f10.wh hO9 (hX u i2) (by simp) wu9) (f10.wh hO9 (hX v i3) (by simp) w9) hyx cx hgg (by rw [e10, mI_wI_s]; rfl) rfl (by omega) (by decide)
      have eL : LST va vb = if 0 < (LG 9000 px py 0).2.1 ∧ BB ≤ (LG 9000 px py 0).1 then (LG 9000 px py 0).2.2 + 1 else (LG 9000 px py 0).2.2 := by
        unfold LST
        rw [ex, ey]
      generalize LG 9000 px py 0 = T at eL ⊢
      intro N u v s t fN hRN hmN hdN wuN wvN hvB cuN hgN hsN
      have hON := fN.ok hO
      have hvc : nl BB T.2.1 ≤ c := Nat.le_trans (nl_le1.mpr hvB) hc1
      unfold w_X3_divisor_118
      rw [hRN.2.2.2.2.1, hRN.2.2.2.1, wvN.2.1, wuN.2.1, nI_le0 (by omega), nl_v0, show (1 : Int32) = nI 1 from rfl, nI_leI (by omega) (by decide), nl_le1]
      have fin : ∀ (N' : MS) (u v s t pu pv st : Nat), Fs G M N' X [o] → LeR N' o dv xd qd u v s t → (∀ y ∈ [xd, qd, u, v, s, t], y ∈ X) → NDL [xd, qd, u, v, s, t] → Wh G N' u pu false → Wh G N' v pv false → pv < BB → (pv = 0 ∨ pu < BB) → Nat.gcd pu pv = Nat.gcd va vb → mI N' o 0 = nI st → LST va vb = st → w_X3_divisor_143 G Q o N' := by
        intro N' u v s t pu pv st f' r' m' d' wu' wv' hv' hu' hg' hs' hL
        refine s_div_143 hX (f'.ok hO) ho r' m' wu' wv' hv' hu' hg' (c := c) (Nat.le_trans (nl_le1.mpr hv') hc1) (by omega) (fun P g1 g2 g3 g4 => ?_)
        exact hQ P u v s t (f'.tr g1) g2 m' d' g3 (by rw [g4, hs', hL])
      refine ⟨fun h => ?_, fun h => ⟨fun h2 => ?_, fun h2 => ?_⟩⟩
      · exact fin N u v s t T.1 T.2.1 T.2.2 fN hRN hmN hdN wuN wvN hvB (Or.inl h) hgN hsN (by rw [eL, if_neg (by omega)])
      · exact fin N u v s t T.1 T.2.1 T.2.2 fN hRN hmN hdN wuN wvN hvB (Or.inr h2) hgN hsN (by rw [eL, if_neg (by omega)])
      · refine s_takeStep hX hON ho hdo hRN hmN hdN (fun y hy => by rw [fN.room (hX y hy)]; exact hroom y hy) wuN wvN (by omega) (by omega) (by omega) (fun P g1 g2 v1 v2 g3 => ?_)
        have hm := Nat.mod_lt T.1 (show 0 < T.2.1 by omega)
        exact fin P v s u t T.2.1 (T.1 % T.2.1) (T.2.2 + 1) (fN.tr g1) g2 (NDL.mem hmN [0, 1, 3, 4, 2, 5] rfl) (hdN.sub [0, 1, 3, 4, 2, 5] (by decide) rfl) v1 v2 (by omega) (Or.inr hvB) (by rw [← hgN, Nat.gcd_comm T.1 T.2.1, Nat.gcd_rec T.2.1 T.1, Nat.gcd_comm]) (by rw [g3, hsN]; exact nI_1 _) (by rw [eL, if_pos ⟨by omega, by omega⟩])
    refine ⟨fun h => ?_, fun h => ?_⟩
    · rw [← h3.1 h]; exact tail
    · rw [← h3.2 h]; exact tail
  refine ⟨fun h => ?_, fun h => ?_⟩
  · unfold w_X3_divisor_13
    refine ⟨fun _ => ?_, fun z => absurd rfl z⟩
    exact key b a vb va sb sa 0 hbX haX hb ha wb wa cB (by omega) (by omega) (by omega) ⟨fun _ => rfl, fun z => absurd rfl z⟩
  · unfold w_X3_divisor_13
    refine ⟨fun z => absurd z (by decide), fun _ => ?_⟩
    exact key a b va vb sa sb 1 haX hbX ha hb wa wb cA (by omega) (by omega) (by omega) ⟨fun z => absurd z (by decide), fun _ => rfl⟩
