theorem nl_small {n : Nat} (h : n < 4294967296) : nl BB n ≤ 1 := (nl_le BB1 1 n).mpr (by rw [Nat.pow_one]; exact h)
theorem nl_add_le {a b c : Nat} (ha : nl BB a ≤ c) (hb : nl BB b ≤ c) : nl BB (a + b) ≤ c + 1 := by
  rw [nl_le BB1, Nat.pow_succ]
  have h1 := (nl_le BB1 c a).mp ha
  have h2 := (nl_le BB1 c b).mp hb
  have : BB ^ c * 2 ≤ BB ^ c * BB := Nat.mul_le_mul_left _ (by decide)
  omega
theorem s_step43 {G : SH} {M0 M : MS} {o dv xd qd rt pd rs sm on gs nx va K g c rm : Nat} {X : List Nat} (hX : ∀ y ∈ X, Is G 8 y) (ho : G.2.1 o ≠ 8) (hdo : dv ≠ o) (f0 : Fs G M0 M X [o]) (hO : Ok G M) (hR : RoR M o dv xd qd rt pd rs sm on gs nx) (hmem : ∀ y ∈ [xd, qd, rt, pd, rs, sm, gs, nx], y ∈ X) (hnd : NDL [xd, qd, rt, pd, rs, sm, gs, nx]) (hroom : ∀ y ∈ X, rmw G M y = rm) (hK : K + 1 < 2147483648) (wg : Wh G M gs g false) (wq : Wh G M qd (va / g ^ K) false) (cg : nl BB g ≤ c) (ca : nl BB va ≤ c) (hc : c + 2 < rm) {Q : Int32 → MS → Prop}
    (hQ1 : nst va K g < g → ∀ N, Fs G M0 N X [o] → RoR N o dv xd qd rt pd rs sm on nx gs → Wh G N nx (nst va K g) false → Q 1 N) (hQ0 : ¬ nst va K g < g → ∀ N, Fs G M0 N X [o] → RoR N o dv xd qd rt pd rs sm on gs nx → Wh G N gs g false → Q 0 N) : w_X6_stepDown_43 G Q o (nI (K + 1)) M := by
  unfold w_X6_stepDown_43
  have I : ∀ (k y : Nat), [xd, qd, rt, pd, rs, sm, gs, nx][k]? = some y → y ∈ X := fun k y h => hmem y (List.mem_of_getElem? h)
  have ne := fun (i j : Nat) {a b : Nat} (p : [xd, qd, rt, pd, rs, sm, gs, nx][i]? = some a) (q : [xd, qd, rt, pd, rs, sm, gs, nx][j]? = some b) (r : i ≠ j) => hnd.ne i j p q r
  have i0 := I 0 xd rfl
  have i1 := I 1 qd rfl
  have i2 := I 2 rt rfl
  have i3 := I 3 pd rfl
  have i5 := I 5 sm rfl
  have i6 := I 6 gs rfl
  have i7 := I 7 nx rfl
  rw [hR.2.2.2.2.2.2.1, nI_pred]
  refine s_become hO (hX sm i5) (fun M6 f6 w6 => ?_)
  have hO6 := f6.ok hO
  have hR6 := f6.ror hR
  rw [u32_nI_lt (by omega)] at w6
  rw [hR6.2.2.2.2.1, hR6.2.2.2.2.2.2.2.2.1, hR6.2.2.2.2.2.2.1]
  have wg6 := f6.wh hO (hX gs i6) (ni1 (ne 6 5 rfl rfl (by decide))) wg
  have cK := nl_small (n := K) (by omega)
  refine s_product hO6 (hX pd i3) (hX gs i6) (hX sm i5) (ne 6 3 rfl rfl (by decide)) (ne 5 3 rfl rfl (by decide)) wg6 w6 (by rw [f6.room, hroom pd i3]; omega) (fun M10 f10 w10 => ?_)
  have hO10 := f10.ok hO6
  have hR10 := f10.ror hR6
  rw [hR10.2.2.2.2.1, hR10.2.2.1]
  have wq10 := f10.wh hO6 (hX qd i1) (ni1 (ne 1 3 rfl rfl (by decide))) (f6.wh hO (hX qd i1) (ni1 (ne 1 5 rfl rfl (by decide))) wq)
  have c10 : nl BB (g * K) ≤ c + 1 := nl_mul_le cg cK
  have cq : nl BB (va / g ^ K) ≤ c := Nat.le_trans (nl_mono BB1 (Nat.div_le_self _ _)) ca
  have R10 := fun y hy => ((f10.room y).trans (f6.room y)).trans (hroom y hy)
  refine s_sum hO10 (hX pd i3) (hX pd i3) (hX qd i1) w10 wq10 (by rw [R10 pd i3]; omega) (by rw [R10 pd i3]; omega) (fun M14 f14 w14 => ?_)
  have hO14 := f14.ok hO10
  have hR14 := f14.ror hR10
  rw [hR14.2.2.2.2.2.2.1]
  refine s_become hO14 (hX sm i5) (fun M16 f16 w16 => ?_)
  have hO16 := f16.ok hO14
  have hR16 := f16.ror hR14
  rw [u32_nI_lt (by omega)] at w16
  have wp16 := f16.wh hO14 (hX pd i3) (ni1 (ne 3 5 rfl rfl (by decide))) w14
  have R16 := fun y hy => ((f16.room y).trans (f14.room y)).trans (R10 y hy)
  have c14 : nl BB (g * K + va / g ^ K) ≤ c + 1 + 1 := nl_add_le c10 (by omega)
  have cK1 := nl_small (n := K + 1) (by omega)
  rw [hR16.1, hR16.2.2.2.2.2.2.2.2.2, hR16.2.2.2.1, hR16.2.2.2.2.1, hR16.2.2.2.2.2.2.1]
  refine s_split hO16 (hX nx i7) (hX rt i2) (hX xd i0) (hX pd i3) (hX sm i5) hR16.2.1 (ne 7 2 rfl rfl (by decide)) (ne 0 7 rfl rfl (by decide)) (ne 0 2 rfl rfl (by decide)) (ne 0 3 rfl rfl (by decide)) (ne 0 5 rfl rfl (by decide)) (ne 3 7 rfl rfl (by decide)) (ne 3 2 rfl rfl (by decide)) (ne 5 7 rfl rfl (by decide)) (ne 5 2 rfl rfl (by decide)) wp16 w16 (by omega) (by rw [R16 nx i7]; omega) (by rw [R16 rt i2]; omega) (by rw [R16 xd i0]; omega) (fun M22 f22 w22 _ => ?_)
  have hO22 := f22.ok hO16
  have hR22 := f22.ror hR16
  have e22 : (g * K + va / g ^ K) / (K + 1) = nst va K g := by unfold nst; rw [Nat.mul_comm g K]
  rw [e22] at w22
  have wg22 := f22.wh hO16 (hX gs i6) (ni3 (ne 6 7 rfl rfl (by decide)) (ne 6 2 rfl rfl (by decide)) (ne 6 0 rfl rfl (by decide))) (f16.wh hO14 (hX gs i6) (ni1 (ne 6 5 rfl rfl (by decide))) (f14.wh hO10 (hX gs i6) (ni1 (ne 6 3 rfl rfl (by decide))) (f10.wh hO6 (hX gs i6) (ni1 (ne 6 3 rfl rfl (by decide))) wg6)))
  have F : Fs G M0 M22 X [o] := ((((f0.tr (f6.fs hX (all1 ho) (all1 i5))).tr (f10.fs hX (all1 ho) (all1 i3))).tr (f14.fs hX (all1 ho) (all1 i3))).tr (f16.fs hX (all1 ho) (all1 i5))).tr (f22.fs hX (all1 ho) (all3 i7 i2 i0))
  rw [hR22.2.2.2.2.2.2.2.2.2, hR22.2.2.2.2.2.2.2.2.1]
  refine s_order hO22 (hX nx i7) (hX gs i6) w22 wg22 ?_
  rw [cmp_lt0]
  refine ⟨fun hlt M28 e28 M29 e29 => ?_, fun hge => hQ0 hge M22 F hR22 wg22⟩
  obtain ⟨k0, k1, k2, k3, k4, k5, k6, k7, k8, k9⟩ := id hR22
  rw [k9] at e28
  rw [k8] at e29
  have g1 : Fs G M22 M29 [] [o] := by
    rw [e29, e28]
    exact (Fs.wR ho _ _).tr (Fs.wR ho _ _)
  refine hQ1 hlt M29 (F.tr (g1.mono hX (all1 ho) (by simp) (by simp))) ?_ (g1.wh hO22 (hX nx i7) (by simp) w22)
  refine ⟨?_, ?_, ?_, ?_, ?_, ?_, ?_, ?_, ?_, ?_⟩
  · rw [e29, e28, mR_wR_k _ _ (by decide), mR_wR_k _ _ (by decide)]; exact k0
  · rw [g1.2.2.1 dv 0 (ni1 hdo)]; exact k1
  · rw [e29, e28, mR_wR_k _ _ (by decide), mR_wR_k _ _ (by decide)]; exact k2
  · rw [e29, e28, mR_wR_k _ _ (by decide), mR_wR_k _ _ (by decide)]; exact k3
  · rw [e29, e28, mR_wR_k _ _ (by decide), mR_wR_k _ _ (by decide)]; exact k4
  · rw [e29, e28, mR_wR_k _ _ (by decide), mR_wR_k _ _ (by decide)]; exact k5
  · rw [e29, e28, mR_wR_k _ _ (by decide), mR_wR_k _ _ (by decide)]; exact k6
  · rw [e29, e28, mR_wR_k _ _ (by decide), mR_wR_k _ _ (by decide)]; exact k7
  · rw [e29, e28, mR_wR_k _ _ (by decide), mR_wR_s]
  · rw [e29, mR_wR_s]
theorem s_stepDown {G : SH} {M0 M : MS} {o dv xd qd rt pd rs sm on gs nx a va K g c rm : Nat} {sa : Bool} {X : List Nat} (hX : ∀ y ∈ X, Is G 8 y) (ho : G.2.1 o ≠ 8) (hdo : dv ≠ o) (f0 : Fs G M0 M X [o]) (hO : Ok G M) (hR : RoR M o dv xd qd rt pd rs sm on gs nx) (hmem : ∀ y ∈ [xd, qd, rt, pd, rs, sm, gs, nx], y ∈ X) (hnd : NDL [xd, qd, rt, pd, rs, sm, gs, nx]) (hroom : ∀ y ∈ X, rmw G M y = rm) (ha : Is G 8 a) (haX : a ∉ X) (wa : Wh G M a va sa) (hva : 0 < va) (hK : K + 1 < 2147483648) (hg : 0 < g) (wg : Wh G M gs g false) (cg : nl BB g ≤ c) (ca : nl BB va ≤ c) (hc : c + 2 < rm) (hc2 : 2 * c < rm) {Q : Int32 → MS → Prop}
    (hQ1 : nst va K g < g → ∀ N, Fs G M0 N X [o] → RoR N o dv xd qd rt pd rs sm on nx gs → Wh G N nx (nst va K g) false → Q 1 N) (hQ0 : ¬ nst va K g < g → ∀ N, Fs G M0 N X [o] → RoR N o dv xd qd rt pd rs sm on gs nx → Wh G N gs g false → Q 0 N) : w_X6_stepDown G o a (nI (K + 1)) M Q := by
  unfold w_X6_stepDown
  have I : ∀ (k y : Nat), [xd, qd, rt, pd, rs, sm, gs, nx][k]? = some y → y ∈ X := fun k y h => hmem y (List.mem_of_getElem? h)
  have ne := fun (i j : Nat) {a b : Nat} (p : [xd, qd, rt, pd, rs, sm, gs, nx][i]? = some a) (q : [xd, qd, rt, pd, rs, sm, gs, nx][j]? = some b) (r : i ≠ j) => hnd.ne i j p q r
  have i0 := I 0 xd rfl
  have i1 := I 1 qd rfl
  have i2 := I 2 rt rfl
  have i3 := I 3 pd rfl
  have i4 := I 4 rs rfl
  have i6 := I 6 gs rfl
  rw [hR.2.2.1]
  refine s_become hO (hX qd i1) (fun M2 f2 w2 => ?_)
  have hO2 := f2.ok hO
  have hR2 := f2.ror hR
  rw [u32_0] at w2
  rw [hR2.2.2.2.2.2.2.2.2.1]
  have wg2 := f2.wh hO (hX gs i6) (ni1 (ne 6 1 rfl rfl (by decide))) wg
  have wa2 := f2.wh hO ha (ni1 (out_ne haX i1)) wa
  have hgp : 0 < g ^ K := Nat.pow_pos hg
  refine s_raiseUpTo (K := K) (c := c) (rm := rm) hO2 (hX pd i3) (hX rs i4) (hX gs i6) ha (ne 3 4 rfl rfl (by decide)) (ne 6 3 rfl rfl (by decide)) (ne 6 4 rfl rfl (by decide)) (out_ne haX i3) (out_ne haX i4) hR2.2.2.2.2.1 hR2.2.2.2.2.2.1 wg2 wa2 hg hva (nI_pred K) (by omega) ((f2.room pd).trans (hroom pd i3)) ((f2.room rs).trans (hroom rs i4)) cg ca hc2 (fun M4 f4 hle w4 => ?_) (fun M4 f4 hlt => ?_)
  · refine ⟨fun h => absurd h (by decide), fun _ => ?_⟩
    have hO4 := f4.ok hO2
    have hR4 := f4.ror hR2
    rw [hR4.1, hR4.2.2.1, hR4.2.2.2.1, hR4.2.2.2.2.2.1]
    have wa4 := f4.wh hO2 ha (ni2 (out_ne haX i3) (out_ne haX i4)) wa2
    have R4 := fun y hy => ((f4.room y).trans (f2.room y)).trans (hroom y hy)
    have cgk : nl BB (g ^ K) ≤ c := Nat.le_trans (nl_mono BB1 hle) ca
    refine s_split hO4 (hX qd i1) (hX rt i2) (hX xd i0) ha (hX rs i4) hR4.2.1 (ne 1 2 rfl rfl (by decide)) (ne 0 1 rfl rfl (by decide)) (ne 0 2 rfl rfl (by decide)) (out_ne haX i0).symm (ne 0 4 rfl rfl (by decide)) (out_ne haX i1) (out_ne haX i2) (ne 4 1 rfl rfl (by decide)) (ne 4 2 rfl rfl (by decide)) wa4 w4 hgp (by rw [R4 qd i1]; omega) (by rw [R4 rt i2]; omega) (by rw [R4 xd i0]; omega) (fun M34 f34 w34 _ => ?_)
    have hO34 := f34.ok hO4
    have hR34 := f34.ror hR4
    have wg34 := f34.wh hO4 (hX gs i6) (ni3 (ne 6 1 rfl rfl (by decide)) (ne 6 2 rfl rfl (by decide)) (ne 6 0 rfl rfl (by decide))) (f4.wh hO2 (hX gs i6) (ni2 (ne 6 3 rfl rfl (by decide)) (ne 6 4 rfl rfl (by decide))) wg2)
    exact s_step43 (M0 := M0) (va := va) hX ho hdo (((f0.tr (f2.fs hX (all1 ho) (all1 i1))).tr (f4.fs hX (all1 ho) (all2 i3 i4))).tr (f34.fs hX (all1 ho) (all3 i1 i2 i0))) hO34 hR34 hmem hnd (fun y hy => (f34.room y).trans (R4 y hy)) hK wg34 w34 cg ca hc hQ1 hQ0
  · refine ⟨fun _ => ?_, fun h => absurd rfl h⟩
    have hO4 := f4.ok hO2
    have hR4 := f4.ror hR2
    have wg4 := f4.wh hO2 (hX gs i6) (ni2 (ne 6 3 rfl rfl (by decide)) (ne 6 4 rfl rfl (by decide))) wg2
    have wq4 := f4.wh hO2 (hX qd i1) (ni2 (ne 1 3 rfl rfl (by decide)) (ne 1 4 rfl rfl (by decide))) w2
    have R4 := fun y hy => ((f4.room y).trans (f2.room y)).trans (hroom y hy)
    exact s_step43 (M0 := M0) (va := va) hX ho hdo ((f0.tr (f2.fs hX (all1 ho) (all1 i1))).tr (f4.fs hX (all1 ho) (all2 i3 i4))) hO4 hR4 hmem hnd R4 hK wg4 (by rw [Nat.div_eq_of_lt hlt]; exact wq4) cg ca hc hQ1 hQ0
/-! the steps, down to the root -/
theorem s_newton {G : SH} {M0 : MS} {o dv xd qd rt pd rs sm on a va K r c rm : Nat} {sa : Bool} {X : List Nat} (hX : ∀ y ∈ X, Is G 8 y) (ho : G.2.1 o ≠ 8) (hdo : dv ≠ o) (hO0 : Ok G M0) (hroom : ∀ y ∈ X, rmw G M0 y = rm) (ha : Is G 8 a) (haX : a ∉ X) (wa0 : Wh G M0 a va sa) (hva : 0 < va) (hK0 : 0 < K) (hK : K + 1 < 2147483648) (ca : nl BB va ≤ c) (hc : c + 2 < rm) (hc2 : 2 * c < rm) (hr0 : 0 < r) (hr1 : r ^ (K + 1) ≤ va) (hr2 : va < (r + 1) ^ (K + 1)) {Q : Nat → MS → Prop}
    (hQ : ∀ N gs nx, Fs G M0 N X [o] → RoR N o dv xd qd rt pd rs sm on gs nx → (∀ y ∈ [xd, qd, rt, pd, rs, sm, gs, nx], y ∈ X) → NDL [xd, qd, rt, pd, rs, sm, gs, nx] → Wh G N gs r false → Q gs N) :
    ∀ (n : Nat) (M : MS) (gs nx g t : Nat), Fs G M0 M X [o] → RoR M o dv xd qd rt pd rs sm on gs nx → (∀ y ∈ [xd, qd, rt, pd, rs, sm, gs, nx], y ∈ X) → NDL [xd, qd, rt, pd, rs, sm, gs, nx] → Wh G M gs g false → nl BB g ≤ c → r ≤ g → PH (K + 1) (g - r) + 1 < n → t + PH (K + 1) (g - r) ≤ 900000 → w_X6_find_138 G Q n o a (nI (K + 1)) 1 (nI t) M
  | 0, M, gs, nx, g, t, _, _, _, _, _, _, _, hn, _ => absurd hn (Nat.not_lt_zero _)
  | n + 1, M, gs, nx, g, t, f1, hR, hmem, hnd, wg, cg, hrg, hn, ht => by
    have hO := f1.ok hO0
    have wa := f1.wh hO0 ha haX wa0
    rw [w_X6_find_138, show (1000000 : Int32) = nI 1000000 from rfl, nI_leI (by decide) (by omega)]
    refine ⟨fun h => absurd h (by omega), fun _ => ⟨fun h => absurd h (by decide), fun _ => ?_⟩⟩
    refine s_stepDown (M0 := M0) (c := c) (rm := rm) hX ho hdo f1 hO hR hmem hnd (fun y hy => (f1.room (hX y hy)).trans (hroom y hy)) ha haX wa hva hK (by omega) wg cg ca hc hc2 (fun hlt N g1 g2 g3 => ?_) (fun hge N g1 g2 g3 => ?_)
    · intro x6 ex6
      rw [ex6, nI_1]
      have hgr : r < g := by
        rcases Nat.eq_or_lt_of_le hrg with e | e
        · subst e
          have := nst_eq (a := va) (K := K) hr0 hr1
          omega
        · exact e
      have hn2 := nst_lt (a := va) (K := K) hgr hr2
      have hn3 := nst_ge (a := va) (K := K) (g := g) (by omega) hr1
      have hph : PH (K + 1) (nst va K g - r) < PH (K + 1) (g - r) := by
        refine PH_lt (by omega) (by omega) ?_
        rw [Nat.mul_sub, Nat.mul_sub]
        have e1 : (K + 1) * r ≤ (K + 1) * nst va K g := Nat.mul_le_mul_left _ hn3
        have e2 : (K + 1) * g = K * g + g := by grind
        have e3 : (K + 1) * r = K * r + r := by grind
        omega
      refine s_newton hX ho hdo hO0 hroom ha haX wa0 hva hK0 hK ca hc hc2 hr0 hr1 hr2 hQ n N nx gs (nst va K g) (t + 1) g1 g2 (NDL.mem hmem [0, 1, 2, 3, 4, 5, 7, 6] rfl) (hnd.sub [0, 1, 2, 3, 4, 5, 7, 6] (by decide) rfl) g3 (Nat.le_trans (nl_mono BB1 (by omega)) cg) hn3 (by omega) (by omega)
    · intro x6 ex6
      rw [ex6, nI_1]
      have hgr : g = r := by
        rcases Nat.eq_or_lt_of_le hrg with e | e
        · exact e.symm
        · exact absurd (nst_lt (a := va) (K := K) e hr2).1 hge
      subst hgr
      obtain ⟨m, rfl⟩ : ∃ m, n = m + 1 := ⟨n - 1, by omega⟩
      rw [w_X6_find_138, g2.2.2.2.2.2.2.2.2.1]
      exact ⟨fun _ => hQ N gs nx g1 g2 hmem hnd g3, fun _ => ⟨fun _ => hQ N gs nx g1 g2 hmem hnd g3, fun h => absurd rfl h⟩⟩
