theorem s_bits_loop {G : SH} {M0 : MS} {o dv xd qd rt pd rs sm on gs nx a va K c rm top last r : Nat} {sa : Bool} {X : List Nat} (hX : ∀ y ∈ X, Is G 8 y) (ho : G.2.1 o ≠ 8) (hdo : dv ≠ o) (hO0 : Ok G M0) (hR0 : RoR M0 o dv xd qd rt pd rs sm on gs nx) (hmem : ∀ y ∈ [xd, qd, rt, pd, rs, sm, gs, nx], y ∈ X) (hnd : NDL [xd, qd, rt, pd, rs, sm, gs, nx]) (hroom : ∀ y ∈ X, rmw G M0 y = rm) (hon : Is G 8 on) (honX : on ∉ X) (won : Wh G M0 on 1 false) (ha : Is G 8 a) (haX : a ∉ X) (wa0 : Wh G M0 a va sa) (hva : 0 < va) (hK0 : 0 < K) (hK : K + 1 < 2147483648) (ca : nl BB va ≤ c) (hc1 : 1 ≤ c) (hc : c + 2 < rm) (hc2 : 2 * c < rm) (hrm : rm ≤ 100) (htop : top + 1 ≤ 16 * c) (hlast : last ≤ top + 1) (hph : 0 < last → (K + 1) * (last + 2) + 1 ≤ 900000) (hr1 : r ^ (K + 1) ≤ va) (hr2 : va < (r + 1) ^ (K + 1)) {Q : Nat → MS → Prop}
    (hQ : ∀ N gs nx, Fs G M0 N X [o] → RoR N o dv xd qd rt pd rs sm on gs nx → (∀ y ∈ [xd, qd, rt, pd, rs, sm, gs, nx], y ∈ X) → NDL [xd, qd, rt, pd, rs, sm, gs, nx] → Wh G N gs r false → Q gs N) :
    ∀ (n b : Nat) (M : MS) (g : Nat), b < n + last → last ≤ b → b ≤ top + 1 → Fr G M0 M X → Wh G M gs g false → g ^ (K + 1) ≤ va → va < (g + 2 ^ b) ^ (K + 1) → g + 2 ^ b ≤ 2 ^ (top + 1) → w_X6_find_67 G Q n o a (nI (K + 1)) (nI last) (nI b - 1) M
  | 0, b, M, g, hn, h1, _, _, _, _, _, _ => absurd hn (by omega)
  | n + 1, b, M, g, hn, hlb, hbt, f1, wg, l1, l2, l3 => by
    have I : ∀ (k y : Nat), [xd, qd, rt, pd, rs, sm, gs, nx][k]? = some y → y ∈ X := fun k y h => hmem y (List.mem_of_getElem? h)
    have ne := fun (i j : Nat) {a b : Nat} (p : [xd, qd, rt, pd, rs, sm, gs, nx][i]? = some a) (q : [xd, qd, rt, pd, rs, sm, gs, nx][j]? = some b) (r : i ≠ j) => hnd.ne i j p q r
    have i3 := I 3 pd rfl
    have i4 := I 4 rs rfl
    have i5 := I 5 sm rfl
    have i6 := I 6 gs rfl
    have i7 := I 7 nx rfl
    have hO := f1.ok hO0
    have hR := f1.ror hR0
    have wa := f1.wh hO0 ha haX wa0
    have wo := f1.wh hO0 hon honX won
    have R := fun y hy => (f1.room y).trans (hroom y hy)
    have ctop : ∀ z, z ≤ 2 ^ (top + 1) → nl BB z ≤ c := fun z hz => by
      rw [nl_le BB1, BBp]
      have h1 : (2 : Nat) ^ (top + 1) < 2 ^ (32 * c) := Nat.pow_lt_pow_right (by decide) (by omega)
      omega
    have hp : 0 < 2 ^ b := Nat.pow_pos (by decide)
    have cg : nl BB g ≤ c := ctop g (by omega)
    rw [w_X6_find_67]
    have hcond : nI b - 1 < nI last ↔ b = last := by
      rcases Nat.eq_zero_or_pos b with z | z
      · subst z
        have : last = 0 := by omega
        subst this
        exact ⟨fun _ => rfl, fun _ => by decide⟩
      · obtain ⟨k, rfl⟩ : ∃ k, b = k + 1 := ⟨b - 1, by omega⟩
        rw [nI_pred, nI_ltI (by omega) (by omega)]
        omega
    rw [hcond, nI_le0 (by omega)]
    refine ⟨fun e => ⟨fun z => ?_, fun z => ?_⟩, fun e => ?_⟩
    · subst e
      subst z
      rw [Nat.pow_zero] at l2
      have : r = g := root_one (by omega) hr1 hr2 l1 l2
      subst this
      rw [hR.2.2.2.2.2.2.2.2.1]
      exact hQ M gs nx (f1.fs hX (all1 ho) (fun _ h => h)) hR hmem hnd wg
    · subst e
      refine s_guessWithBit (c := c) (rm := rm) hO hR (hX sm i5) hon (hX gs i6) (hX nx i7) (ne 6 5 rfl rfl (by decide)) wo wg rfl (by omega) (R sm i5) (R nx i7) (by omega) cg (by omega) (fun M8 f8 w8 => ?_)
      have hO8 := f8.ok hO
      have hR8 := f8.ror hR
      rw [hR8.2.2.2.2.2.2.2.2.1, hR8.2.2.2.2.2.2.2.2.2]
      have c8 := ctop _ l3
      refine s_copy hO8 (hX gs i6) (hX nx i7) w8 (by rw [f8.room, R gs i6]; omega) (fun M11 f11 w11 => ?_)
      have hR11 := f11.ror hR8
      have F : Fs G M0 M11 X [o] := ((f1.fs hX (all1 ho) (fun _ h => h)).tr (f8.fs hX (all1 ho) (all2 i5 i7))).tr (f11.fs hX (all1 ho) (all1 i6))
      have hrg : g ≤ r := by
        rcases Nat.lt_or_ge r g with q | q
        · have := Nat.pow_le_pow_left (show r + 1 ≤ g by omega) (K + 1)
          omega
        · exact q
      have hrb : r < g + 2 ^ b := by
        rcases Nat.lt_or_ge r (g + 2 ^ b) with q | q
        · exact q
        · have := Nat.pow_le_pow_left q (K + 1)
          omega
      have hr0 : 0 < r := by
        rcases Nat.eq_zero_or_pos r with q | q
        · rw [q, Nat.zero_add, Nat.one_pow] at hr2
          omega
        · exact q
      have hPH := PH_le (K := K + 1) (D := g + 2 ^ b - r) (b := b) (by omega)
      have hph2 := hph (by omega)
      refine ⟨PH (K + 1) (g + 2 ^ b - r) + 2, ?_⟩
      rw [← nI_0]
      exact s_newton (M0 := M0) (c := c) (rm := rm) hX ho hdo hO0 hroom ha haX wa0 hva hK0 hK ca hc hc2 hr0 hr1 hr2 hQ (PH (K + 1) (g + 2 ^ b - r) + 2) M11 gs nx (g + 2 ^ b) 0 F hR11 hmem hnd w11 c8 (by omega) (by omega) (by omega)
    · obtain ⟨k, rfl⟩ : ∃ k, b = k + 1 := ⟨b - 1, by omega⟩
      rw [nI_pred]
      have hpk : 0 < 2 ^ k := Nat.pow_pos (by decide)
      have hps : 2 ^ (k + 1) = 2 ^ k + 2 ^ k := by rw [Nat.pow_succ]; omega
      rw [hps] at l2 l3
      refine s_guessWithBit (c := c) (rm := rm) hO hR (hX sm i5) hon (hX gs i6) (hX nx i7) (ne 6 5 rfl rfl (by decide)) wo wg rfl (by omega) (R sm i5) (R nx i7) (by omega) cg (by omega) (fun M16 f16 w16 => ?_)
      have hO16 := f16.ok hO
      have hR16 := f16.ror hR
      have g16 : Fr G M0 M16 X := f1.tr1 (f16.mono hX (all2 i5 i7))
      have wa16 := g16.wh hO0 ha haX wa0
      have wg16 := f16.wh hO (hX gs i6) (ni2 (ne 6 5 rfl rfl (by decide)) (ne 6 7 rfl rfl (by decide))) wg
      have c16 : nl BB (g + 2 ^ k) ≤ c := ctop _ (by omega)
      rw [hR16.2.2.2.2.2.2.2.2.2]
      refine s_raiseUpTo (K := K + 1) (c := c) (rm := rm) hO16 (hX pd i3) (hX rs i4) (hX nx i7) ha (ne 3 4 rfl rfl (by decide)) (ne 7 3 rfl rfl (by decide)) (ne 7 4 rfl rfl (by decide)) (out_ne haX i3) (out_ne haX i4) hR16.2.2.2.2.1 hR16.2.2.2.2.2.1 w16 wa16 (by omega) hva rfl hK ((f16.room pd).trans (R pd i3)) ((f16.room rs).trans (R rs i4)) c16 ca hc2 (fun M18 f18 hle w18 => ?_) (fun M18 f18 hgt => ?_)
      · refine ⟨fun h => absurd h (by decide), fun _ => ?_⟩
        have hO18 := f18.ok hO16
        have hR18 := f18.ror hR16
        have wn18 := f18.wh hO16 (hX nx i7) (ni2 (ne 7 3 rfl rfl (by decide)) (ne 7 4 rfl rfl (by decide))) w16
        rw [hR18.2.2.2.2.2.2.2.2.1, hR18.2.2.2.2.2.2.2.2.2]
        refine s_copy hO18 (hX gs i6) (hX nx i7) wn18 (by rw [f18.room, f16.room, R gs i6]; omega) (fun M22 f22 w22 => ?_)
        intro x5 ex5
        rw [ex5, show nI k + -1 = nI k - 1 from (Int32.sub_eq_add_neg ..).symm]
        exact s_bits_loop hX ho hdo hO0 hR0 hmem hnd hroom hon honX won ha haX wa0 hva hK0 hK ca hc1 hc hc2 hrm htop hlast hph hr1 hr2 hQ n k M22 (g + 2 ^ k) (by omega) (by omega) (by omega) ((g16.tr1 (f18.mono hX (all2 i3 i4))).tr1 (f22.mono hX (all1 i6))) w22 hle (by rw [Nat.add_assoc]; exact l2) (by rw [Nat.add_assoc]; exact l3)
      · refine ⟨fun _ => ?_, fun h => absurd rfl h⟩
        have wg18 := f18.wh hO16 (hX gs i6) (ni2 (ne 6 3 rfl rfl (by decide)) (ne 6 4 rfl rfl (by decide))) wg16
        intro x5 ex5
        rw [ex5, show nI k + -1 = nI k - 1 from (Int32.sub_eq_add_neg ..).symm]
        exact s_bits_loop hX ho hdo hO0 hR0 hmem hnd hroom hon honX won ha haX wa0 hva hK0 hK ca hc1 hc hc2 hrm htop hlast hph hr1 hr2 hQ n k M18 g (by omega) (by omega) (by omega) (g16.tr1 (f18.mono hX (all2 i3 i4))) wg18 l1 hgt (by omega)
theorem last_eq {t : Nat} (h : t < 1000000) : (if (0 : Int32) < ((nI t - 8) + 1) then ((nI t - 8) + 1) else (0 : Int32)) = nI (t - 7) := by
  have e : nI t - 8 + 1 = nI t - nI 7 := by
    rw [show (8 : Int32) = nI 7 + 1 from rfl, ← Int32.sub_sub, Int32.sub_add_cancel]
  rw [e]
  rcases Nat.lt_or_ge t 7 with q | q
  · have := pk_sneg (a := t) (b := 7) (by decide) q
    rw [if_neg]
    · rw [show t - 7 = 0 by omega]; rfl
    · intro z
      rw [fa_lt] at this z
      have : (0 : Int32).toInt = 0 := rfl
      omega
  · rw [pk_sub q]
    by_cases c : (0 : Int32) < nI (t - 7)
    · rw [if_pos c]
    · rw [if_neg c]
      rw [nI_0lt (by omega)] at c
      rw [show t - 7 = 0 by omega]
      rfl
theorem s_rootFind {G : SH} {M : MS} {o dv xd qd rt pd rs sm on gs nx a va k c rm r : Nat} {X : List Nat} {i : Int32} (hX : ∀ y ∈ X, Is G 8 y) (ho : G.2.1 o ≠ 8) (hdo : dv ≠ o) (hO : Ok G M) (hR : RoR M o dv xd qd rt pd rs sm on gs nx) (hmem : ∀ y ∈ [xd, qd, rt, pd, rs, sm, gs, nx], y ∈ X) (hnd : NDL [xd, qd, rt, pd, rs, sm, gs, nx]) (hroom : ∀ y ∈ X, rmw G M y = rm) (hon : Is G 8 on) (honX : on ∉ X) (won : Wh G M on 1 false) (ha : Is G 8 a) (haX : a ∉ X) (wa : Wh G M a va false) (hi : i = nI k) (hk : k < 2147483648) (hk0 : 0 < k) (ca : nl BB va ≤ c) (hc1 : 1 ≤ c) (hc : c + 2 < rm) (hc2 : 2 * c < rm) (hrm : rm ≤ 100) (hr1 : r ^ k ≤ va) (hr2 : va < (r + 1) ^ k) {Q : Nat → MS → Prop}
    (hQ : ∀ N gs nx, Fs G M N X [o] → RoR N o dv xd qd rt pd rs sm on gs nx → (∀ y ∈ [xd, qd, rt, pd, rs, sm, gs, nx], y ∈ X) → NDL [xd, qd, rt, pd, rs, sm, gs, nx] → Wh G N gs r false → Q gs N) : w_X6_find G o a i M Q := by
  unfold w_X6_find
  have I : ∀ (k y : Nat), [xd, qd, rt, pd, rs, sm, gs, nx][k]? = some y → y ∈ X := fun k y h => hmem y (List.mem_of_getElem? h)
  have i6 := I 6 gs rfl
  rw [hR.2.2.2.2.2.2.2.2.1]
  refine s_become hO (hX gs i6) (fun M2 f2 w2 => ?_)
  have hO2 := f2.ok hO
  have hR2 := f2.ror hR
  have g2 : Fr G M M2 X := f2.mono hX (all1 i6)
  have wa2 := g2.wh hO ha haX wa
  have F2 : Fs G M M2 X [o] := g2.fs hX (all1 ho) (fun _ h => h)
  have a1 := wa2.1
  have hra := hO2.1 a ha
  rw [u32_0] at w2
  rw [wa2.2.1, nI_eq0 (by omega), nl_v0, hR2.2.2.2.2.2.2.2.2.1, hi, show (1 : Int32) = nI 1 from rfl, nI_leI (by decide) hk, nI_eq hk (by decide)]
  refine ⟨fun h => ?_, fun h => ⟨fun _ => ⟨fun hne => ?_, fun he => ?_⟩, fun h1 => absurd hk0 (by omega)⟩⟩
  · subst h
    have : r = 0 := root_one hk0 hr1 hr2 (by rw [Nat.zero_pow hk0]; exact Nat.le_refl _) (by rw [Nat.zero_add, Nat.one_pow]; decide)
    subst this
    exact hQ M2 gs nx F2 hR2 hmem hnd w2
  · refine s_bits hO2 ha wa2 ?_
    have hb := nl2_le ca
    have hb0 : 0 < nl 2 va := (nl_lt_iff (by decide) 0 va).mpr (by rw [Nat.pow_zero]; omega)
    obtain ⟨K, rfl⟩ : ∃ K, k = K + 1 := ⟨k - 1, by omega⟩
    obtain ⟨bb, hbb⟩ : ∃ bb, nl 2 va = bb + 1 := ⟨nl 2 va - 1, by omega⟩
    refine ⟨by rw [nI_eq0 hk]; omega, fun x3 ex3 y6 ey6 => ?_⟩
    rw [show nI 1 = (1 : Int32) from rfl] at ex3 ey6
    rw [hbb, nI_pred, pk_div (by omega) (by omega) hk] at ex3
    have hdl : bb / (K + 1) ≤ bb / 2 := Nat.div_le_div_left (by omega) (by decide)
    have hdm := Nat.div_add_mod bb (K + 1)
    have hml := Nat.mod_lt bb (show 0 < K + 1 by omega)
    have hle : (K + 1) * (bb / (K + 1)) ≤ bb := Nat.mul_div_le bb (K + 1)
    generalize bb / (K + 1) = top at ex3 hdl hdm hle
    rw [ex3, last_eq (by omega)] at ey6
    refine ⟨top + 1 + 1, ?_⟩
    rw [ey6, ex3, ← nI_pred top]
    have wo2 := g2.wh hO hon honX won
    refine s_bits_loop (M0 := M) (c := c) (rm := rm) (top := top) (last := top - 7) hX ho hdo hO hR hmem hnd hroom hon honX won ha haX wa (by omega) (by omega) hk ca hc1 hc hc2 hrm (by omega) (by omega) (fun hl => ?_) hr1 hr2 hQ (top + 1 + 1) (top + 1) M2 0 (by omega) (by omega) (Nat.le_refl _) g2 w2 (by rw [Nat.zero_pow (by omega)]; exact Nat.zero_le _) ?_ (by omega)
    · have e1 : (K + 1) * 8 ≤ (K + 1) * top := Nat.mul_le_mul_left _ (by omega)
      have e2 : (K + 1) * (top - 7 + 2) ≤ (K + 1) * top := Nat.mul_le_mul_left _ (by omega)
      omega
    · rw [Nat.zero_add, ← Nat.pow_mul]
      have h1 := (nl_le (B := 2) (by decide) (nl 2 va) va).mp (Nat.le_refl _)
      refine Nat.lt_of_lt_of_le h1 (Nat.pow_le_pow_right (by decide) ?_)
      rw [hbb, Nat.add_mul, Nat.one_mul, Nat.mul_comm top]
      omega
  · subst he
    have : r = va := root_one (k := 1) (by decide) hr1 hr2 (by rw [Nat.pow_one]; exact Nat.le_refl _) (by rw [Nat.pow_one]; omega)
    subst this
    refine s_copy hO2 (hX gs i6) ha wa2 (by rw [f2.room, hroom gs i6]; omega) (fun M25 f25 w25 => ?_)
    have hR25 := f25.ror hR2
    rw [hR25.2.2.2.2.2.2.2.2.1]
    exact hQ M25 gs nx (F2.tr (f25.fs hX (all1 ho) (all1 i6))) hR25 hmem hnd w25
