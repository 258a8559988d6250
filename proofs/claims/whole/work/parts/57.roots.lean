theorem cmp_le0 {a b : Nat} : cmpN a b ≤ 0 ↔ a ≤ b := by
  unfold cmpN
  by_cases h1 : b < a
  · rw [if_pos h1]; exact ⟨fun z => absurd z (by decide), fun z => by omega⟩
  · rw [if_neg h1]
    by_cases h2 : a = b
    · rw [if_pos h2]; exact ⟨fun _ => by omega, fun _ => by decide⟩
    · rw [if_neg h2]; exact ⟨fun _ => by omega, fun _ => by decide⟩
theorem cmp_0lt {a b : Nat} : 0 < cmpN a b ↔ b < a := by
  unfold cmpN
  by_cases h1 : b < a
  · rw [if_pos h1]; exact ⟨fun _ => h1, fun _ => by decide⟩
  · rw [if_neg h1]
    by_cases h2 : a = b
    · rw [if_pos h2]; exact ⟨fun z => absurd z (by decide), fun z => by omega⟩
    · rw [if_neg h2]; exact ⟨fun z => absurd z (by decide), fun z => by omega⟩
theorem cmp_lt0 {a b : Nat} : cmpN a b < 0 ↔ a < b := by
  unfold cmpN
  by_cases h1 : b < a
  · rw [if_pos h1]; exact ⟨fun z => absurd z (by decide), fun z => by omega⟩
  · rw [if_neg h1]
    by_cases h2 : a = b
    · rw [if_pos h2]; exact ⟨fun z => absurd z (by decide), fun z => by omega⟩
    · rw [if_neg h2]; exact ⟨fun _ => by omega, fun _ => by decide⟩
theorem nl_mul_le {a b c d : Nat} (ha : nl BB a ≤ c) (hb : nl BB b ≤ d) : nl BB (a * b) ≤ c + d := by
  rw [nl_le BB1, Nat.pow_add]
  exact Nat.mul_lt_mul'' ((nl_le BB1 c a).mp ha) ((nl_le BB1 d b).mp hb)
theorem s_rut_loop {G : SH} {M0 : MS} {o pd rs base limit vb vl K c rm : Nat} {sb sl : Bool} (hO0 : Ok G M0) (hp : Is G 8 pd) (hr : Is G 8 rs) (hb : Is G 8 base) (hl : Is G 8 limit) (hpr : pd ≠ rs) (n1 : base ≠ pd) (n2 : base ≠ rs) (n3 : limit ≠ pd) (n4 : limit ≠ rs) (e3 : mR M0 o 3 = pd) (e4 : mR M0 o 4 = rs) (wb0 : Wh G M0 base vb sb) (wl0 : Wh G M0 limit vl sl) (hvb : 0 < vb) (hK : K < 2147483648) (r1 : rmw G M0 pd = rm) (r2 : rmw G M0 rs = rm) (cb : nl BB vb ≤ c) (cl' : nl BB vl ≤ c) (hc : 2 * c < rm) {Q : Int32 → MS → Prop}
    (hQ1 : ∀ N, Fr G M0 N [pd, rs] → vb ^ K ≤ vl → Wh G N rs (vb ^ K) false → Q 1 N) (hQ0 : ∀ N, Fr G M0 N [pd, rs] → vl < vb ^ K → Q 0 N) :
    ∀ (n k : Nat) (M : MS), k < n → k ≤ 32 → Fr G M0 M [pd, rs] → Wh G M rs (vb ^ (K / 2 ^ k)) false → vb ^ (K / 2 ^ k) ≤ vl → w_X6_raiseUpTo_17 G Q n o base (nI K) limit (nI k - 1) M
  | 0, k, M, hn, _, _, _, _ => absurd hn (Nat.not_lt_zero _)
  | n + 1, 0, M, _, _, f1, w1, h1 => by
    rw [w_X6_raiseUpTo_17]
    refine ⟨fun _ => ?_, fun h => absurd (by decide) h⟩
    rw [Nat.pow_zero, Nat.div_one] at w1 h1
    exact hQ1 M f1 h1 w1
  | n + 1, k + 1, M, hn, hk, f1, w1, h1 => by
    have hO := f1.ok hO0
    have a2 : ∀ y ∈ [pd, rs], Is G 8 y := all2 hp hr
    have R := fun y => f1.room y
    have e3' : mR M o 3 = pd := (f1.2.1 o 3).trans e3
    have e4' : mR M o 4 = rs := (f1.2.1 o 4).trans e4
    have hdiv : K / 2 ^ (k + 1) = K / 2 ^ k / 2 := by rw [Nat.pow_succ, Nat.div_div_eq_div_mul]
    have hmono : ∀ m, m ≤ K → vl < vb ^ m → vl < vb ^ K := fun m hm hlt => Nat.lt_of_lt_of_le hlt (Nat.pow_le_pow_right hvb hm)
    have hfK : K / 2 ^ k ≤ K := Nat.div_le_self _ _
    generalize hf : K / 2 ^ (k + 1) = f at w1 h1 hdiv
    have cf : nl BB (vb ^ f) ≤ c := Nat.le_trans (nl_mono BB1 h1) cl'
    -- the end of a turn: raised is base to the K / 2^k
    have e92 : ∀ P, Fr G M0 P [pd, rs] → Wh G P rs (vb ^ (K / 2 ^ k)) false → w_X6_raiseUpTo_92 G (w_X6_raiseUpTo_17 G Q n) Q o base (nI K) limit (nI k) P := by
      intro P g1 g2
      unfold w_X6_raiseUpTo_92
      rw [g1.2.1, e4]
      have hOP := g1.ok hO0
      refine s_order hOP hr hl g2 (g1.wh hO0 hl (ni2 n3 n4) wl0) ?_
      rw [cmp_le0]
      refine ⟨fun hle x4 ex4 => ?_, fun hgt => hQ0 P g1 (hmono _ hfK (by omega))⟩
      rw [ex4, show nI k + -1 = nI k - 1 from (Int32.sub_eq_add_neg ..).symm]
      exact s_rut_loop hO0 hp hr hb hl hpr n1 n2 n3 n4 e3 e4 wb0 wl0 hvb hK r1 r2 cb cl' hc hQ1 hQ0 n k P (by omega) (by omega) g1 g2 hle
    have eout : ∀ P, Fr G M0 P [pd, rs] → ∀ z, Wh G P rs z false → vl < z → vl < vb ^ K → w_X6_raiseUpTo_92 G (w_X6_raiseUpTo_17 G Q n) Q o base (nI K) limit (nI k) P := by
      intro P g1 z g2 hz hgt
      unfold w_X6_raiseUpTo_92
      rw [g1.2.1, e4]
      have hOP := g1.ok hO0
      refine s_order hOP hr hl g2 (g1.wh hO0 hl (ni2 n3 n4) wl0) ?_
      rw [cmp_le0]
      exact ⟨fun hle => absurd hle (by omega), fun _ => hQ0 P g1 hgt⟩
    rw [nI_pred, w_X6_raiseUpTo_17, e3', e4']
    refine ⟨fun h => absurd h (nI_lt0 (by omega)), fun _ => ?_⟩
    refine s_product hO hp hr hr hpr.symm hpr.symm w1 w1 (by rw [R]; omega) (fun M8 f8 w8 => ?_)
    have g8 := f1.tr1 (f8.mono a2 (by simp))
    have hO8 := g8.ok hO0
    rw [g8.2.1, e4, g8.2.1, e3]
    have c2 : nl BB (vb ^ f * vb ^ f) ≤ c + c := nl_mul_le cf cf
    refine s_copy hO8 hr hp w8 (by rw [g8.room]; omega) (fun M11 f11 w11 => ?_)
    have g11 := g8.tr1 (f11.mono a2 (by simp))
    have hO11 := g11.ok hO0
    have epow : vb ^ f * vb ^ f = vb ^ (f + f) := (Nat.pow_add _ _ _).symm
    rw [epow] at w11
    rw [us (nI k) k (s_u k (by omega)) (by omega), show nI (K / 2 ^ k) &&& (1 : Int32) = nI (K / 2 ^ k % 2) from pk_andN (by omega) 1 rfl, show (1 : Int32) = nI 1 from rfl, nI_eq (by omega) (by decide)]
    have hff : f + f ≤ K / 2 ^ k := by omega
    refine ⟨fun hbit => ?_, fun hbit => ?_⟩
    · have : K / 2 ^ k = f + f := by omega
      rw [← this] at w11
      exact e92 M11 g11 w11
    · have hodd : K / 2 ^ k = f + f + 1 := by omega
      rw [g11.2.1, e4]
      refine s_order hO11 hr hl w11 (g11.wh hO0 hl (ni2 n3 n4) wl0) ?_
      rw [cmp_0lt]
      refine ⟨fun hgt => eout M11 g11 _ w11 hgt (hmono _ (by omega) hgt), fun hle => ?_⟩
      rw [g11.2.1, e3, g11.2.1, e4]
      have wb11 := g11.wh hO0 hb (ni2 n1 n2) wb0
      have cff : nl BB (vb ^ (f + f)) ≤ c := Nat.le_trans (nl_mono BB1 (by omega)) cl'
      refine s_product hO11 hp hr hb hpr.symm n1 w11 wb11 (by rw [g11.room]; omega) (fun M19 f19 w19 => ?_)
      have g19 := g11.tr1 (f19.mono a2 (by simp))
      have hO19 := g19.ok hO0
      rw [g19.2.1, e4, g19.2.1, e3]
      have c3 : nl BB (vb ^ (f + f) * vb) ≤ c + c := nl_mul_le cff cb
      refine s_copy hO19 hr hp w19 (by rw [g19.room]; omega) (fun M22 f22 w22 => ?_)
      rw [show vb ^ (f + f) * vb = vb ^ (K / 2 ^ k) by rw [hodd, Nat.pow_succ]] at w22
      exact e92 M22 (g19.tr1 (f22.mono a2 (by simp))) w22
theorem s_raiseUpTo {G : SH} {M : MS} {o pd rs base limit vb vl K c rm : Nat} {sb sl : Bool} {i : Int32} (hO : Ok G M) (hp : Is G 8 pd) (hr : Is G 8 rs) (hb : Is G 8 base) (hl : Is G 8 limit) (hpr : pd ≠ rs) (n1 : base ≠ pd) (n2 : base ≠ rs) (n3 : limit ≠ pd) (n4 : limit ≠ rs) (e3 : mR M o 3 = pd) (e4 : mR M o 4 = rs) (wb : Wh G M base vb sb) (wl : Wh G M limit vl sl) (hvb : 0 < vb) (hvl : 0 < vl) (hi : i = nI K) (hK : K < 2147483648) (r1 : rmw G M pd = rm) (r2 : rmw G M rs = rm) (cb : nl BB vb ≤ c) (cl' : nl BB vl ≤ c) (hc : 2 * c < rm) {Q : Int32 → MS → Prop}
    (hQ1 : ∀ N, Fr G M N [pd, rs] → vb ^ K ≤ vl → Wh G N rs (vb ^ K) false → Q 1 N) (hQ0 : ∀ N, Fr G M N [pd, rs] → vl < vb ^ K → Q 0 N) : w_X6_raiseUpTo G o base i limit M Q := by
  unfold w_X6_raiseUpTo
  rw [e4]
  refine s_become hO hr (fun M2 f2 w2 => ?_)
  have g2 : Fr G M M2 [pd, rs] := f2.mono (all2 hp hr) (by simp)
  refine s_nlz ?_
  intro x4 ex4
  have hnK : nl 2 K ≤ 31 := (nl_le (by decide) 31 K).mpr hK
  rw [hi, u32_nI_lt (by omega)] at ex4
  have ex4' : x4 = nI (nl 2 K) - 1 := by
    rw [ex4, show (31 : Int32) = nI 32 - 1 from rfl]
    have : nI (nl 2 K) = nI 32 - nI (32 - nl 2 K) := by rw [pk_sub (by omega)]; congr 1; omega
    rw [this]
    generalize nI 32 = a
    generalize nI (32 - nl 2 K) = b
    rw [Int32.sub_sub, Int32.sub_sub, Int32.add_comm]
  have u1 : u32 (1 : Int32) = 1 := rfl
  rw [u1] at w2
  refine ⟨nl 2 K + 1, ?_⟩
  rw [ex4', hi]
  have hz : K / 2 ^ nl 2 K = 0 := Nat.div_eq_of_lt ((nl_le (B := 2) (by decide) _ _).mp (Nat.le_refl _))
  exact s_rut_loop (M0 := M) hO hp hr hb hl hpr n1 n2 n3 n4 e3 e4 wb wl hvb hK r1 r2 cb cl' hc hQ1 hQ0 (nl 2 K + 1) (nl 2 K) M2 (by omega) (by omega) g2 (by rw [hz, Nat.pow_zero]; exact w2) (by rw [hz, Nat.pow_zero]; exact hvl)
def RoR (M : MS) (o dv xd qd rt pd rs sm on gs nx : Nat) : Prop := mR M o 0 = dv ∧ mR M dv 0 = xd ∧ mR M o 1 = qd ∧ mR M o 2 = rt ∧ mR M o 3 = pd ∧ mR M o 4 = rs ∧ mR M o 5 = sm ∧ mR M o 6 = on ∧ mR M o 7 = gs ∧ mR M o 8 = nx
theorem Fr.ror {G : SH} {M N : MS} {X : List Nat} {o dv xd qd rt pd rs sm on gs nx : Nat} (f : Fr G M N X) (h : RoR M o dv xd qd rt pd rs sm on gs nx) : RoR N o dv xd qd rt pd rs sm on gs nx := by
  have r := f.2.1
  obtain ⟨e0, e1, e2, e3, e4, e5, e6, e7, e8, e9⟩ := h
  exact ⟨by rw [r]; exact e0, by rw [r]; exact e1, by rw [r]; exact e2, by rw [r]; exact e3, by rw [r]; exact e4, by rw [r]; exact e5, by rw [r]; exact e6, by rw [r]; exact e7, by rw [r]; exact e8, by rw [r]; exact e9⟩
theorem s_guessWithBit {G : SH} {M : MS} {o dv xd qd rt pd rs sm on gs nx bit g c rm : Nat} {i : Int32} {sg' : Bool} (hO : Ok G M) (hR : RoR M o dv xd qd rt pd rs sm on gs nx) (hs : Is G 8 sm) (ho : Is G 8 on) (hg : Is G 8 gs) (hn : Is G 8 nx) (n1 : gs ≠ sm) (wo : Wh G M on 1 false) (wg : Wh G M gs g sg') (hi : i = nI bit) (hbit : bit < 1000000) (r1 : rmw G M sm = rm) (r2 : rmw G M nx = rm) (cb : bit / 32 + 1 ≤ c) (cg : nl BB g ≤ c) (hc : c < rm) {Q : MS → Prop}
    (hQ : ∀ N, Fr G M N [sm, nx] → Wh G N nx (g + 2 ^ bit) false → Q N) : w_X6_guessWithBit G o i M Q := by
  unfold w_X6_guessWithBit
  rw [hR.2.2.2.2.2.2.1, hR.2.2.2.2.2.2.2.1]
  have nl1 : nl BB 1 = 1 := nl_eq BB1 (by decide) (Or.inr (by decide))
  refine s_shiftUp hO hs ho wo hi (by omega) (by rw [nl1]; omega) (fun M3 f3 _ w3 => ?_)
  have hO3 := f3.ok hO
  have hR3 := f3.ror hR
  rw [Nat.one_mul] at w3
  rw [hR3.2.2.2.2.2.2.2.2.2, hR3.2.2.2.2.2.2.2.2.1, hR3.2.2.2.2.2.2.1]
  have c2 : nl BB (2 ^ bit) ≤ c := by
    rw [nl_le BB1, BBp]
    exact Nat.pow_lt_pow_right (by decide) (by omega)
  refine s_sum hO3 hn hg hs (f3.wh hO hg (ni1 n1) wg) w3 (by rw [f3.room]; omega) (by rw [f3.room]; omega) (fun N f4 w4 => hQ N ((f3.mono (all2 hs hn) (by simp)).tr1 (f4.mono (all2 hs hn) (by simp))) w4)
