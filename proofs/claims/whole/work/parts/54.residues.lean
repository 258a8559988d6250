/-! RESIDUES -/
def modN (va : Nat) (sa : Bool) (vn : Nat) : Nat := if sa = true ∧ va % vn ≠ 0 then vn - va % vn else va % vn
theorem modN_lt {va vn : Nat} {sa : Bool} (h : 0 < vn) : modN va sa vn < vn := by
  unfold modN
  have := Nat.mod_lt va h
  by_cases c : sa = true ∧ va % vn ≠ 0
  · rw [if_pos c]
    have c2 := c.2
    generalize va % vn = r at *
    omega
  · rw [if_neg c]; exact this
theorem s_reduce {G : SH} {M : MS} {o dv xd qd to a n va vn rm : Nat} {sa : Bool} (hO : Ok G M) (e0 : mR M o 0 = dv) (e1 : mR M dv 0 = xd) (e2 : mR M o 1 = qd) (hx : Is G 8 xd) (hq : Is G 8 qd) (ht : Is G 8 to) (ha : Is G 8 a) (hn : Is G 8 n) (hnd : NDL [xd, qd, to, n]) (h1 : a ≠ xd) (h2 : a ≠ qd) (h3 : a ≠ to) (wa : Wh G M a va sa) (wn : Wh G M n vn false) (hvn : 0 < vn) (r1 : rmw G M qd = rm) (r2 : rmw G M to = rm) (r3 : rmw G M xd = rm) (ca : nl BB va < rm) (cn : nl BB vn < rm) {Q : MS → Prop}
    (hQ : ∀ N, Fr G M N [qd, to, xd] → Wh G N to (modN va sa vn) false → Q N) : w_X5_reduce G o to a n M Q := by
  unfold w_X5_reduce
  rw [e0, e2]
  have ne := fun (i j : Nat) {a b : Nat} (p : [xd, qd, to, n][i]? = some a) (q : [xd, qd, to, n][j]? = some b) (r : i ≠ j) => hnd.ne i j p q r
  refine s_split hO hq ht hx ha hn e1 (ne 1 2 rfl rfl (by decide)) (ne 0 1 rfl rfl (by decide)) (ne 0 2 rfl rfl (by decide)) h1.symm (ne 0 3 rfl rfl (by decide)) h2 h3 (ne 3 1 rfl rfl (by decide)) (ne 3 2 rfl rfl (by decide)) wa wn hvn (by omega) (by omega) (by omega) (fun N f1 _ wt => ?_)
  have hO1 := f1.ok hO
  have wa1 := f1.wh hO ha (ni3 h2 h3 h1) wa
  have wn1 := f1.wh hO hn (ni3 (ne 3 1 rfl rfl (by decide)) (ne 3 2 rfl rfl (by decide)) (ne 3 0 rfl rfl (by decide))) wn
  have hlt := Nat.mod_lt va hvn
  have hr := hO1.1 to ht
  have w1 := wt.1
  rw [wa1.2.2.2, wt.2.1, nI_le0 (by omega), nl_v0]
  unfold modN at hQ
  refine ⟨fun h => hQ N f1 ?_, fun h => ⟨fun h2 => hQ N f1 ?_, fun h2 => ?_⟩⟩
  · cases sa
    · simpa using wt
    · exact absurd h (by decide)
  · rw [if_neg (fun c => c.2 h2)]
    exact wt
  · refine s_diff hO1 ht hn ht wn1 wt (by omega) (by rw [f1.room]; omega) (fun P f2 w2 => hQ P (f1.tr1 (f2.mono f1.1 (by simp))) ?_)
    have : sa = true := by
      cases sa
      · exact absurd rfl h
      · rfl
    rw [if_pos ⟨this, h2⟩]
    exact w2
def ReR (M : MS) (o dv xd qd pd bs rs u v w : Nat) : Prop := mR M o 0 = dv ∧ mR M dv 0 = xd ∧ mR M o 1 = qd ∧ mR M o 2 = pd ∧ mR M o 3 = bs ∧ mR M o 4 = rs ∧ mR M o 5 = u ∧ mR M o 6 = v ∧ mR M o 7 = w
theorem Fr.rer {G : SH} {M N : MS} {X : List Nat} {o dv xd qd pd bs rs u v w : Nat} (f : Fr G M N X) (h : ReR M o dv xd qd pd bs rs u v w) : ReR N o dv xd qd pd bs rs u v w := by
  have r := f.2.1
  obtain ⟨e0, e1, e2, e3, e4, e5, e6, e7, e8⟩ := h
  exact ⟨by rw [r]; exact e0, by rw [r]; exact e1, by rw [r]; exact e2, by rw [r]; exact e3, by rw [r]; exact e4, by rw [r]; exact e5, by rw [r]; exact e6, by rw [r]; exact e7, by rw [r]; exact e8⟩
theorem s_timesInto {G : SH} {M : MS} {o dv xd qd pd to b n vt vb vn c rm : Nat} {st sb : Bool} (hO : Ok G M) (e0 : mR M o 0 = dv) (e1 : mR M dv 0 = xd) (e2 : mR M o 1 = qd) (e3 : mR M o 2 = pd) (hx : Is G 8 xd) (hq : Is G 8 qd) (hp : Is G 8 pd) (ht : Is G 8 to) (hb : Is G 8 b) (hn : Is G 8 n) (hnd : NDL [xd, qd, pd, to, n]) (hbp : b ≠ pd) (wt : Wh G M to vt st) (wb : Wh G M b vb sb) (wn : Wh G M n vn false) (hvn : 0 < vn) (r0 : rmw G M xd = rm) (r1 : rmw G M qd = rm) (r2 : rmw G M pd = rm) (r3 : rmw G M to = rm) (ct : nl BB vt ≤ c) (cb : nl BB vb ≤ c) (cn : nl BB vn ≤ c) (hc : 2 * c < rm) {Q : MS → Prop}
    (hQ : ∀ N, Fr G M N [pd, qd, to, xd] → Wh G N to (vt * vb % vn) false → Q N) : w_X5_timesInto G o to b n M Q := by
  unfold w_X5_timesInto
  have ne := fun (i j : Nat) {a b : Nat} (p : [xd, qd, pd, to, n][i]? = some a) (q : [xd, qd, pd, to, n][j]? = some b) (r : i ≠ j) => hnd.ne i j p q r
  rw [e3]
  refine s_product hO hp ht hb (ne 3 2 rfl rfl (by decide)) hbp wt wb (by omega) (fun N f1 w1 => ?_)
  have hO1 := f1.ok hO
  have r := f1.2.1
  rw [r, e0, r, e2, r, e3]
  have wn1 := f1.wh hO hn (ni1 (ne 4 2 rfl rfl (by decide))) wn
  have hall : ∀ y ∈ [pd, qd, to, xd], Is G 8 y := fun y hy => by
    rcases List.mem_cons.mp hy with rfl | hy
    · exact hp
    · exact all3 hq ht hx y hy
  have cp : nl BB (vt * vb) ≤ 2 * c := by
    rw [nl_le BB1]
    have a1 := (nl_le BB1 c vt).mp ct
    have a2 := (nl_le BB1 c vb).mp cb
    rw [show 2 * c = c + c by omega, Nat.pow_add]
    exact Nat.mul_lt_mul'' a1 a2
  refine s_split hO1 hq ht hx hp hn ((r dv 0).trans e1) (ne 1 3 rfl rfl (by decide)) (ne 0 1 rfl rfl (by decide)) (ne 0 3 rfl rfl (by decide)) (ne 0 2 rfl rfl (by decide)) (ne 0 4 rfl rfl (by decide)) (ne 2 1 rfl rfl (by decide)) (ne 2 3 rfl rfl (by decide)) (ne 4 1 rfl rfl (by decide)) (ne 4 3 rfl rfl (by decide)) w1 wn1 hvn (by rw [f1.room]; omega) (by rw [f1.room]; omega) (by rw [f1.room]; omega) (fun P f2 _ w2 => hQ P ((f1.mono hall (by simp)).tr1 (f2.mono hall (by simp))) w2)
theorem pow_bit {b e n k : Nat} : b ^ (e / 2 ^ k) % n = (if e / 2 ^ k % 2 = 1 then (b ^ (e / 2 ^ (k + 1)) % n * (b ^ (e / 2 ^ (k + 1)) % n) % n) * b % n else b ^ (e / 2 ^ (k + 1)) % n * (b ^ (e / 2 ^ (k + 1)) % n) % n) := by
  have h : e / 2 ^ (k + 1) = e / 2 ^ k / 2 := by rw [Nat.pow_succ, Nat.div_div_eq_div_mul]
  rw [h]
  generalize e / 2 ^ k = f
  have hf := Nat.div_add_mod f 2
  by_cases c : f % 2 = 1
  · rw [if_pos c]
    have : f = f / 2 + f / 2 + 1 := by omega
    conv => lhs; rw [this]
    rw [Nat.pow_succ, Nat.pow_add, Nat.mul_mod, Nat.mul_mod (b ^ (f / 2)), Nat.mod_mul_mod]
    generalize b ^ (f / 2) % n * (b ^ (f / 2) % n) = Y
    rw [Nat.mul_mod Y (b % n) n, Nat.mod_mod, Nat.mul_mod (Y % n) b n, Nat.mod_mod]
  · rw [if_neg c]
    have : f = f / 2 + f / 2 := by omega
    conv => lhs; rw [this]
    rw [Nat.pow_add, Nat.mul_mod]
theorem s_raise_loop {G : SH} {M0 : MS} {o dv xd qd pd bs rs u v w e n ve vn b c rm : Nat} {se : Bool} {X : List Nat} (hX : ∀ y ∈ X, Is G 8 y) (hO0 : Ok G M0) (hR0 : ReR M0 o dv xd qd pd bs rs u v w) (hmem : ∀ y ∈ [xd, qd, pd, bs, rs, u, v, w], y ∈ X) (hnd : NDL [xd, qd, pd, bs, rs, u, v, w]) (hroom : ∀ y ∈ X, rmw G M0 y = rm) (he : Is G 8 e) (hn : Is G 8 n) (heX : e ∉ X) (hnX : n ∉ X) (we0 : Wh G M0 e ve se) (wn0 : Wh G M0 n vn false) (wb0 : Wh G M0 bs b false) (hvn : 0 < vn) (cb : nl BB b ≤ c) (cn : nl BB vn ≤ c) (hc : 2 * c < rm) {Q : Nat → MS → Prop}
    (hQ : ∀ N, Fr G M0 N [pd, qd, rs, xd] → Wh G N rs (b ^ ve % vn) false → Q rs N) :
    ∀ (m k : Nat) (M : MS), k < m → k < 1000000 → Fr G M0 M [pd, qd, rs, xd] → Wh G M rs (b ^ (ve / 2 ^ k) % vn) false → w_X5_raise_57 G Q m o e n (nI k - 1) M
  | 0, k, M, hm, _, _, _ => absurd hm (Nat.not_lt_zero _)
  | m + 1, 0, M, _, _, f1, w1 => by
    rw [w_X5_raise_57]
    refine ⟨fun _ => ?_, fun h => absurd (by decide) h⟩
    rw [(f1.rer hR0).2.2.2.2.2.1]
    rw [Nat.pow_zero, Nat.div_one] at w1
    exact hQ M f1 w1
  | m + 1, k + 1, M, hm, hk, f1, w1 => by
    have I : ∀ (k y : Nat), [xd, qd, pd, bs, rs, u, v, w][k]? = some y → y ∈ X := fun k y h => hmem y (List.mem_of_getElem? h)
    have hO := f1.ok hO0
    have hR := f1.rer hR0
    have i0 := I 0 xd rfl
    have i1 := I 1 qd rfl
    have i2 := I 2 pd rfl
    have i3 := I 3 bs rfl
    have i4 := I 4 rs rfl
    have nX : ∀ {y : Nat}, y ∉ X → y ∉ [pd, qd, rs, xd] := fun {y} h z => by
      rcases List.mem_cons.mp z with q | z
      · exact h (by rw [q]; exact i2)
      · exact h (all3 i1 i4 i0 y z)
    have wn := f1.wh hO0 hn (nX hnX) wn0
    have we := f1.wh hO0 he (nX heX) we0
    have nd5' : NDL [xd, qd, pd, rs, n] := by
      have hn0 : NDL [xd, qd, pd, rs] := hnd.sub [0, 1, 2, 4] (by decide) rfl
      intro i j a hi hj
      match i, j, hi, hj with
      | 0, 0, _, _ => rfl
      | 1, 1, _, _ => rfl
      | 2, 2, _, _ => rfl
      | 3, 3, _, _ => rfl
      | 4, 4, _, _ => rfl
      | 0, 1, hi, hj => exact hn0 0 1 a hi hj
      | 0, 2, hi, hj => exact hn0 0 2 a hi hj
      | 0, 3, hi, hj => exact hn0 0 3 a hi hj
      | 1, 0, hi, hj => exact hn0 1 0 a hi hj
      | 1, 2, hi, hj => exact hn0 1 2 a hi hj
      | 1, 3, hi, hj => exact hn0 1 3 a hi hj
      | 2, 0, hi, hj => exact hn0 2 0 a hi hj
      | 2, 1, hi, hj => exact hn0 2 1 a hi hj
      | 2, 3, hi, hj => exact hn0 2 3 a hi hj
      | 3, 0, hi, hj => exact hn0 3 0 a hi hj
      | 3, 1, hi, hj => exact hn0 3 1 a hi hj
      | 3, 2, hi, hj => exact hn0 3 2 a hi hj
      | 4, 0, hi, hj => exact absurd (by cases hi; cases hj; exact i0) hnX
      | 4, 1, hi, hj => exact absurd (by cases hi; cases hj; exact i1) hnX
      | 4, 2, hi, hj => exact absurd (by cases hi; cases hj; exact i2) hnX
      | 4, 3, hi, hj => exact absurd (by cases hi; cases hj; exact i4) hnX
      | 0, 4, hi, hj => exact absurd (by cases hi; cases hj; exact i0) hnX
      | 1, 4, hi, hj => exact absurd (by cases hi; cases hj; exact i1) hnX
      | 2, 4, hi, hj => exact absurd (by cases hi; cases hj; exact i2) hnX
      | 3, 4, hi, hj => exact absurd (by cases hi; cases hj; exact i4) hnX
      | i + 5, _, hi, _ => simp at hi
      | _, j + 5, _, hj => simp at hj
    have cr : ∀ z, nl BB (z % vn) ≤ c := fun z => Nat.le_trans (nl_mono BB1 (Nat.le_of_lt (Nat.mod_lt z hvn))) cn
    have R := fun y hy => (f1.room y).trans (hroom y hy)
    rw [nI_pred, w_X5_raise_57, hR.2.2.2.2.2.1]
    refine ⟨fun h => absurd h (nI_lt0 (by omega)), fun _ => ?_⟩
    refine s_timesInto (c := c) (rm := rm) hO hR.1 hR.2.1 hR.2.2.1 hR.2.2.2.1 (hX xd i0) (hX qd i1) (hX pd i2) (hX rs i4) (hX rs i4) hn nd5' (hnd.ne 4 2 rfl rfl (by decide)) w1 w1 wn hvn (R xd i0) (R qd i1) (R pd i2) (R rs i4) (cr _) (cr _) cn hc (fun N g1 g2 => ?_)
    have hO1 := g1.ok hO
    have f2 := f1.tr1 g1
    have we1 := g1.wh hO he (nX heX) we
    refine s_hasBit hO1 he we1 rfl (by omega) ?_
    have pb := pow_bit (b := b) (e := ve) (n := vn) (k := k)
    by_cases cbit : ve / 2 ^ k % 2 = 1
    · rw [if_pos cbit] at pb ⊢
      refine ⟨fun h => absurd h (by decide), fun _ => ?_⟩
      have hR1 := g1.rer hR
      have wn1 := g1.wh hO hn (nX hnX) wn
      have wb1 := f2.wh hO0 (hX bs i3) (fun z => by
        rcases List.mem_cons.mp z with q | z
        · exact hnd.ne 3 2 rfl rfl (by decide) q
        · exact ni3 (hnd.ne 3 1 rfl rfl (by decide)) (hnd.ne 3 4 rfl rfl (by decide)) (hnd.ne 3 0 rfl rfl (by decide)) z) wb0
      rw [hR1.2.2.2.2.2.1, hR1.2.2.2.2.1]
      refine s_timesInto (c := c) (rm := rm) hO1 hR1.1 hR1.2.1 hR1.2.2.1 hR1.2.2.2.1 (hX xd i0) (hX qd i1) (hX pd i2) (hX rs i4) (hX bs i3) hn nd5' (hnd.ne 3 2 rfl rfl (by decide)) g2 wb1 wn1 hvn ((g1.room xd).trans (R xd i0)) ((g1.room qd).trans (R qd i1)) ((g1.room pd).trans (R pd i2)) ((g1.room rs).trans (R rs i4)) (cr _) cb cn hc (fun P h1 h2 => ?_)
      intro x4 ex4
      rw [ex4, show nI k + -1 = nI k - 1 from (Int32.sub_eq_add_neg ..).symm]
      exact s_raise_loop hX hO0 hR0 hmem hnd hroom he hn heX hnX we0 wn0 wb0 hvn cb cn hc hQ m k P (by omega) (by omega) (f2.tr1 h1) (by rw [pb]; exact h2)
    · rw [if_neg cbit] at pb ⊢
      refine ⟨fun _ => ?_, fun h => absurd rfl h⟩
      intro x4 ex4
      rw [ex4, show nI k + -1 = nI k - 1 from (Int32.sub_eq_add_neg ..).symm]
      exact s_raise_loop hX hO0 hR0 hmem hnd hroom he hn heX hnX we0 wn0 wb0 hvn cb cn hc hQ m k N (by omega) (by omega) f2 (by rw [pb]; exact g2)
theorem ndl4 {a b c d : Nat} (h1 : a ≠ b) (h2 : a ≠ c) (h3 : a ≠ d) (h4 : b ≠ c) (h5 : b ≠ d) (h6 : c ≠ d) : NDL [a, b, c, d] := by
  intro i j x hi hj
  match i, j, hi, hj with
  | 0, 0, _, _ => rfl
  | 1, 1, _, _ => rfl
  | 2, 2, _, _ => rfl
  | 3, 3, _, _ => rfl
  | 0, 1, hi, hj => cases hi; cases hj; exact absurd rfl h1
  | 0, 2, hi, hj => cases hi; cases hj; exact absurd rfl h2
  | 0, 3, hi, hj => cases hi; cases hj; exact absurd rfl h3
  | 1, 2, hi, hj => cases hi; cases hj; exact absurd rfl h4
  | 1, 3, hi, hj => cases hi; cases hj; exact absurd rfl h5
  | 2, 3, hi, hj => cases hi; cases hj; exact absurd rfl h6
  | 1, 0, hi, hj => cases hi; cases hj; exact absurd rfl h1
  | 2, 0, hi, hj => cases hi; cases hj; exact absurd rfl h2
  | 3, 0, hi, hj => cases hi; cases hj; exact absurd rfl h3
  | 2, 1, hi, hj => cases hi; cases hj; exact absurd rfl h4
  | 3, 1, hi, hj => cases hi; cases hj; exact absurd rfl h5
  | 3, 2, hi, hj => cases hi; cases hj; exact absurd rfl h6
  | i + 4, _, hi, _ => simp at hi
  | _, j + 4, _, hj => simp at hj
theorem out_ne {X : List Nat} {a b : Nat} (h : a ∉ X) (hb : b ∈ X) : a ≠ b := fun e => h (by rw [e]; exact hb)
theorem s_raise {G : SH} {M : MS} {o dv xd qd pd bs rs u v w a e n va ve vn c rm : Nat} {sa se : Bool} {X : List Nat} (hX : ∀ y ∈ X, Is G 8 y) (hO : Ok G M) (hR : ReR M o dv xd qd pd bs rs u v w) (hmem : ∀ y ∈ [xd, qd, pd, bs, rs, u, v, w], y ∈ X) (hnd : NDL [xd, qd, pd, bs, rs, u, v, w]) (hroom : ∀ y ∈ X, rmw G M y = rm) (ha : Is G 8 a) (he : Is G 8 e) (hn : Is G 8 n) (haX : a ∉ X) (heX : e ∉ X) (hnX : n ∉ X) (wa : Wh G M a va sa) (we : Wh G M e ve se) (wn : Wh G M n vn false) (hvn : 0 < vn) (ca : nl BB va ≤ c) (ce : nl BB ve ≤ c) (cn : nl BB vn ≤ c) (hc1 : 1 ≤ c) (hc : 2 * c < rm) (hrm : rm ≤ 100) {Q : Nat → MS → Prop}
    (hQ : ∀ N, Fr G M N X → Wh G N rs (modN va sa vn ^ ve % vn) false → Q rs N) : w_X5_raise G o a e n M Q := by
  unfold w_X5_raise
  have I : ∀ (k y : Nat), [xd, qd, pd, bs, rs, u, v, w][k]? = some y → y ∈ X := fun k y h => hmem y (List.mem_of_getElem? h)
  have ne := fun (i j : Nat) {a b : Nat} (p : [xd, qd, pd, bs, rs, u, v, w][i]? = some a) (q : [xd, qd, pd, bs, rs, u, v, w][j]? = some b) (r : i ≠ j) => hnd.ne i j p q r
  have i0 := I 0 xd rfl
  have i1 := I 1 qd rfl
  have i2 := I 2 pd rfl
  have i3 := I 3 bs rfl
  have i4 := I 4 rs rfl
  rw [hR.2.2.2.2.1]
  refine s_reduce (rm := rm) hO hR.1 hR.2.1 hR.2.2.1 (hX xd i0) (hX qd i1) (hX bs i3) ha hn (ndl4 (ne 0 1 rfl rfl (by decide)) (ne 0 3 rfl rfl (by decide)) (out_ne hnX i0).symm (ne 1 3 rfl rfl (by decide)) (out_ne hnX i1).symm (out_ne hnX i3).symm) (out_ne haX i0) (out_ne haX i1) (out_ne haX i3) wa wn hvn (hroom qd i1) (hroom bs i3) (hroom xd i0) (by omega) (by omega) (fun M2 f2 w2 => ?_)
  have g2 : Fr G M M2 X := f2.mono hX (all3 i1 i3 i0)
  have hO2 := g2.ok hO
  have hR2 := f2.rer hR
  rw [hR2.2.2.2.1]
  refine s_become hO2 (hX pd i2) (fun M4 f4 w4 => ?_)
  have g4 : Fr G M M4 X := g2.tr1 (f4.mono hX (all1 i2))
  have hO4 := g4.ok hO
  have hR4 := f4.rer hR2
  have u1 : u32 (1 : Int32) = 1 := rfl
  rw [u1] at w4
  rw [hR4.2.2.2.2.2.1, hR4.2.2.2.1]
  have wn4 := g4.wh hO hn hnX wn
  have R4 := fun y hy => (g4.room y).trans (hroom y hy)
  have n1 : nl BB 1 ≤ 1 := (nl_le BB1 1 1).mpr (by decide)
  refine s_reduce (rm := rm) hO4 hR4.1 hR4.2.1 hR4.2.2.1 (hX xd i0) (hX qd i1) (hX rs i4) (hX pd i2) hn (ndl4 (ne 0 1 rfl rfl (by decide)) (ne 0 4 rfl rfl (by decide)) (out_ne hnX i0).symm (ne 1 4 rfl rfl (by decide)) (out_ne hnX i1).symm (out_ne hnX i4).symm) (ne 2 0 rfl rfl (by decide)) (ne 2 1 rfl rfl (by decide)) (ne 2 4 rfl rfl (by decide)) w4 wn4 hvn (R4 qd i1) (R4 rs i4) (R4 xd i0) (by omega) (by omega) (fun M7 f7 w7 => ?_)
  have g7 : Fr G M M7 X := g4.tr1 (f7.mono hX (all3 i1 i4 i0))
  have hO7 := g7.ok hO
  have hR7 := f7.rer hR4
  have we7 := g7.wh hO he heX we
  have wn7 := g7.wh hO hn hnX wn
  have R7 := fun y hy => (g7.room y).trans (hroom y hy)
  have wb4 := f4.wh hO2 (hX bs i3) (ni1 (ne 3 2 rfl rfl (by decide))) w2
  have wb7 := f7.wh hO4 (hX bs i3) (ni3 (ne 3 1 rfl rfl (by decide)) (ne 3 4 rfl rfl (by decide)) (ne 3 0 rfl rfl (by decide))) wb4
  have cbs : nl BB (modN va sa vn) ≤ c := Nat.le_trans (nl_mono BB1 (Nat.le_of_lt (modN_lt hvn))) cn
  have hbits := nl2_le ce
  have e7 := we7.1
  have he2 := hO7.1 e he
  have sub4 : ∀ {y}, y ∈ [pd, qd, rs, xd] → y ∈ X := fun {y} z => by
    rcases List.mem_cons.mp z with q | z
    · rw [q]; exact i2
    · exact all3 i1 i4 i0 y z
  rw [we7.2.1, nI_le0 (by omega), nl_v0]
  refine ⟨fun h => ?_, fun h => ?_⟩
  · refine s_bits hO7 he we7 ?_
    intro x4 ex4
    subst h
    rw [nl_0] at ex4
    refine ⟨1, ?_⟩
    rw [w_X5_raise_57, ex4]
    refine ⟨fun _ => ?_, fun h => absurd (by decide) h⟩
    rw [hR7.2.2.2.2.2.1]
    refine hQ M7 g7 ?_
    rw [Nat.pow_zero]
    unfold modN at w7
    rw [if_neg (by simp)] at w7
    exact w7
  · rw [hR7.2.2.2.2.2.1, hR7.2.2.2.2.1]
    refine s_copy hO7 (hX rs i4) (hX bs i3) wb7 (by rw [R7 rs i4]; omega) (fun M22 f22 w22 => ?_)
    have g22 : Fr G M M22 X := g7.tr1 (f22.mono hX (all1 i4))
    have hO22 := g22.ok hO
    have hR22 := f22.rer hR7
    have we22 := g22.wh hO he heX we
    have wn22 := g22.wh hO hn hnX wn
    have wb22 := f22.wh hO7 (hX bs i3) (ni1 (ne 3 4 rfl rfl (by decide))) wb7
    refine s_bits hO22 he we22 ?_
    intro x4 ex4
    have hb0 : 0 < nl 2 ve := (nl_lt_iff (by decide) 0 ve).mpr (by rw [Nat.pow_zero]; omega)
    have ex4' : x4 = nI (nl 2 ve - 1) - 1 := by
      rw [ex4]
      obtain ⟨k, hk⟩ : ∃ k, nl 2 ve = k + 1 := ⟨nl 2 ve - 1, by omega⟩
      rw [hk, Nat.add_sub_cancel, ← nI_pred k]
      generalize nI (k + 1) = z
      rw [show (2 : Int32) = 1 + 1 from rfl, Int32.sub_sub]
    refine ⟨nl 2 ve, ?_⟩
    rw [ex4']
    refine s_raise_loop (M0 := M22) (c := c) (rm := rm) hX hO22 hR22 hmem hnd (fun y hy => (g22.room y).trans (hroom y hy)) he hn heX hnX we22 wn22 wb22 hvn cbs cn hc (fun N h1 h2 => hQ N (g22.tr1 (h1.mono hX (fun y hy => sub4 hy))) h2) (nl 2 ve) (nl 2 ve - 1) M22 (by omega) (by omega) (Fr.rf (fun y hy => hX y (sub4 hy))) ?_
    have h1 := (nl_lt_iff (B := 2) (by decide) (nl 2 ve - 1) ve).mp (by omega)
    have h2 := (nl_le (B := 2) (by decide) (nl 2 ve) ve).mp (Nat.le_refl _)
    have h3 : ve / 2 ^ (nl 2 ve - 1) = 1 := by
      have hp : 0 < 2 ^ (nl 2 ve - 1) := Nat.pow_pos (by decide)
      have h4 : 2 ^ nl 2 ve = 2 ^ (nl 2 ve - 1) * 2 := by rw [← Nat.pow_succ]; congr 1; omega
      rw [Nat.div_eq_iff hp]
      omega
    rw [h3, Nat.pow_one, Nat.mod_eq_of_lt (modN_lt hvn)]
    exact w22
