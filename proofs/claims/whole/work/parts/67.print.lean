/-! Out.print -/
def ODn (v : Nat) : Nat := if v = 0 then 1 else nl 10 v
/-- low first: the digits, and the sign behind them -/
def sd (v : Nat) (i : Nat) : Int32 := if i < ODn v then dg v i else 45
def OL (v : Nat) (b : Bool) : Nat := ODn v + (if b then 1 else 0)
/-- what write leaves: the octets of v with the sign b -/
def OT (v : Nat) (b : Bool) : Nat → Int32 := fun i => sd v (OL v b - 1 - i)
theorem ODn_pos (v : Nat) : 0 < ODn v := by
  unfold ODn
  by_cases c : v = 0
  · rw [if_pos c]; decide
  · rw [if_neg c]
    exact nl10.mpr (by rw [Nat.pow_zero, Nat.div_one]; omega)
theorem sd_b8 (v i : Nat) : (sd v i).toInt8.toInt32 = sd v i := by
  unfold sd
  by_cases c : i < ODn v
  · rw [if_pos c]; exact dg_b8 v i
  · rw [if_neg c]; decide
theorem Tp.cg {G : SH} {M : MS} {o q h L : Nat} {tb tc : Nat → Int32} (t : Tp G M o q tb h L) (e : ∀ i, i < h → tb i = tc i) : Tp G M o q tc h L := ⟨t.1, t.2.1, t.2.2.1, t.2.2.2.1, t.2.2.2.2.1, fun i hi => (t.2.2.2.2.2 i hi).trans (e i hi)⟩
theorem s_print_61 {G : SH} {M : MS} {o q a v L : Nat} {b : Bool} (ho : G.2.1 o ≠ 8) (wb : mI M a 2 = if b then 1 else 0) (hL : OL v b ≤ L) (t : Tp G M o q (dg v) (ODn v) L) {Q : MS → Prop}
    (hQ : ∀ N, Fg G M N [] [o] [q] → (∀ a k, mR N a k = mR M a k) → Tp G N o q (OT v b) (OL v b) L → Q N) : w_X4_print_61 G Q o a M := by
  unfold w_X4_print_61
  have hp := ODn_pos v
  have t0 : Tp G M o q (sd v) (ODn v) L := t.cg (fun i hi => by unfold sd; rw [if_pos hi])
  rw [wb]
  cases b
  · refine ⟨fun _ => ?_, fun z => absurd rfl z⟩
    exact s_turnRound ho t0 hp (fun i _ => sd_b8 v i) hQ
  · refine ⟨fun z => absurd z (by decide), fun _ => ?_⟩
    have hL2 : ODn v + 1 ≤ L := hL
    refine s_oappend t0 hL2 ho (by unfold sd; rw [if_neg (Nat.lt_irrefl _)]; decide) (fun N f1 r1 t1 => ?_)
    exact s_turnRound ho t1 (by omega) (fun i _ => sd_b8 v i) (fun P f2 r2 t2 => hQ P (f1.tr f2) (fun a k => (r2 a k).trans (r1 a k)) t2)
theorem s_print_48 {G : SH} {M : MS} {o q a v L : Nat} {b : Bool} (ho : G.2.1 o ≠ 8) (hao : a ≠ o) (wb : mI M a 2 = if b then 1 else 0) (hL : OL v b ≤ L) (t : Tp G M o q (dg v) (nl 10 v) L) {Q : MS → Prop}
    (hQ : ∀ N, Fg G M N [] [o] [q] → (∀ a k, mR N a k = mR M a k) → Tp G N o q (OT v b) (OL v b) L → Q N) : w_X4_print_48 G Q o a M := by
  unfold w_X4_print_48
  have hp := ODn_pos v
  obtain ⟨a1, a2, a3, a4, a5, a6⟩ := id t
  rw [a5, nI_eq0 (by omega)]
  refine ⟨fun z => ?_, fun z => ?_⟩
  · have hv : v ≠ 0 := fun e => z (by rw [e, nl_0])
    have e : ODn v = nl 10 v := by unfold ODn; rw [if_neg hv]
    rw [← e] at t
    exact s_print_61 ho wb hL t hQ
  · have hv : v = 0 := by
      rcases Nat.eq_zero_or_pos v with e | e
      · exact e
      · have := nl10.mpr (show 0 < v / 10 ^ 0 by rw [Nat.pow_zero, Nat.div_one]; exact e)
        omega
    subst hv
    have e : ODn 0 = 1 := rfl
    rw [nl_0] at t
    unfold OL at hL
    refine s_oappend t (by omega) ho (by decide) (fun N f1 r1 t1 => ?_)
    refine s_print_61 ho (by rw [f1.2.2.2.2.1 a 2 (by simp) (by simpa using hao)]; exact wb) hL t1 (fun P f2 r2 t2 => hQ P (f1.tr f2) (fun a k => (r2 a k).trans (r1 a k)) t2)
theorem s_print_loop {G : SH} {M0 : MS} {o q x a v L : Nat} {b : Bool} (hO0 : Ok G M0) (hx : Is G 8 x) (ha : Is G 8 a) (hax : a ≠ x) (ho : G.2.1 o ≠ 8) (hxq : mR M0 x 0 ≠ q) (haq : mR M0 a 0 ≠ q) (e2 : mR M0 o 2 = x) (wa : ∃ va, Wh G M0 a va b) (hL : OL v b ≤ L) {Q : MS → Prop}
    (hQ : ∀ N, Fg G M0 N [x] [o] [q] → (∀ a k, mR N a k = mR M0 a k) → Tp G N o q (OT v b) (OL v b) L → Q N) :
    ∀ (n : Nat) (M : MS) (k t : Nat) (sx : Bool), Fg G M0 M [x] [o] [q] → (∀ a k, mR M a k = mR M0 a k) → Wh G M x (v / 10 ^ k) sx → Tp G M o q (dg v) k L → k ≤ nl 10 v → t ≤ k → nl 10 v - k < n → w_X4_print_15 G Q n o a (nI t) M
  | 0, M, k, t, sx, _, _, _, _, _, _, hn => absurd hn (Nat.not_lt_zero _)
  | n + 1, M, k, t, sx, f1, r1, wx, tp, hk, ht, hn => by
    have hO := f1.ok hO0
    have hX1 : ∀ y ∈ [x], Is G 8 y := all1 hx
    obtain ⟨va, wa0⟩ := wa
    have wa1 := f1.wh hO0 ha (by simpa using hax) (by simpa using haq) wa0
    have hao : a ≠ o := fun e => ho (by rw [← e]; exact ha.2)
    have hr := hO.1 x hx
    have wx1 := wx.1
    have hp := ODn_pos v
    have hnl : nl 10 v ≤ L := by
      unfold OL ODn at hL
      by_cases c : v = 0
      · rw [c, nl_0]; omega
      · rw [if_neg c] at hL
        omega
    obtain ⟨a1, a2, a3, a4, a5, a6⟩ := id tp
    have ex : mR M o 2 = x := by rw [r1]; exact e2
    have fin : v / 10 ^ k = 0 → w_X4_print_48 G Q o a M := by
      intro z
      have : nl 10 v = k := by
        rcases Nat.lt_or_ge k (nl 10 v) with q | q
        · have := nl10.mp q
          omega
        · omega
      rw [← this] at tp
      refine s_print_48 ho hao wa1.2.2.2 hL tp (fun N g1 g2 g3 => hQ N (f1.tr ?_) (fun a k => (g2 a k).trans (r1 a k)) g3)
      exact ⟨hX1, all1 ho, g1.2.2.1, g1.2.2.2.1, fun a k _ h => g1.2.2.2.2.1 a k (by simp) h, fun q hq _ => g1.2.2.2.2.2 q hq (by simp)⟩
    rw [w_X4_print_15, a1, a2, ex, wx.2.1, nI_le0 (by omega), nl_v0, nI_leI (by omega) (by omega)]
    refine ⟨fun z => fin ?_, fun z => ⟨fin, fun z2 => ?_⟩⟩
    · rcases Nat.eq_zero_or_pos (v / 10 ^ k) with c | c
      · exact c
      · have := nl10.mpr c
        omega
    · refine s_takeChunk hO hx ex wx (fun N f2 w2 => ?_)
      have hO2 := f2.ok hO
      have fx : Fg G M N [x] [o] [q] := f2.fg hX1 (all1 ho) (by simp)
      have t2 : Tp G N o q (dg v) k L := ⟨by rw [f2.2.1]; exact a1, a2, a3, a4, by rw [f2.io ho]; exact a5, fun j hj => by rw [f2.2.2.2.2 q (all1 (fun e => by rw [r1] at e; exact hxq e.symm))]; exact a6 j hj⟩
      refine s_appendChunk (V0 := v) (k0 := k) hO2 hx ho (by rw [f2.2.1, r1]; exact hxq) w2 hnl (Nat.pos_of_ne_zero z2) (by rw [f2.2.1]; exact ex) t2 (by have := Nat.div_add_mod (v / 10 ^ k) 1000000000; omega) (Nat.mod_lt _ (by decide)) (fun P k' g1 g2 g3 g4 g5 g6 => ?_)
      intro x2 ex2
      rw [ex2, nI_1]
      have fy : Fg G N P [x] [o] [q] := ⟨hX1, all1 ho, g1.2.2.1, g1.2.2.2.1, fun a k _ h => g1.2.2.2.2.1 a k (by simp) h, fun q hq _ => g1.2.2.2.2.2 q hq (by simp)⟩
      have w3 := g1.wh hO2 hx (by simp) (by rw [f2.2.1, r1]; simpa using hxq) w2
      rw [← g4] at w3
      exact s_print_loop hO0 hx ha hax ho hxq haq e2 ⟨va, wa0⟩ hL hQ n P k' (t + 1) false ((f1.tr fx).tr fy) (fun a k => by rw [g2, f2.2.1]; exact r1 a k) w3 g3 g6 (by omega) (by omega)
theorem s_print {G : SH} {M : MS} {o q x a v L : Nat} {b : Bool} (hO : Ok G M) (hx : Is G 8 x) (ha : Is G 8 a) (hax : a ≠ x) (ho : G.2.1 o ≠ 8) (hxq : mR M x 0 ≠ q) (haq : mR M a 0 ≠ q) (e1 : mR M o 1 = q) (e2 : mR M o 2 = x) (hq : G.2.2.1 q = L) (hL1 : L ≤ 100000) (wa : Wh G M a v b) (hr : nl BB v ≤ rmw G M x) (hL : OL v b ≤ L) {Q : MS → Prop}
    (hQ : ∀ N, Fg G M N [x] [o] [q] → (∀ a k, mR N a k = mR M a k) → Tp G N o q (OT v b) (OL v b) L → Q N) : w_X4_print G o a M Q := by
  unfold w_X4_print
  intro M1 eM1
  have hX1 : ∀ y ∈ [x], Is G 8 y := all1 hx
  have f0 : Fg G M M1 [x] [o] [q] := by rw [eM1]; exact Fg.wI hX1 (all1 ho) (by simp) _ _
  have r0 : ∀ a k, mR M1 a k = mR M a k := fun a k => by rw [eM1, mR_wI]
  have hO1 := f0.ok hO
  have wa1 := f0.wh hO ha (by simpa using hax) (by simpa using haq) wa
  rw [r0, e2]
  refine s_copy hO1 hx ha wa1 (by rw [f0.room hx]; exact hr) (fun M3 f3 w3 => ?_)
  have fx : Fg G M1 M3 [x] [o] [q] := f3.fg hX1 (all1 ho) (by simp)
  have r3 : ∀ a k, mR M3 a k = mR M a k := fun a k => by rw [f3.2.1, r0]
  have tp : Tp G M3 o q (dg v) 0 L := ⟨by rw [r3]; exact e1, hq, hL1, Nat.zero_le _, by rw [f3.io ho, eM1, mI_wI_s]; rfl, fun i hi => absurd hi (Nat.not_lt_zero _)⟩
  refine ⟨nl 10 v + 1, ?_⟩
  rw [← nI_0]
  have w3' : Wh G M3 x (v / 10 ^ 0) b := by rw [Nat.pow_zero, Nat.div_one]; exact w3
  exact s_print_loop hO hx ha hax ho hxq haq e2 ⟨v, wa⟩ hL hQ (nl 10 v + 1) M3 0 0 b (f0.tr fx) r3 w3' tp (Nat.zero_le _) (Nat.le_refl _) (by omega)
