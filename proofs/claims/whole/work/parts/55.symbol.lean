/-! Jacobi's symbol, as both walk it -/
def JS (u v : Nat) (s : Int32) : Int32 :=
  if h : u = 0 then (if v = 1 then s else 0)
  else
    JS (v % (u / 2 ^ tz u)) (u / 2 ^ tz u) (if u / 2 ^ tz u % 4 = 3 ∧ v % 4 = 3 then -(if tz u % 2 = 1 ∧ (v % 8 = 3 ∨ v % 8 = 5) then -s else s) else (if tz u % 2 = 1 ∧ (v % 8 = 3 ∨ v % 8 = 5) then -s else s))
  termination_by u
  decreasing_by
    have h1 : 0 < u / 2 ^ tz u := by
      rcases Nat.eq_zero_or_pos (u / 2 ^ tz u) with z | z
      · have := (tz_div (v := u) (by omega)).2
        rw [z] at this
        omega
      · exact z
    have h2 := Nat.mod_lt v h1
    have h3 : u / 2 ^ tz u ≤ u := Nat.div_le_self _ _
    omega
theorem JS_0 (v : Nat) (s : Int32) : JS 0 v s = if v = 1 then s else 0 := by rw [JS]; simp
theorem JS_s {u : Nat} (h : u ≠ 0) (v : Nat) (s : Int32) : JS u v s = JS (v % (u / 2 ^ tz u)) (u / 2 ^ tz u) (if u / 2 ^ tz u % 4 = 3 ∧ v % 4 = 3 then -(if tz u % 2 = 1 ∧ (v % 8 = 3 ∨ v % 8 = 5) then -s else s) else (if tz u % 2 = 1 ∧ (v % 8 = 3 ∨ v % 8 = 5) then -s else s)) := by rw [JS, dif_neg h]
theorem lim0_mod (v : Nat) : lim v 0 = v % 4294967296 := by
  unfold lim
  rw [Nat.pow_zero, Nat.div_one]
theorem and3 {n : Nat} (h : n < 18446744073709551616) : lN n &&& 3 = lN (n % 4) := wb_mask (k := 2) h (by decide)
theorem and7 {n : Nat} (h : n < 18446744073709551616) : lN n &&& 7 = lN (n % 8) := wb_mask (k := 3) h (by decide)
theorem EM_mono {u u' v : Nat} (h : u' ≤ u) : EM v u' ≤ EM v u := by
  unfold EM
  have := nl_mono (B := 2) (by decide) h
  by_cases c : v < u'
  · rw [if_pos c, if_pos (by omega)]; omega
  · rw [if_neg c]
    by_cases d : v < u
    · rw [if_pos d]; omega
    · rw [if_neg d]; omega
theorem s_sym_loop {G : SH} {M0 : MS} {o dv xd qd pd bs rs c rm : Nat} {X : List Nat} (hX : ∀ y ∈ X, Is G 8 y) (hO0 : Ok G M0) (ho : G.2.1 o ≠ 8) (hdo : dv ≠ o) (hroom : ∀ y ∈ X, rmw G M0 y = rm) (hc : c < rm) (hrm : rm ≤ 100) {T : Int32} {Q : Int32 → MS → Prop}
    (hQ : ∀ N u v w, Fs G M0 N X [o] → ReR N o dv xd qd pd bs rs u v w → (∀ y ∈ [xd, qd, pd, bs, rs, u, v, w], y ∈ X) → NDL [xd, qd, pd, bs, rs, u, v, w] → Q T N) :
    ∀ (n : Nat) (M : MS) (u v w pu pv t : Nat) (s : Int32) (sv : Bool), Fs G M0 M X [o] → ReR M o dv xd qd pd bs rs u v w → (∀ y ∈ [xd, qd, pd, bs, rs, u, v, w], y ∈ X) → NDL [xd, qd, pd, bs, rs, u, v, w] → Wh G M u pu false → Wh G M v pv sv → nl BB pu ≤ c → nl BB pv ≤ c → JS pu pv s = T → EM pv pu < n → t + EM pv pu ≤ 10000 → w_X5_symbol_23 G Q n o s (nI t) M
  | 0, M, u, v, w, pu, pv, t, s, sv, _, _, _, _, _, _, _, _, _, hn, _ => absurd hn (Nat.not_lt_zero _)
  | n + 1, M, u, v, w, pu, pv, t, s, sv, f1, hR, hmem, hnd, wu, wv, cu, cv, hT, hn, ht => by
    have hO := f1.ok hO0
    have I : ∀ (k y : Nat), [xd, qd, pd, bs, rs, u, v, w][k]? = some y → y ∈ X := fun k y h => hmem y (List.mem_of_getElem? h)
    have ne := fun (i j : Nat) {a b : Nat} (p : [xd, qd, pd, bs, rs, u, v, w][i]? = some a) (q : [xd, qd, pd, bs, rs, u, v, w][j]? = some b) (r : i ≠ j) => hnd.ne i j p q r
    have i0 := I 0 xd rfl
    have i1 := I 1 qd rfl
    have i5 := I 5 u rfl
    have i6 := I 6 v rfl
    have i7 := I 7 w rfl
    have R := fun y hy => (f1.room (hX y hy)).trans (hroom y hy)
    have Ru := R u i5
    have Rw := R w i7
    have Rq := R qd i1
    have Rx := R xd i0
    rw [w_X5_symbol_23, hR.2.2.2.2.2.2.1, wu.2.1, nI_le0 (by omega), nl_v0, show (1000000 : Int32) = nI 1000000 from rfl, nI_leI (by decide) (by omega)]
    refine ⟨fun h => absurd h (by omega), fun _ => ⟨fun h => ?_, fun h => ?_⟩⟩
    · unfold w_X5_symbol_197
      rw [hR.2.2.2.2.2.2.2.1]
      refine s_bits hO (hX v i6) wv ?_
      have hb := nl2_le cv
      rw [show (1 : Int32) = nI 1 from rfl, nI_eq (by omega) (by decide)]
      subst h
      rw [JS_0] at hT
      have hv1 : nl 2 pv = 1 ↔ pv = 1 := by
        constructor
        · intro z
          have a1 := (nl_le (B := 2) (by decide) 1 pv).mp (by omega)
          have a2 := (nl_lt_iff (B := 2) (by decide) 0 pv).mp (by omega)
          rw [Nat.pow_zero] at a2
          omega
        · intro z
          rw [z]
          exact nl2_small (by decide) (by decide)
      rw [hv1]
      refine ⟨fun z => ?_, fun z => ?_⟩
      · rw [if_neg z] at hT
        rw [hT]
        exact hQ M u v w f1 hR hmem hnd
      · rw [if_pos z] at hT
        rw [hT]
        exact hQ M u v w f1 hR hmem hnd
    · have hpu : 0 < pu := by omega
      have td := tz_div hpu
      have htz := tz_lt cu
      refine s_lowZeros hO (hX u i5) wu ?_
      rw [hR.2.2.2.2.2.2.1]
      refine s_shiftDown hO (hX u i5) (hX u i5) wu rfl (by omega) (by omega) (fun M12 f12 w12 => ?_)
      have hO12 := f12.ok hO
      have hR12 := f12.rer hR
      have wv12 := f12.wh hO (hX v i6) (ni1 (ne 6 5 rfl rfl (by decide))) wv
      rw [hR12.2.2.2.2.2.2.2.1]
      refine s_limb hO12 (hX v i6) wv12 nI_0.symm (by decide) ?_
      intro x6 ex6
      have l0 := lim_l pv 0
      rw [and7 (by omega), lim0_mod, show pv % 4294967296 % 8 = pv % 8 by omega] at ex6
      rw [show nI (tz pu) &&& (1 : Int32) = nI (tz pu % 2) from pk_andN (by omega) 1 rfl, show (1 : Int32) = nI 1 from rfl, nI_eq (by omega) (by decide)]
      rw [JS_s (by omega)] at hT
      have hdl : pu / 2 ^ tz pu ≤ pu := Nat.div_le_self _ _
      generalize hd : pu / 2 ^ tz pu = d at td hT hdl w12
      have hdp : 0 < d := by omega
      have cd : nl BB d ≤ c := Nat.le_trans (nl_mono BB1 hdl) cu
      have hEM : EM d (pv % d) < EM pv pu := Nat.lt_of_lt_of_le (EM_lt (u := pv) hdp) (EM_mono hdl)
      -- the end of a turn
      have e140 : ∀ s2 : Int32, JS (pv % d) d s2 = T → w_X5_symbol_140 G (w_X5_symbol_23 G Q n) Q o s2 (nI t) M12 := by
        intro s2 hs2
        unfold w_X5_symbol_140
        rw [hR12.1, hR12.2.2.1, hR12.2.2.2.2.2.2.2.2, hR12.2.2.2.2.2.2.2.1, hR12.2.2.2.2.2.2.1]
        refine s_split hO12 (hX qd i1) (hX w i7) (hX xd i0) (hX v i6) (hX u i5) hR12.2.1 (ne 1 7 rfl rfl (by decide)) (ne 0 1 rfl rfl (by decide)) (ne 0 7 rfl rfl (by decide)) (ne 0 6 rfl rfl (by decide)) (ne 0 5 rfl rfl (by decide)) (ne 6 1 rfl rfl (by decide)) (ne 6 7 rfl rfl (by decide)) (ne 5 1 rfl rfl (by decide)) (ne 5 7 rfl rfl (by decide)) wv12 w12 hdp (by rw [f12.room]; omega) (by rw [f12.room]; omega) (by rw [f12.room]; omega) (fun M23 f23 _ w23 => ?_)
        intro M26 e26 M28 e28 M29 e29 x4 ex4
        have hO23 := f23.ok hO12
        have hR23 := f23.rer hR12
        have wu23 := f23.wh hO12 (hX u i5) (ni3 (ne 5 1 rfl rfl (by decide)) (ne 5 7 rfl rfl (by decide)) (ne 5 0 rfl rfl (by decide))) w12
        obtain ⟨k0, k1, k2, k3, k4, k5, k6, k7, k8⟩ := id hR23
        rw [k6] at e26
        rw [e26, mR_wR_k M23 _ (by decide), k8] at e28
        rw [k7] at e29
        have g1 : Fs G M23 M29 [] [o] := by
          rw [e29, e28]
          exact ((Fs.wR ho _ _).tr (Fs.wR ho _ _)).tr (Fs.wR ho _ _)
        have hR29 : ReR M29 o dv xd qd pd bs rs w u v := by
          refine ⟨?_, ?_, ?_, ?_, ?_, ?_, ?_, ?_, ?_⟩
          · rw [e29, e28, mR_wR_k _ _ (by decide), mR_wR_k _ _ (by decide), mR_wR_k _ _ (by decide)]; exact k0
          · rw [g1.2.2.1 dv 0 (ni1 hdo)]; exact k1
          · rw [e29, e28, mR_wR_k _ _ (by decide), mR_wR_k _ _ (by decide), mR_wR_k _ _ (by decide)]; exact k2
          · rw [e29, e28, mR_wR_k _ _ (by decide), mR_wR_k _ _ (by decide), mR_wR_k _ _ (by decide)]; exact k3
          · rw [e29, e28, mR_wR_k _ _ (by decide), mR_wR_k _ _ (by decide), mR_wR_k _ _ (by decide)]; exact k4
          · rw [e29, e28, mR_wR_k _ _ (by decide), mR_wR_k _ _ (by decide), mR_wR_k _ _ (by decide)]; exact k5
          · rw [e29, e28, mR_wR_k _ _ (by decide), mR_wR_s]
          · rw [e29, e28, mR_wR_k _ _ (by decide), mR_wR_k _ _ (by decide), mR_wR_s]
          · rw [e29, mR_wR_s]
        have FF : Fs G M0 M29 X [o] := ((f1.tr (f12.fs hX (all1 ho) (all1 i5))).tr (f23.fs hX (all1 ho) (all3 i1 i7 i0))).tr (g1.mono hX (all1 ho) (by simp) (by simp))
        rw [ex4, nI_1]
        exact s_sym_loop hX hO0 ho hdo hroom hc hrm hQ n M29 w u v (pv % d) d (t + 1) s2 false FF hR29 (NDL.mem hmem [0, 1, 2, 3, 4, 7, 5, 6] rfl) (hnd.sub [0, 1, 2, 3, 4, 7, 5, 6] (by decide) rfl) (g1.wh hO23 (hX w i7) (by simp) w23) (g1.wh hO23 (hX u i5) (by simp) wu23) (Nat.le_trans (nl_mono BB1 (Nat.mod_le _ _)) cv) cd hs2 (by omega) (by omega)
      have e105 : ∀ s1 : Int32, JS (pv % d) d (if d % 4 = 3 ∧ pv % 4 = 3 then -s1 else s1) = T → w_X5_symbol_105 G (w_X5_symbol_23 G Q n) Q o s1 (nI t) x6 M12 := by
        intro s1 hs1
        unfold w_X5_symbol_105
        rw [hR12.2.2.2.2.2.2.1]
        refine s_limb hO12 (hX u i5) w12 nI_0.symm (by decide) ?_
        have l1 := lim_l d 0
        rw [and3 (by omega), lim0_mod, show d % 4294967296 % 4 = d % 4 by omega, ex6, and3 (by omega), show pv % 8 % 4 = pv % 4 by omega, show (3 : Int64) = lN 3 from rfl, pk_lEQ (by omega) (by decide), pk_lEQ (by omega) (by decide)]
        refine ⟨fun z => ?_, fun z => ⟨fun z2 => ?_, fun z2 x3 ex3 => ?_⟩⟩
        · rw [if_neg (fun q => z q.1)] at hs1
          exact e140 s1 hs1
        · rw [if_neg (fun q => z2 q.2)] at hs1
          exact e140 s1 hs1
        · rw [if_pos ⟨z, z2⟩] at hs1
          rw [ex3]
          exact e140 (-s1) hs1
      have e102 : JS (pv % d) d (if d % 4 = 3 ∧ pv % 4 = 3 then -(-s) else -s) = T → w_X5_symbol_102 G (w_X5_symbol_23 G Q n) Q o s (nI t) x6 M12 := by
        intro h1
        unfold w_X5_symbol_102
        intro x3 ex3
        rw [ex3]
        exact e105 (-s) h1
      rw [ex6, show (3 : Int64) = lN 3 from rfl, show (5 : Int64) = lN 5 from rfl, pk_lEQ (by omega) (by decide), pk_lEQ (by omega) (by decide), ← ex6]
      refine ⟨fun z => ?_, fun z => ⟨fun z2 => ?_, fun z2 => ⟨fun z3 => ?_, fun z3 => ?_⟩⟩⟩
      · rw [if_neg (c := tz pu % 2 = 1 ∧ _) (fun q => z q.1)] at hT
        exact e105 s hT
      · rw [if_pos (c := tz pu % 2 = 1 ∧ _) ⟨z, Or.inl z2⟩] at hT
        exact e102 hT
      · rw [if_neg (c := tz pu % 2 = 1 ∧ _) (fun q => q.2.elim z2 z3)] at hT
        exact e105 s hT
      · rw [if_pos (c := tz pu % 2 = 1 ∧ _) ⟨z, Or.inr z3⟩] at hT
        exact e102 hT
theorem s_symbol {G : SH} {M : MS} {o dv xd qd pd bs rs u v w a n va vn c rm : Nat} {sa : Bool} {X : List Nat} (hX : ∀ y ∈ X, Is G 8 y) (hO : Ok G M) (ho : G.2.1 o ≠ 8) (hdo : dv ≠ o) (hR : ReR M o dv xd qd pd bs rs u v w) (hmem : ∀ y ∈ [xd, qd, pd, bs, rs, u, v, w], y ∈ X) (hnd : NDL [xd, qd, pd, bs, rs, u, v, w]) (hroom : ∀ y ∈ X, rmw G M y = rm) (ha : Is G 8 a) (hn : Is G 8 n) (haX : a ∉ X) (hnX : n ∉ X) (wa : Wh G M a va sa) (wn : Wh G M n vn false) (hvn : 0 < vn) (ca : nl BB va ≤ c) (cn : nl BB vn ≤ c) (hc : c < rm) (hrm : rm ≤ 100) {Q : Int32 → MS → Prop}
    (hQ : ∀ N u v w, Fs G M N X [o] → ReR N o dv xd qd pd bs rs u v w → (∀ y ∈ [xd, qd, pd, bs, rs, u, v, w], y ∈ X) → NDL [xd, qd, pd, bs, rs, u, v, w] → Q (JS (modN va sa vn) vn 1) N) : w_X5_symbol G o a n M Q := by
  unfold w_X5_symbol
  have I : ∀ (k y : Nat), [xd, qd, pd, bs, rs, u, v, w][k]? = some y → y ∈ X := fun k y h => hmem y (List.mem_of_getElem? h)
  have ne := fun (i j : Nat) {a b : Nat} (p : [xd, qd, pd, bs, rs, u, v, w][i]? = some a) (q : [xd, qd, pd, bs, rs, u, v, w][j]? = some b) (r : i ≠ j) => hnd.ne i j p q r
  have i0 := I 0 xd rfl
  have i1 := I 1 qd rfl
  have i5 := I 5 u rfl
  have i6 := I 6 v rfl
  rw [hR.2.2.2.2.2.2.1]
  refine s_reduce (rm := rm) hO hR.1 hR.2.1 hR.2.2.1 (hX xd i0) (hX qd i1) (hX u i5) ha hn (ndl4 (ne 0 1 rfl rfl (by decide)) (ne 0 5 rfl rfl (by decide)) (out_ne hnX i0).symm (ne 1 5 rfl rfl (by decide)) (out_ne hnX i1).symm (out_ne hnX i5).symm) (out_ne haX i0) (out_ne haX i1) (out_ne haX i5) wa wn hvn (hroom qd i1) (hroom u i5) (hroom xd i0) (by omega) (by omega) (fun M2 f2 w2 => ?_)
  have hO2 := f2.ok hO
  have hR2 := f2.rer hR
  have wn2 := f2.wh hO hn (ni3 (out_ne hnX i1) (out_ne hnX i5) (out_ne hnX i0)) wn
  rw [hR2.2.2.2.2.2.2.2.1]
  refine s_copy hO2 (hX v i6) hn wn2 (by rw [f2.room, hroom v i6]; omega) (fun M4 f4 w4 => ?_)
  have hR4 := f4.rer hR2
  have wu4 := f4.wh hO2 (hX u i5) (ni1 (ne 5 6 rfl rfl (by decide))) w2
  have cu : nl BB (modN va sa vn) ≤ c := Nat.le_trans (nl_mono BB1 (Nat.le_of_lt (modN_lt hvn))) cn
  have hEM := EM_le (u := vn) (v := modN va sa vn) (n := c) cn cu
  refine ⟨EM vn (modN va sa vn) + 1, ?_⟩
  rw [← nI_0]
  exact s_sym_loop (M0 := M) (c := c) hX hO ho hdo hroom hc hrm hQ (EM vn (modN va sa vn) + 1) M4 u v w (modN va sa vn) vn 0 1 false ((f2.fs hX (all1 ho) (all3 i1 i5 i0)).tr (f4.fs hX (all1 ho) (all1 i6))) hR4 hmem hnd wu4 w4 cu cn rfl (by omega) (by omega)
