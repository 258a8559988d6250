theorem le_mul_of {s z B : Nat} (hs : 0 < s) (h : s * z ≤ B) : z ≤ B := Nat.le_trans (Nat.le_mul_of_pos_left z hs) h
theorem fac_inv {r s x z : Nat} : s * (x + r / s * z) + r % s * z = r * z + s * x := by
  have h := Nat.div_add_mod r s
  calc s * (x + r / s * z) + r % s * z = (s * (r / s) + r % s) * z + s * x := by grind
    _ = r * z + s * x := by rw [h]
theorem bI {b : Bool} {x : Int32} (h : x = if b then 1 else 0) (c : Bool) : x = (if c then 1 else 0) ↔ b = c := by
  rw [h]
  cases b <;> cases c <;> decide
theorem s_find_end {G : SH} {M : MS} {o a b fx fy px py : Nat} {odd sa sb : Bool} {i : Int32} (hO : Ok G M) (hx : Is G 8 fx) (hy : Is G 8 fy) (hxy : fy ≠ fx) (hbx : b ≠ fx) (hb : Is G 8 b) (e1 : mR M o 1 = fx) (e2 : mR M o 2 = fy) (wa : mI M a 2 = if sa then 1 else 0) (wb : ∃ vb, Wh G M b vb sb) (hi : i = if odd then 1 else 0) (wx : Wh G M fx px false) (wy : Wh G M fy py false) {Q : MS → Prop}
    (hQ : ∀ N, Fr G M N [fx, fy] → Wh G N fx px ((odd != sa) && decide (0 < px)) → Wh G N fy py ((odd == sb) && decide (0 < py)) → Q N) : w_X2_find_106 G Q o a b i M := by
  obtain ⟨vb, wb⟩ := wb
  have tail : ∀ (j : Int32), j = (if (odd != sa) then 1 else 0) → w_X2_find_123 G Q o b i j fx M := by
    intro j hj
    unfold w_X2_find_123
    refine s_takeSign hO hx wx hj (fun N f1 w1 => ?_)
    have hO1 := f1.ok hO
    have wb1 := f1.wh hO hb (ni1 hbx) wb
    have wy1 := f1.wh hO hy (ni1 hxy) wy
    rw [wb1.2.2.2, bI hi sb, f1.2.1, e2]
    refine ⟨fun h => ?_, fun h => ?_⟩
    · refine s_takeSign hO1 hy wy1 (w := false) rfl (fun P f2 w2 => hQ P ((f1.mono (all2 hx hy) (by simp)).tr1 (f2.mono (all2 hx hy) (by simp))) (f2.wh hO1 hx (ni1 hxy.symm) w1) ?_)
      have : (odd == sb) = false := by cases odd <;> cases sb <;> simp at h ⊢
      rw [this]
      exact w2
    · refine s_takeSign hO1 hy wy1 (w := true) rfl (fun P f2 w2 => hQ P ((f1.mono (all2 hx hy) (by simp)).tr1 (f2.mono (all2 hx hy) (by simp))) (f2.wh hO1 hx (ni1 hxy.symm) w1) ?_)
      have : (odd == sb) = true := by cases odd <;> cases sb <;> simp at h ⊢
      rw [this]
      exact w2
  unfold w_X2_find_106
  rw [wa, bI hi sa, e1]
  refine ⟨fun h => tail 0 (by rw [h]; cases sa <;> rfl), fun h => tail 1 ?_⟩
  cases odd <;> cases sa <;> simp at h ⊢
theorem s_find_loop {G : SH} {M0 : MS} {o dv xd qd pd a b va vb c rm A B : Nat} {sa sb : Bool} {X : List Nat} (hX : ∀ y ∈ X, Is G 8 y) (hO0 : Ok G M0) (ho : G.2.1 o ≠ 8) (hdo : dv ≠ o) (hroom : ∀ y ∈ X, rmw G M0 y = rm) (hc : 2 * c < rm) (hrm : rm ≤ 100) (ha : Is G 8 a) (hb : Is G 8 b) (haX : a ∉ X) (hbX : b ∉ X) (wa0 : Wh G M0 a va sa) (wb0 : Wh G M0 b vb sb) (cA : nl BB A ≤ c) (cB : nl BB B ≤ c) {T : Nat × Nat × Nat × Bool} {Q : MS → Prop}
    (hQ : ∀ N fr fs ft fx fz fy fw, Fs G M0 N X [o] → FaR N o dv xd qd pd fr fs ft fx fz fy fw → (∀ y ∈ [xd, qd, pd, fr, fs, ft, fx, fz, fy, fw], y ∈ X) → NDL [xd, qd, pd, fr, fs, ft, fx, fz, fy, fw] → Wh G N fr T.1 false → Wh G N fx T.2.1 ((T.2.2.2 != sa) && decide (0 < T.2.1)) → Wh G N fy T.2.2.1 ((T.2.2.2 == sb) && decide (0 < T.2.2.1)) → Q N) :
    ∀ (n : Nat) (M : MS) (fr fs ft fx fz fy fw pr ps px pz py pw t : Nat) (odd : Bool) (i : Int32), Fs G M0 M X [o] → FaR M o dv xd qd pd fr fs ft fx fz fy fw → (∀ y ∈ [xd, qd, pd, fr, fs, ft, fx, fz, fy, fw], y ∈ X) → NDL [xd, qd, pd, fr, fs, ft, fx, fz, fy, fw] → Wh G M fr pr false → Wh G M fs ps false → Wh G M fx px false → Wh G M fz pz false → Wh G M fy py false → Wh G M fw pw false → nl BB pr ≤ c → nl BB ps ≤ c → nl BB px ≤ c → nl BB pz ≤ c → nl BB py ≤ c → nl BB pw ≤ c → pr * pz + ps * px = B → pr * pw + ps * py = A → FAC pr ps px pz py pw odd = T → i = (if odd then 1 else 0) → EM pr ps < n → t + EM pr ps ≤ 10000 → w_X2_find_69 G Q n o a b i (nI t) M
  | 0, M, fr, fs, ft, fx, fz, fy, fw, pr, ps, px, pz, py, pw, t, odd, i, _, _, _, _, _, _, _, _, _, _, _, _, _, _, _, _, _, _, _, _, hn, _ => absurd hn (Nat.not_lt_zero _)
  | n + 1, M, fr, fs, ft, fx, fz, fy, fw, pr, ps, px, pz, py, pw, t, odd, i, f1, hR, hmem, hnd, wr, ws, wx, wz, wy, ww, c1, c2, c3, c4, c5, c6, iB, iA, hT, hi, hn, ht => by
    have hO := f1.ok hO0
    have I : ∀ (k y : Nat), [xd, qd, pd, fr, fs, ft, fx, fz, fy, fw][k]? = some y → y ∈ X := fun k y h => hmem y (List.mem_of_getElem? h)
    have wa := f1.wh hO0 ha haX wa0
    have wb := f1.wh hO0 hb hbX wb0
    rw [w_X2_find_69, hR.2.2.2.2.2.1, ws.2.1, nI_le0 (by omega), nl_v0, show (1000000 : Int32) = nI 1000000 from rfl, nI_leI (by decide) (by omega)]
    refine ⟨fun h => absurd h (by omega), fun _ => ⟨fun h => ?_, fun h => ?_⟩⟩
    · subst h
      rw [FAC_0] at hT
      subst hT
      refine s_find_end hO (hX fx (I 6 fx rfl)) (hX fy (I 8 fy rfl)) (hnd.ne 8 6 rfl rfl (by decide)) (fun e => hbX (by rw [e]; exact I 6 fx rfl)) hb hR.2.2.2.2.2.2.2.1 hR.2.2.2.2.2.2.2.2.2.1 wa.2.2.2 ⟨vb, wb⟩ hi wx wy (fun N g1 g2 g3 => ?_)
      exact hQ N fr fs ft fx fz fy fw (f1.tr (g1.fs hX (all1 ho) (all2 (I 6 fx rfl) (I 8 fy rfl)))) (g1.far hR) hmem hnd (g1.wh hO (hX fr (I 3 fr rfl)) (ni2 (hnd.ne 3 6 rfl rfl (by decide)) (hnd.ne 3 8 rfl rfl (by decide))) wr) g2 g3
    · have hps : 0 < ps := by omega
      have jB : ps * (px + pr / ps * pz) + pr % ps * pz = B := by rw [fac_inv]; exact iB
      have jA : ps * (py + pr / ps * pw) + pr % ps * pw = A := by rw [fac_inv]; exact iA
      have zB : px + pr / ps * pz ≤ B := le_mul_of hps (by omega)
      have zA : py + pr / ps * pw ≤ A := le_mul_of hps (by omega)
      have d3 : nl BB (px + pr / ps * pz) ≤ c := Nat.le_trans (nl_mono BB1 zB) cB
      have d5 : nl BB (py + pr / ps * pw) ≤ c := Nat.le_trans (nl_mono BB1 zA) cA
      refine s_turnOnce (c := c) (rm := rm) hX hO ho hdo hR hmem hnd (fun y hy => by rw [f1.room (hX y hy)]; exact hroom y hy) hc wr ws wx wz wy ww hps c1 c2 c3 c4 c5 c6 (Nat.le_trans (nl_mono BB1 (by omega)) cB) (Nat.le_trans (nl_mono BB1 (by omega)) cA) (fun N g1 g2 v1 v2 v3 v4 v5 v6 => ?_)
      have hEM := EM_lt (u := pr) hps
      rw [FAC_s (by omega)] at hT
      have hmem2 : ∀ y ∈ [xd, qd, pd, fs, ft, fr, fz, fx, fw, fy], y ∈ X := NDL.mem hmem [0, 1, 2, 4, 5, 3, 7, 6, 9, 8] rfl
      have hnd2 : NDL [xd, qd, pd, fs, ft, fr, fz, fx, fw, fy] := hnd.sub [0, 1, 2, 4, 5, 3, 7, 6, 9, 8] (by decide) rfl
      have nxt : ∀ (j : Int32), j = (if !odd then 1 else 0) → ∀ x4 : Int32, x4 = nI t + 1 → w_X2_find_69 G Q n o a b j x4 N := by
        intro j hj x4 ex4
        rw [ex4, nI_1]
        exact s_find_loop hX hO0 ho hdo hroom hc hrm ha hb haX hbX wa0 wb0 cA cB hQ n N fs ft fr fz fx fw fy ps (pr % ps) pz (px + pr / ps * pz) pw (py + pr / ps * pw) (t + 1) (!odd) j (f1.tr g1) g2 hmem2 hnd2 v1 v2 v3 v4 v5 v6 c2 (Nat.le_trans (nl_mono BB1 (Nat.mod_le _ _)) c1) c4 d3 c6 d5 jB jA hT hj (by omega) (by omega)
      rw [hi]
      refine ⟨fun h => nxt 0 ?_, fun h => nxt 1 ?_⟩
      · cases odd
        · exact absurd rfl h
        · rfl
      · cases odd
        · rfl
        · exact absurd h (by decide)
theorem s_find {G : SH} {M : MS} {o dv xd qd pd fr fs ft fx fz fy fw a b va vb c rm : Nat} {sa sb : Bool} {X : List Nat} (hX : ∀ y ∈ X, Is G 8 y) (hO : Ok G M) (ho : G.2.1 o ≠ 8) (hdo : dv ≠ o) (hroom : ∀ y ∈ X, rmw G M y = rm) (hc1 : 1 ≤ c) (hc : 2 * c < rm) (hrm : rm ≤ 100) (hR : FaR M o dv xd qd pd fr fs ft fx fz fy fw) (hmem : ∀ y ∈ [xd, qd, pd, fr, fs, ft, fx, fz, fy, fw], y ∈ X) (hnd : NDL [xd, qd, pd, fr, fs, ft, fx, fz, fy, fw]) (ha : Is G 8 a) (hb : Is G 8 b) (haX : a ∉ X) (hbX : b ∉ X) (wa : Wh G M a va sa) (wb : Wh G M b vb sb) (cA : nl BB va ≤ c) (cB : nl BB vb ≤ c) {Q : MS → Prop}
    (hQ : ∀ N fr fs ft fx fz fy fw, Fs G M N X [o] → FaR N o dv xd qd pd fr fs ft fx fz fy fw → (∀ y ∈ [xd, qd, pd, fr, fs, ft, fx, fz, fy, fw], y ∈ X) → NDL [xd, qd, pd, fr, fs, ft, fx, fz, fy, fw] → Wh G N fr (FAC va vb 1 0 0 1 false).1 false → Wh G N fx (FAC va vb 1 0 0 1 false).2.1 (((FAC va vb 1 0 0 1 false).2.2.2 != sa) && decide (0 < (FAC va vb 1 0 0 1 false).2.1)) → Wh G N fy (FAC va vb 1 0 0 1 false).2.2.1 (((FAC va vb 1 0 0 1 false).2.2.2 == sb) && decide (0 < (FAC va vb 1 0 0 1 false).2.2.1)) → Q N) : w_X2_find G o a b M Q := by
  unfold w_X2_find
  have I : ∀ (k y : Nat), [xd, qd, pd, fr, fs, ft, fx, fz, fy, fw][k]? = some y → y ∈ X := fun k y h => hmem y (List.mem_of_getElem? h)
  have ne : ∀ (i j : Nat) {a b : Nat}, [xd, qd, pd, fr, fs, ft, fx, fz, fy, fw][i]? = some a → [xd, qd, pd, fr, fs, ft, fx, fz, fy, fw][j]? = some b → i ≠ j → a ≠ b := fun i j {a b} h1 h2 h3 => hnd.ne i j h1 h2 h3
  have i3 := I 3 fr rfl
  have i4 := I 4 fs rfl
  have i6 := I 6 fx rfl
  have i7 := I 7 fz rfl
  have i8 := I 8 fy rfl
  have i9 := I 9 fw rfl
  have F1 : ∀ {A B : MS} {y : Nat}, y ∈ X → Fr G A B [y] → Fs G A B X [o] := fun hy h => h.fs hX (all1 ho) (all1 hy)
  rw [hR.2.2.2.2.1]
  have r3 := hroom fr i3
  have r4 := hroom fs i4
  refine s_copy hO (hX fr i3) ha wa (by omega) (fun M2 f2 w2 => ?_)
  intro M4 e4
  have hO2 := f2.ok hO
  have hR2 := f2.far hR
  rw [hR2.2.2.2.2.1] at e4
  have f4 : Fr G M2 M4 [fr] := by rw [e4]; exact Fr.wI (hX fr i3) 2 0
  have w4 : Wh G M4 fr va false := by rw [e4]; exact w2.pos
  have hR4 := f4.far hR2
  have hO4 := f4.ok hO2
  have g4 := f2.tr1 f4
  rw [hR4.2.2.2.2.2.1]
  have wb4 := g4.wh hO hb (ni1 (fun e => hbX (by rw [e]; exact i3))) wb
  refine s_copy hO4 (hX fs i4) hb wb4 (by rw [g4.room]; omega) (fun M6 f6 w6 => ?_)
  intro M8 e8
  have hO6 := f6.ok hO4
  have hR6 := f6.far hR4
  rw [hR6.2.2.2.2.2.1] at e8
  have f8 : Fr G M6 M8 [fs] := by rw [e8]; exact Fr.wI (hX fs i4) 2 0
  have w8 : Wh G M8 fs vb false := by rw [e8]; exact w6.pos
  have hR8 := f8.far hR6
  have hO8 := f8.ok hO6
  have g8 := f6.tr1 f8
  have w8r := g8.wh hO4 (hX fr i3) (ni1 (ne 3 4 rfl rfl (by decide))) w4
  rw [hR8.2.2.2.2.2.2.2.1]
  refine s_become hO8 (hX fx i6) (fun M10 f10 w10 => ?_)
  have hR10 := f10.far hR8
  have hO10 := f10.ok hO8
  rw [hR10.2.2.2.2.2.2.2.2.2.1]
  refine s_become hO10 (hX fy i8) (fun M12 f12 w12 => ?_)
  have hR12 := f12.far hR10
  have hO12 := f12.ok hO10
  rw [hR12.2.2.2.2.2.2.2.2.1]
  refine s_become hO12 (hX fz i7) (fun M14 f14 w14 => ?_)
  have hR14 := f14.far hR12
  have hO14 := f14.ok hO12
  rw [hR14.2.2.2.2.2.2.2.2.2.2]
  refine s_become hO14 (hX fw i9) (fun M16 f16 w16 => ?_)
  have hR16 := f16.far hR14
  have FF : Fs G M M16 X [o] := (((((F1 i3 g4).tr (F1 i4 g8)).tr (F1 i6 f10)).tr (F1 i8 f12)).tr (F1 i7 f14)).tr (F1 i9 f16)
  have P : ∀ k {y v : Nat}, [xd, qd, pd, fr, fs, ft, fx, fz, fy, fw][k]? = some y → k ≠ 6 → k ≠ 8 → k ≠ 7 → k ≠ 9 → Wh G M8 y v false → Wh G M16 y v false := fun k {y v} hk h6 h8 h7 h9 h => f16.wh hO14 (hX y (I k y hk)) (ni1 (ne k 9 hk rfl h9)) (f14.wh hO12 (hX y (I k y hk)) (ni1 (ne k 7 hk rfl h7)) (f12.wh hO10 (hX y (I k y hk)) (ni1 (ne k 8 hk rfl h8)) (f10.wh hO8 (hX y (I k y hk)) (ni1 (ne k 6 hk rfl h6)) h)))
  have wx := f16.wh hO14 (hX fx i6) (ni1 (ne 6 9 rfl rfl (by decide))) (f14.wh hO12 (hX fx i6) (ni1 (ne 6 7 rfl rfl (by decide))) (f12.wh hO10 (hX fx i6) (ni1 (ne 6 8 rfl rfl (by decide))) w10))
  have wy := f16.wh hO14 (hX fy i8) (ni1 (ne 8 9 rfl rfl (by decide))) (f14.wh hO12 (hX fy i8) (ni1 (ne 8 7 rfl rfl (by decide))) w12)
  have wz := f16.wh hO14 (hX fz i7) (ni1 (ne 7 9 rfl rfl (by decide))) w14
  have n1 : nl BB 1 ≤ c := Nat.le_trans ((nl_le BB1 1 1).mpr (by decide)) hc1
  have n0 : nl BB 0 ≤ c := by rw [nl_0]; exact Nat.zero_le _
  have u1 : u32 (1 : Int32) = 1 := rfl
  rw [u1] at wx w16
  rw [u32_0] at wy wz
  have hEM := EM_le (u := va) (v := vb) (n := c) cA cB
  refine ⟨EM va vb + 1, ?_⟩
  rw [← nI_0]
  exact s_find_loop (M0 := M) (A := va) (B := vb) hX hO ho hdo hroom hc hrm ha hb haX hbX wa wb cA cB hQ (EM va vb + 1) M16 fr fs ft fx fz fy fw va vb 1 0 0 1 0 false (nI 0) FF hR16 hmem hnd (P 3 rfl (by decide) (by decide) (by decide) (by decide) w8r) (P 4 rfl (by decide) (by decide) (by decide) (by decide) w8) wx wz wy w16 cA cB n1 n0 n0 n1 (by omega) (by omega) rfl rfl (by omega) (by omega)
