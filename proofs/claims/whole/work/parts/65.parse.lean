/-! Tape.parse -/
theorem dg_of {x : Int32} (h1 : ¬ x < 48) (h2 : x ≤ 57) : ∃ d : Nat, d < 10 ∧ x = nI (48 + d) := by
  rw [Int32.lt_iff_toInt_lt] at h1
  rw [Int32.le_iff_toInt_le] at h2
  have e1 : (48 : Int32).toInt = 48 := rfl
  have e2 : (57 : Int32).toInt = 57 := rfl
  rw [e1] at h1
  rw [e2] at h2
  refine ⟨(x.toInt - 48).toNat, by omega, ?_⟩
  apply Int32.toInt_inj.mp
  rw [nI_toInt (by omega)]
  omega
/-- the decimal from a on, k digits -/
def DC (tb : Nat → Int32) (a : Nat) : Nat → Nat
  | 0 => 0
  | k + 1 => 10 * DC tb a k + (u32 (tb (a + k)) - 48)
theorem DC_mono (tb : Nat → Int32) (a k : Nat) : ∀ m, DC tb a k ≤ DC tb a (k + m)
  | 0 => Nat.le_refl _
  | m + 1 => by
    have := DC_mono tb a k m
    show _ ≤ 10 * DC tb a (k + m) + _
    omega
theorem s_parse_loop {G : SH} {M0 : MS} {o q h L x w : Nat} {tb : Nat → Int32} (hO0 : Ok G M0) (hx : Is G 8 x) (ho : G.2.1 o ≠ 8) (t0 : Tp G M0 o q tb h L) (hxq : mR M0 x 0 ≠ q) (hd : isD tb h) (hw : w + 1 < rmw G M0 x) {Q : Int32 → MS → Prop}
    (h1 : nl BB (DC tb (frm tb h) (h - frm tb h)) ≤ w → ∀ N, Fr G M0 N [x] → Wh G N x (DC tb (frm tb h) (h - frm tb h)) (mns tb h && decide (0 < DC tb (frm tb h) (h - frm tb h))) → Q 1 N)
    (h0 : w < nl BB (DC tb (frm tb h) (h - frm tb h)) → ∀ N, Fr G M0 N [x] → Q 0 N) :
    ∀ (k i : Nat) (M : MS) (V c j : Nat), i + k = h → frm tb h ≤ i → Fr G M0 M [x] → Wh G M x V false → nl BB V ≤ w → j < 9 → c < 10 ^ j → V * 10 ^ j + c = DC tb (frm tb h) (i - frm tb h) → (k = 0 → c = 0 ∧ j = 0) → w_X8_parse_16 G Q (k + 1) o x (nI w) (nI c) (nI (10 ^ j)) (nI i) M
  | 0, i, M, V, c, j, hi, hf, f1, wx, nV, hj, hc, hD, hk => by
    obtain ⟨rfl, rfl⟩ := hk rfl
    have hO := f1.ok hO0
    obtain rfl : i = h := by omega
    rw [Nat.pow_zero, Nat.mul_one, Nat.add_zero] at hD
    have t : Tp G M o q tb i L := by
      obtain ⟨a1, a2, a3, a4, a5, a6⟩ := t0
      exact ⟨by rw [f1.2.1]; exact a1, a2, a3, a4, by rw [f1.io ho]; exact a5, fun j hj => by rw [f1.2.2.2.2 q (all1 (fun e => hxq e.symm))]; exact a6 j hj⟩
    rw [w_X8_parse_16, t.2.2.2.2.1]
    refine ⟨fun _ => ?_, fun z => absurd (Int32.le_refl _) z⟩
    refine s_hasMinus t ?_
    refine s_takeSign hO hx wx rfl (fun N f2 w2 => ?_)
    rw [hD] at w2 nV
    exact h1 nV N (f1.tr1 f2) w2
  | k + 1, i, M, V, c, j, hi, hf, f1, wx, nV, hj, hc, hD, hk => by
    have hO := f1.ok hO0
    have hr0 := hO0.1 x hx
    have hr : rmw G M x = rmw G M0 x := f1.room x
    have t : Tp G M o q tb h L := by
      obtain ⟨a1, a2, a3, a4, a5, a6⟩ := t0
      exact ⟨by rw [f1.2.1]; exact a1, a2, a3, a4, by rw [f1.io ho]; exact a5, fun j hj => by rw [f1.2.2.2.2 q (all1 (fun e => hxq e.symm))]; exact a6 j hj⟩
    obtain ⟨a1, a2, a3, a4, a5, a6⟩ := t
    obtain ⟨d, hd1, hd2⟩ := dg_of (hd.2 i hf (by omega)).1 (hd.2 i hf (by omega)).2
    have p9 : 10 ^ (j + 1) ≤ 1000000000 := Nat.le_trans (Nat.pow_le_pow_right (by decide) (show j + 1 ≤ 9 by omega)) (by decide)
    have p0 : 0 < 10 ^ j := Nat.pow_pos (by decide)
    rw [Nat.pow_succ] at p9
    have hD2 : DC tb (frm tb h) (i + 1 - frm tb h) = V * 10 ^ (j + 1) + (10 * c + d) := by
      rw [show i + 1 - frm tb h = (i - frm tb h) + 1 by omega, DC, ← hD, show frm tb h + (i - frm tb h) = i by omega, hd2, u32_nI_lt (by omega), Nat.pow_succ, Nat.mul_add]
      have : 10 * (V * 10 ^ j) = V * (10 ^ j * 10) := by grind
      omega
    have hc2 : 10 * c + d < 10 ^ (j + 1) := by rw [Nat.pow_succ]; omega
    have ec : ((10 : Int32) * nI c + tb i) - 48 = nI (10 * c + d) := by
      rw [hd2, show (10 : Int32) = nI 10 from rfl, pk_mul, nI_add, show (48 : Int32) = nI 48 from rfl, pk_sub (by omega)]
      congr 1
      omega
    have es : (10 : Int32) * nI (10 ^ j) = nI (10 ^ (j + 1)) := by
      rw [show (10 : Int32) = nI 10 from rfl, pk_mul, Nat.pow_succ, Nat.mul_comm]
    have cont : ∀ (M2 : MS) (V2 c2 j2 : Nat), Fr G M0 M2 [x] → Wh G M2 x V2 false → j2 < 9 → c2 < 10 ^ j2 → V2 * 10 ^ j2 + c2 = DC tb (frm tb h) (i + 1 - frm tb h) → (k = 0 → c2 = 0 ∧ j2 = 0) → w_X8_parse_78 G (w_X8_parse_16 G Q (k + 1)) Q o x (nI w) (nI c2) (nI (10 ^ j2)) (nI i) M2 := by
      intro M2 V2 c2 j2 f2 w2 hj2 hc2 hD2' hk2
      unfold w_X8_parse_78
      have hV2 := w2.1
      rw [f2.room] at hV2
      rw [w2.2.1, nI_leI (by omega) (by omega)]
      refine ⟨fun z x5 ex5 => ?_, fun z => ?_⟩
      · rw [ex5, nI_1]
        exact s_parse_loop hO0 hx ho t0 hxq hd hw h1 h0 k (i + 1) M2 V2 c2 j2 (by omega) (by omega) f2 w2 z hj2 hc2 hD2' hk2
      · refine h0 ?_ M2 f2
        have q1 : V2 ≤ DC tb (frm tb h) (h - frm tb h) := by
          have z1 : V2 * 1 ≤ V2 * 10 ^ j2 := Nat.mul_le_mul_left _ (Nat.pow_pos (by decide))
          have z2 := DC_mono tb (frm tb h) (i + 1 - frm tb h) k
          rw [show i + 1 - frm tb h + k = h - frm tb h by omega] at z2
          omega
        have := nl_mono BB1 q1
        omega
    have fold : w_X8_parse_66 G (w_X8_parse_16 G Q (k + 1)) Q o x (nI w) (nI (10 * c + d)) (nI (10 ^ (j + 1))) (nI i) M := by
      unfold w_X8_parse_66
      refine s_foldIn hO hx wx (by omega) (by rw [Nat.pow_succ]; omega) (by rw [Nat.pow_succ] at hc2; omega) (fun N f2 w2 => ?_)
      exact cont N _ 0 0 (f1.tr1 f2) w2 (by decide) (by decide) (by rw [hD2, Nat.pow_zero, Nat.mul_one, Nat.add_zero, Nat.mul_comm]) (fun _ => ⟨rfl, rfl⟩)
    rw [w_X8_parse_16, a1, a2, a5, nI_leI (by omega) (by omega), cl (by omega), a6 i (by omega)]
    refine ⟨fun z => absurd z (by omega), fun _ => ⟨vp_in_nI (by omega) (by omega), fun x3 ex3 x4 ex4 => ?_⟩⟩
    rw [ec] at ex3
    rw [es] at ex4
    rw [ex3, ex4, show (1000000000 : Int32) = nI 1000000000 from rfl, nI_eq (by rw [Nat.pow_succ]; omega) (by decide)]
    refine ⟨fun _ => fold, fun z => ⟨fun z2 => ?_, fun _ => fold⟩⟩
    refine cont M V (10 * c + d) (j + 1) f1 wx ?_ hc2 hD2.symm (fun hk0 => ?_)
    · rcases Nat.lt_or_ge (j + 1) 9 with q | q
      · exact q
      · exact absurd (by rw [show j + 1 = 9 by omega]) z
    · refine absurd ?_ z2
      rw [show h = i + 1 by omega, nI_pred]
theorem s_parse {G : SH} {M : MS} {o q h L x w : Nat} {tb : Nat → Int32} {i : Int32} (hO : Ok G M) (hx : Is G 8 x) (ho : G.2.1 o ≠ 8) (t : Tp G M o q tb h L) (hxq : mR M x 0 ≠ q) (hd : isD tb h) (hw : w + 1 < rmw G M x) (hi : i = nI w) {Q : Int32 → MS → Prop}
    (h1 : nl BB (DC tb (frm tb h) (h - frm tb h)) ≤ w → ∀ N, Fr G M N [x] → Wh G N x (DC tb (frm tb h) (h - frm tb h)) (mns tb h && decide (0 < DC tb (frm tb h) (h - frm tb h))) → Q 1 N)
    (h0 : w < nl BB (DC tb (frm tb h) (h - frm tb h)) → ∀ N, Fr G M N [x] → Q 0 N) : w_X8_parse G o x i M Q := by
  unfold w_X8_parse
  refine s_become hO hx (fun N f1 w1 => ?_)
  have t1 : Tp G N o q tb h L := by
    obtain ⟨a1, a2, a3, a4, a5, a6⟩ := t
    exact ⟨by rw [f1.2.1]; exact a1, a2, a3, a4, by rw [f1.io ho]; exact a5, fun j hj => by rw [f1.2.2.2.2 q (all1 (fun e => hxq e.symm))]; exact a6 j hj⟩
  refine s_firstDigit t1 ?_
  have hf := hd.1
  refine ⟨h - frm tb h + 1, ?_⟩
  rw [hi]
  exact s_parse_loop hO hx ho t hxq hd hw h1 h0 (h - frm tb h) (frm tb h) N 0 0 0 (by omega) (Nat.le_refl _) f1 w1 (by rw [nl_0]; omega) (by decide) (by decide) (by rw [Nat.sub_self]; rfl) (fun z => absurd z (by omega))
