/-! DIVIDER -/
theorem lN_neg {n : Nat} (h : n < 18446744073709551616) : lN n < 0 ↔ 9223372036854775808 ≤ n := by
  rw [fa_lt64, lN_ti (by omega)]
  have z : (0 : Int64).toInt = 0 := rfl
  rw [z]
  by_cases c : n < 2 ^ 63
  · rw [if_pos c]; omega
  · rw [if_neg c]; omega
theorem ushr_lN1 {n : Nat} (h : n < 18446744073709551616) : ((lN n).toUInt64 >>> ((1 : Int32).toInt64.toUInt64 &&& Int64.toUInt64 63)).toInt64 = lN (n / 2) := wb_shr (k := 1) h (by decide)
theorem shl_lN1 (n : Nat) : lN n <<< ((1 : Int32).toInt64 &&& 63) = lN (n * 2) := wb_shl n (k := 1) (by decide)
theorem s_qop {G : SH} {M : MS} {P D : Nat} {Q : Int64 → MS → Prop} (hP : P < 18446744073709551616) (hD : 0 < D) (hD2 : D < 4294967296) (hQ : Q (lN (P / D)) M) : w_X0_quotientOfPair G (lN P) (lN D) M Q := by
  unfold w_X0_quotientOfPair
  have z : (0 : Int64) = lN 0 := rfl
  have hd0 : ¬ lN D = 0 := by rw [z, pk_lEQ (by omega) (by decide)]; omega
  refine ⟨fun _ => ⟨fun h => ⟨hd0, fun x ex => ?_⟩, fun h => ⟨hd0, ?_⟩⟩, fun h => absurd (by rw [z, pk_lLT (by decide) (by omega)]; exact hD) h⟩
  · have h2 : P / 2 < 9223372036854775808 := by omega
    rw [ushr_lN1 hP, pk_lDiv h2 hD (by omega), shl_lN1] at ex
    have hdm := Nat.div_add_mod (P / 2) D
    have hml := Nat.mod_lt (P / 2) hD
    generalize P / 2 / D = E at hdm ex
    generalize P / 2 % D = r at hdm hml
    have hE : E * 2 * D ≤ P := by
      have : E * 2 * D = 2 * (D * E) := by grind
      omega
    have hr : P - E * 2 * D = 2 * r + P % 2 := by
      have : E * 2 * D = 2 * (D * E) := by grind
      omega
    rw [ex, lN_mul, lN_sub hE, hr, pk_lLT (by omega) (by omega), lN_1]
    have hPd : P = D * (E * 2) + (2 * r + P % 2) := by
      have : D * (E * 2) = E * 2 * D := by grind
      omega
    refine ⟨fun c => ?_, fun c => ?_⟩
    · have : P / D = E * 2 := by
        rw [hPd, Nat.mul_add_div hD, Nat.div_eq_of_lt c, Nat.add_zero]
      rw [this] at hQ
      exact hQ
    · have : P / D = E * 2 + 1 := by
        rw [hPd, Nat.mul_add_div hD]
        have : (2 * r + P % 2) / D = 1 := by
          rw [Nat.div_eq_iff hD]
          omega
        omega
      rw [this] at hQ
      exact hQ
  · rw [lN_neg hP] at h
    rw [pk_lDiv (by omega) hD (by omega)]
    exact hQ
theorem s_cmpU {G : SH} {M : MS} {a b : Nat} {Q : Int32 → MS → Prop} (ha : a < 18446744073709551616) (hb : b < 18446744073709551616) (hQ : ∀ r : Int32, (0 < r ↔ b < a) → Q r M) : w_J13_compareUnsigned_74951 G (lN a) (lN b) M Q := by
  unfold w_J13_compareUnsigned_74951 w_J13_compare_74951
  have ti : ∀ n : Nat, n < 18446744073709551616 → (lN n + (-9223372036854775808)).toInt = (n : Int) - 9223372036854775808 := by
    intro n hn
    have e : lN n + (-9223372036854775808) = lZ ((n : Int) - 9223372036854775808) := by
      rw [lN_lZ, show (-9223372036854775808 : Int64) = lZ (-9223372036854775808) from rfl, lZ_add]
      rfl
    rw [e, lZ_toInt (by omega) (by omega)]
  have ta := ti a ha
  have tb := ti b hb
  generalize lN a + (-9223372036854775808) = x at ta
  generalize lN b + (-9223372036854775808) = y at tb
  simp only [fa_lt64, fa_le64, fa_eq64, ta, tb]
  constructor
  · intro h
    constructor
    · intro h2
      exact hQ _ ⟨fun z => by omega, fun z => by decide⟩
    · intro h2
      exact hQ _ ⟨fun z => absurd z (by decide), fun z => by omega⟩
  · intro h
    exact hQ _ ⟨fun z => absurd z (by decide), fun z => by omega⟩
/-! splitByLimb -/
theorem dl_step {va D k : Nat} (hD : 0 < D) : (va / BB ^ (k + 1) % D * BB + lim va k) / D = lim (va / D) k ∧ (va / BB ^ (k + 1) % D * BB + lim va k) % D = va / BB ^ k % D := by
  have e : va / BB ^ k = va / BB ^ (k + 1) * BB + lim va k := by
    rw [Nat.pow_succ, ← Nat.div_div_eq_div_mul]
    unfold lim
    rw [Nat.mul_comm]
    exact (Nat.div_add_mod _ _).symm
  generalize hZ : va / BB ^ (k + 1) = Y at e ⊢
  have e2 := Nat.div_add_mod Y D
  have hl := lim_lt va k
  have ho := Nat.mod_lt Y hD
  generalize hz : Y / D = Z at e2
  generalize Y % D = o at e2 ho ⊢
  have e3 : va / BB ^ k = D * (Z * BB) + (o * BB + lim va k) := by rw [e, ← e2]; grind
  have hlt : (o * BB + lim va k) / D < BB := by
    rw [Nat.div_lt_iff_lt_mul hD]
    have : (o + 1) * BB ≤ D * BB := Nat.mul_le_mul_right _ ho
    rw [Nat.add_mul, Nat.one_mul] at this
    rw [Nat.mul_comm BB D]
    omega
  constructor
  · have : lim (va / D) k = va / BB ^ k / D % BB := by
      unfold lim
      rw [Nat.div_div_eq_div_mul, Nat.div_div_eq_div_mul, Nat.mul_comm]
    rw [this, e3, Nat.mul_add_div hD, Nat.mul_comm Z, Nat.mul_add_mod, Nat.mod_eq_of_lt hlt]
  · rw [e3, Nat.mul_add_mod]
theorem s_sbl_loop {G : SH} {M0 : MS} {q a va D : Nat} {sa : Bool} (hO0 : Ok G M0) (hq : Is G 8 q) (ha : Is G 8 a) (hqa : a ≠ q) (wa0 : Wh G M0 a va sa) (hD : 0 < D) (hD2 : D < 4294967296) (hr : nl BB va ≤ rmw G M0 q) {Q : Int32 → MS → Prop} (hQ : ∀ N, Fr G M0 N [q] → Wh G N q (va / D) false → Q (nI (va % D)) N) :
    ∀ (k : Nat) (M : MS), k ≤ nl BB va → Fr G M0 M [q] → (∀ t, k ≤ t → t < nl BB va → dgt M q t = lim (va / D) t) → ∃ n, w_X0_splitByLimb_19 G Q n q a (lN D) (lN (va / BB ^ k % D)) (nI k - 1) M
  | 0, M, _, f1, hv => by
    have hO := f1.ok hO0
    have wa := f1.wh hO0 ha (by simpa using hqa) wa0
    refine ⟨1, ?_⟩
    rw [w_X0_splitByLimb_19, wa.2.1, Nat.pow_zero, Nat.div_one, lN_i]
    refine ⟨fun _ => s_keep hO hq rfl (by rw [f1.room]; exact hr) (fun P f2 _ f3 => hQ P (f1.tr1 f2) ?_), fun h => absurd (by decide) h⟩
    rw [vl_congr (g := lim (va / D)) (fun t ht => hv t (Nat.zero_le _) ht), vl_lim_all (nl_mono BB1 (Nat.div_le_self _ _))] at f3
    exact f3
  | k + 1, M, hk, f1, hv => by
    have hO := f1.ok hO0
    have wa := f1.wh hO0 ha (by simpa using hqa) wa0
    have h1 := hO0.1 q hq
    have hrm := f1.room q
    have st := dl_step (va := va) (k := k) hD
    have hl := lim_l va k
    have ho := Nat.mod_lt (va / BB ^ (k + 1)) hD
    have f0 : Fr G M (wA M (mR M q 0) (upd (mA M (mR M q 0)) k (nI (lim (va / D) k)))) [q] := Fr.wA hq _
    obtain ⟨n, ih⟩ := s_sbl_loop hO0 hq ha hqa wa0 hD hD2 hr hQ k (wA M (mR M q 0) (upd (mA M (mR M q 0)) k (nI (lim (va / D) k)))) (by omega) (f1.tr1 f0)
      (fun t ht hl => by
        rcases Nat.eq_or_lt_of_le ht with e | e
        · subst e
          rw [dgt_put_s, u32_nI_lt (lim_l _ _)]
        · rw [dgt_put_ne (by omega)]
          exact hv t (by omega) hl)
    refine ⟨n + 1, ?_⟩
    rw [nI_pred, w_X0_splitByLimb_19]
    refine ⟨fun h => absurd h (nI_lt0 (by omega)), fun _ => s_limb hO ha wa rfl (by omega) ?_⟩
    intro x ex
    generalize va / BB ^ (k + 1) % D = o at st ho ex
    rw [shl_lN32, g_or (k := 32) (p := 4294967296) rfl hl (by omega)] at ex
    rw [ex]
    refine s_qop (by omega) hD hD2 ?_
    have st1 : (o * 4294967296 + lim va k) / D = lim (va / D) k := st.1
    rw [st1, cl (c := k) (by omega)]
    refine ⟨vp_in_nI (by unfold rmw at hr hrm; omega) (by unfold rmw at h1 hrm; omega), fun N eN y ey z ez => ?_⟩
    have hdm := Nat.div_add_mod (o * 4294967296 + lim va k) D
    have st2 : (o * 4294967296 + lim va k) % D = va / BB ^ k % D := st.2
    rw [st1, st2] at hdm
    rw [lN_mul, lN_sub (by rw [Nat.mul_comm]; omega), show o * 4294967296 + lim va k - lim (va / D) k * D = va / BB ^ k % D by rw [Nat.mul_comm (lim _ _)]; omega] at ey
    rw [lN_i] at eN
    rw [ez, show nI k + -1 = nI k - 1 from (Int32.sub_eq_add_neg ..).symm, ey, eN]
    exact ih
theorem s_splitByLimb {G : SH} {M : MS} {dv q a va : Nat} {sa : Bool} {i : Int32} (hO : Ok G M) (hq : Is G 8 q) (ha : Is G 8 a) (hqa : a ≠ q) (wa : Wh G M a va sa) (hD : 0 < u32 i) (hr : nl BB va ≤ rmw G M q) {Q : Int32 → MS → Prop} (hQ : ∀ N, Fr G M N [q] → Wh G N q (va / u32 i) false → Q (nI (va % u32 i)) N) : w_X0_splitByLimb G dv q a i M Q := by
  unfold w_X0_splitByLimb
  intro x ex y ey
  rw [mask_lN] at ex
  rw [wa.2.1] at ey
  rw [ex, ey]
  have := s_sbl_loop hO hq ha hqa wa hD (u32_lt i) hr hQ (nl BB va) M (Nat.le_refl _) (Fr.rf (by simpa using hq)) (fun t h1 h2 => by omega)
  rw [Nat.div_eq_of_lt ((nl_le BB1 _ _).mp (Nat.le_refl _)), Nat.zero_mod] at this
  exact this
