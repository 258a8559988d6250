/-! BITS: nl 2 v is how many bits v has; tz v how many 0 bits lie below its lowest 1 -/
theorem nl_pos {B v : Nat} (hB : 1 < B) (hv : 0 < v) : nl B v = nl B (v / B) + 1 := by
  rw [nl, dif_pos ⟨hB, hv⟩]
theorem nl_div {B : Nat} (hB : 1 < B) : ∀ (k v : Nat), B ^ k ≤ v → nl B v = nl B (v / B ^ k) + k
  | 0, v, _ => by rw [Nat.pow_zero, Nat.div_one]; rfl
  | k + 1, v, h => by
    have hp : 0 < B ^ k := Nat.pow_pos (by omega)
    rw [Nat.pow_succ] at h ⊢
    have h1 : B ^ k ≤ v := Nat.le_trans (Nat.le_mul_of_pos_right _ (by omega)) h
    have h2 : B ≤ v / B ^ k := (Nat.le_div_iff_mul_le hp).mpr (by rw [Nat.mul_comm]; exact h)
    rw [nl_div hB k v h1, nl_pos hB (by omega), ← Nat.div_div_eq_div_mul]
    omega
def tz (v : Nat) : Nat := if h : 0 < v ∧ v % 2 = 0 then tz (v / 2) + 1 else 0
  termination_by v
  decreasing_by omega
theorem tz_0 : tz 0 = 0 := by rw [tz]; simp
theorem tz_odd {v : Nat} (h : v % 2 = 1) : tz v = 0 := by
  rw [tz, dif_neg (by omega)]
theorem tz_even {v : Nat} (h0 : 0 < v) (h : v % 2 = 0) : tz v = tz (v / 2) + 1 := by
  rw [tz, dif_pos ⟨h0, h⟩]
theorem tz_mul : ∀ (t w : Nat), 0 < w → tz (2 ^ t * w) = t + tz w
  | 0, w, _ => by rw [Nat.pow_zero, Nat.one_mul, Nat.zero_add]
  | t + 1, w, h => by
    have e : 2 ^ (t + 1) * w = 2 * (2 ^ t * w) := by rw [Nat.pow_succ]; grind
    have hp : 0 < 2 ^ t * w := Nat.mul_pos (Nat.pow_pos (by decide)) h
    rw [e, tz_even (by omega) (by omega), show 2 * (2 ^ t * w) / 2 = 2 ^ t * w by omega, tz_mul t w h]
    omega
theorem tz_spec : ∀ (v : Nat), 0 < v → ∃ w, v = 2 ^ tz v * w ∧ w % 2 = 1 := by
  intro v
  induction v using Nat.strongRecOn with
  | _ v ih =>
    intro hv
    rcases Nat.mod_two_eq_zero_or_one v with h | h
    · obtain ⟨w, h1, h2⟩ := ih (v / 2) (by omega) (by omega)
      refine ⟨w, ?_, h2⟩
      rw [tz_even hv h, Nat.pow_succ]
      have : 2 ^ tz (v / 2) * 2 * w = 2 * (2 ^ tz (v / 2) * w) := by grind
      omega
    · exact ⟨v, by rw [tz_odd h, Nat.pow_zero, Nat.one_mul], h⟩
theorem tz_low {v k : Nat} (h : v % 2 ^ k ≠ 0) : tz v = tz (v % 2 ^ k) := by
  obtain ⟨w, h1, h2⟩ := tz_spec (v % 2 ^ k) (by omega)
  have hlt : v % 2 ^ k < 2 ^ k := Nat.mod_lt _ (Nat.pow_pos (by decide))
  have hle : 2 ^ tz (v % 2 ^ k) ≤ v % 2 ^ k := by
    rw [h1]
    rw [← h1]
    have : 2 ^ tz (v % 2 ^ k) * 1 ≤ 2 ^ tz (v % 2 ^ k) * w := Nat.mul_le_mul_left _ (by omega)
    omega
  have ht : tz (v % 2 ^ k) < k := (Nat.pow_lt_pow_iff_right (by decide)).mp (Nat.lt_of_le_of_lt hle hlt)
  generalize hT : tz (v % 2 ^ k) = t at h1 ht hle
  have e : v = 2 ^ t * (2 ^ (k - t) * (v / 2 ^ k) + w) := by
    have := Nat.div_add_mod v (2 ^ k)
    rw [h1] at this
    have hk : 2 ^ k = 2 ^ t * 2 ^ (k - t) := by rw [← Nat.pow_add]; congr 1; omega
    calc v = 2 ^ k * (v / 2 ^ k) + 2 ^ t * w := this.symm
      _ = 2 ^ t * (2 ^ (k - t) * (v / 2 ^ k) + w) := by
        rw [Nat.mul_add, ← Nat.mul_assoc, ← hk]
  have ho : (2 ^ (k - t) * (v / 2 ^ k) + w) % 2 = 1 := by
    obtain ⟨j, hj⟩ : ∃ j, k - t = j + 1 := ⟨k - t - 1, by omega⟩
    rw [hj, Nat.pow_succ, Nat.mul_assoc, Nat.mul_left_comm]
    omega
  rw [e, tz_mul _ _ (by omega), tz_odd ho]
  rfl
theorem tz_le {v : Nat} (h : 0 < v) : 2 ^ tz v ≤ v := by
  obtain ⟨w, h1, h2⟩ := tz_spec v h
  have : 2 ^ tz v * 1 ≤ 2 ^ tz v * w := Nat.mul_le_mul_left _ (by omega)
  omega
/-! numberOfLeadingZeros, numberOfTrailingZeros -/
theorem nl2_small {m : Nat} (h0 : 0 < m) (h : m < 4) : nl 2 m = m / 2 + 1 := by
  rcases (show m = 1 ∨ m = 2 ∨ m = 3 by omega) with rfl | rfl | rfl
  · rw [nl_pos (by decide) (by decide), show 1 / 2 = 0 from rfl, nl_0]
  · rw [nl_pos (by decide) (by decide), show 2 / 2 = 1 from rfl, nl_pos (by decide) (by decide), show 1 / 2 = 0 from rfl, nl_0]
  · rw [nl_pos (by decide) (by decide), show 3 / 2 = 1 from rfl, nl_pos (by decide) (by decide), show 1 / 2 = 0 from rfl, nl_0]
theorem us (s : Int32) (k : Nat) (hs : ((s.toUInt32 &&& Int32.toUInt32 31).toBitVec % 32).toNat = k) {n : Nat} (hn : n < 4294967296) : ((nI n).toUInt32 >>> (s.toUInt32 &&& Int32.toUInt32 31)).toInt32 = nI (n / 2 ^ k) := pk_ushrN hn s k hs
theorem nI_m {n k : Nat} (h : k ≤ n) (d : Int32) (hd : d = -nI k) : nI n + d = nI (n - k) := by
  rw [hd, ← pk_sub h, Int32.sub_eq_add_neg]
theorem s_nlz61 {G : SH} {M : MS} {m n : Nat} {Q : Int32 → MS → Prop} (h0 : 0 < m) (hm : m < 16) (hn : 3 ≤ n) (hn2 : n < 40) (hQ : Q (nI (n + 1 - nl 2 m)) M) : w_J6_numberOfLeadingZeros_0f7a4_61 G Q (nI m) (nI n) M := by
  unfold w_J6_numberOfLeadingZeros_0f7a4_61
  rw [show (4 : Int32) = nI 4 from rfl, nI_ltI (by omega) (by omega)]
  refine ⟨fun h => ?_, fun h y ey z ez => ?_⟩
  · rw [us 1 1 rfl (by omega), pk_sub (by omega)]
    rw [nl2_small h0 h] at hQ
    exact (show n + 1 - (m / 2 + 1) = n - m / 2 ^ 1 by omega) ▸ hQ
  · rw [us 2 2 rfl (by omega)] at ez
    rw [nI_m (k := 2) (by omega) (-2) rfl] at ey
    rw [ey, ez, us 1 1 rfl (by omega), pk_sub (by omega)]
    have e := nl_div (B := 2) (by decide) 2 m (by omega)
    rw [nl2_small (m := m / 2 ^ 2) (by omega) (by omega)] at e
    rw [e] at hQ
    exact (show n + 1 - (m / 2 ^ 2 / 2 + 1 + 2) = n - 2 - m / 2 ^ 2 / 2 ^ 1 by omega) ▸ hQ
theorem s_nlz48 {G : SH} {M : MS} {m n : Nat} {Q : Int32 → MS → Prop} (h0 : 0 < m) (hm : m < 256) (hn : 7 ≤ n) (hn2 : n < 40) (hQ : Q (nI (n + 1 - nl 2 m)) M) : w_J6_numberOfLeadingZeros_0f7a4_48 G Q (nI m) (nI n) M := by
  unfold w_J6_numberOfLeadingZeros_0f7a4_48
  rw [show (16 : Int32) = nI 16 from rfl, nI_ltI (by omega) (by omega)]
  refine ⟨fun h => s_nlz61 h0 h (by omega) hn2 hQ, fun h y ey z ez => ?_⟩
  rw [us 4 4 rfl (by omega)] at ez
  rw [nI_m (k := 4) (by omega) (-4) rfl] at ey
  rw [ey, ez]
  refine s_nlz61 (by omega) (by omega) (by omega) (by omega) ?_
  rw [nl_div (B := 2) (by decide) 4 m (by omega)] at hQ
  exact (show n + 1 - (nl 2 (m / 2 ^ 4) + 4) = n - 4 + 1 - nl 2 (m / 2 ^ 4) by omega) ▸ hQ
theorem s_nlz33 {G : SH} {M : MS} {m n : Nat} {Q : Int32 → MS → Prop} (h0 : 0 < m) (hm : m < 65536) (hn : 15 ≤ n) (hn2 : n < 40) (hQ : Q (nI (n + 1 - nl 2 m)) M) : w_J6_numberOfLeadingZeros_0f7a4_33 G Q (nI m) (nI n) M := by
  unfold w_J6_numberOfLeadingZeros_0f7a4_33
  rw [show (256 : Int32) = nI 256 from rfl, nI_ltI (by omega) (by omega)]
  refine ⟨fun h => s_nlz48 h0 h (by omega) hn2 hQ, fun h y ey z ez => ?_⟩
  rw [us 8 8 rfl (by omega)] at ez
  rw [nI_m (k := 8) (by omega) (-8) rfl] at ey
  rw [ey, ez]
  refine s_nlz48 (by omega) (by omega) (by omega) (by omega) ?_
  rw [nl_div (B := 2) (by decide) 8 m (by omega)] at hQ
  exact (show n + 1 - (nl 2 (m / 2 ^ 8) + 8) = n - 8 + 1 - nl 2 (m / 2 ^ 8) by omega) ▸ hQ
theorem s_nlz {G : SH} {M : MS} {x : Int32} {Q : Int32 → MS → Prop} (hQ : Q (nI (32 - nl 2 (u32 x))) M) : w_J6_numberOfLeadingZeros_0f7a4 G x M Q := by
  unfold w_J6_numberOfLeadingZeros_0f7a4
  have hx := u32_lt x
  have ex := nI_u32 x
  generalize u32 x = m at hQ hx ex
  subst ex
  refine ⟨fun h => ?_, fun h => ?_⟩
  · have hm : m < 2147483648 ∧ 0 < m := by
      have : (0 : Int32).toInt < (nI m).toInt := (fa_lt _ _).mp h
      have e : (nI m).toInt = (m : Int).bmod 4294967296 := Int32.toInt_ofNat' 
      rw [e] at this
      have z : (0 : Int32).toInt = 0 := rfl
      rw [z] at this
      rw [Int.bmod_def] at this
      omega
    rw [show (65536 : Int32) = nI 65536 from rfl, nI_ltI hm.1 (by omega)]
    refine ⟨fun h2 => ?_, fun h2 y ey z ez => ?_⟩
    · exact s_nlz33 (n := 31) hm.2 h2 (by decide) (by decide) hQ
    · rw [us 16 16 rfl (by omega)] at ez
      rw [ey, ez]
      refine s_nlz33 (n := 15) (by omega) (by omega) (by decide) (by decide) ?_
      rw [nl_div (B := 2) (by decide) 16 m (by omega)] at hQ
      exact (show 32 - (nl 2 (m / 2 ^ 16) + 16) = 15 + 1 - nl 2 (m / 2 ^ 16) by omega) ▸ hQ
  · refine ⟨fun h2 => ?_, fun h2 => ?_⟩
    · have hm : 2147483648 ≤ m := by
        rcases Nat.lt_or_ge m 2147483648 with q | q
        · rw [nI_0lt q] at h
          exact absurd (by rw [show m = 0 by omega]; rfl) h2
        · exact q
      have e : nl 2 m = 32 := nl_eq (by decide) (by omega) (Or.inr hm)
      rw [e] at hQ
      exact hQ
    · have hm : m = 0 := by
        have := u32_nI_lt hx
        rw [h2] at this
        exact this.symm
      rw [hm, nl_0] at hQ
      exact hQ
theorem ntz_mask {t q : Nat} (hm : 2 ^ t * (2 * q + 1) < 4294967296) : (nI (2 ^ t * (2 * q + 1)) ^^^ (-1)) &&& (nI (2 ^ t * (2 * q + 1)) - 1) = nI (2 ^ t - 1) := by
  have hp : 0 < 2 ^ t := Nat.pow_pos (by decide)
  have e1 : nI (2 ^ t * (2 * q + 1)) - 1 = nI (2 ^ t * (2 * q) + (2 ^ t - 1)) := by
    rw [show (1 : Int32) = nI 1 from rfl, pk_sub (by rw [Nat.mul_add]; omega)]
    congr 1
    rw [Nat.mul_add]
    omega
  rw [e1]
  apply Int32.toBitVec.inj
  apply BitVec.eq_of_getLsbD_eq
  intro i hi
  have b : ∀ n : Nat, (nI n).toBitVec.getLsbD i = n.testBit i := by
    intro n
    show (Int32.ofNat n).toBitVec.getLsbD i = _
    rw [Int32.toBitVec_ofNat', BitVec.getLsbD_ofNat]
    simp [hi]
  have m1 : ((-1 : Int32).toBitVec).getLsbD i = true := by
    have : ∀ j : Fin 32, ((-1 : Int32).toBitVec).getLsbD j.val = true := by decide +kernel
    exact this ⟨i, hi⟩
  rw [Int32.toBitVec_and, BitVec.getLsbD_and, Int32.toBitVec_xor, BitVec.getLsbD_xor, b, b, b, m1]
  have c1 : (2 ^ t * (2 * q + 1)).testBit i = if i < t then false else (2 * q + 1).testBit (i - t) := by
    have := Nat.testBit_two_pow_mul_add (2 * q + 1) hp i
    rw [Nat.add_zero] at this
    rw [this]
    simp
  have c2 := Nat.testBit_two_pow_mul_add (2 * q) (i := t) (b := 2 ^ t - 1) (by omega) i
  rw [c1, c2, Nat.testBit_two_pow_sub_one]
  by_cases h : i < t
  · simp [h]
  · rw [if_neg h, if_neg h]
    rcases Nat.eq_zero_or_pos (i - t) with z | z
    · rw [z]
      simp [h, Nat.testBit_zero]
    · obtain ⟨j, hj⟩ : ∃ j, i - t = j + 1 := ⟨i - t - 1, by omega⟩
      rw [hj, Nat.testBit_succ, Nat.testBit_succ, show (2 * q + 1) / 2 = q by omega, show 2 * q / 2 = q by omega]
      simp [h]
theorem pw_le {t k : Nat} : 2 ^ t - 1 ≤ 2 ^ k ↔ t ≤ k ∨ (t = 1 ∧ k = 0) := by
  have hk : 0 < 2 ^ k := Nat.pow_pos (by decide)
  constructor
  · intro h
    rcases Nat.lt_or_ge k t with q | q
    · have h1 : 2 ^ (k + 1) ≤ 2 ^ t := Nat.pow_le_pow_right (by decide) q
      rw [Nat.pow_succ] at h1
      have h2 : 2 ^ k = 1 := by omega
      have h3 : k = 0 := by
        rcases Nat.eq_zero_or_pos k with z | z
        · exact z
        · have : 2 ^ 1 ≤ 2 ^ k := Nat.pow_le_pow_right (by decide) z
          omega
      subst h3
      rcases Nat.lt_or_ge 1 t with z | z
      · have : 2 ^ 2 ≤ 2 ^ t := Nat.pow_le_pow_right (by decide) z
        omega
      · right; omega
    · left; exact q
  · intro h
    rcases h with h | ⟨rfl, rfl⟩
    · have : 2 ^ t ≤ 2 ^ k := Nat.pow_le_pow_right (by decide) h
      omega
    · decide
theorem pw_dv {t k : Nat} (h : k ≤ t) : (2 ^ t - 1) / 2 ^ k = 2 ^ (t - k) - 1 := by
  have hk : 0 < 2 ^ k := Nat.pow_pos (by decide)
  have e : 2 ^ t = 2 ^ k * 2 ^ (t - k) := by rw [← Nat.pow_add]; congr 1; omega
  have hq : 0 < 2 ^ (t - k) := Nat.pow_pos (by decide)
  generalize 2 ^ (t - k) = w at e hq ⊢
  rw [e]
  obtain ⟨z, rfl⟩ : ∃ z, w = z + 1 := ⟨w - 1, by omega⟩
  rw [Nat.mul_add, Nat.mul_one, show 2 ^ k * z + 2 ^ k - 1 = (2 ^ k - 1) + 2 ^ k * z by omega, Nat.add_mul_div_left _ _ hk, Nat.div_eq_of_lt (by omega)]
  omega
theorem pw_lt31 {t : Nat} (h : t ≤ 31) : 2 ^ t - 1 < 2147483648 := by
  have : 2 ^ t ≤ 2 ^ 31 := Nat.pow_le_pow_right (by decide) h
  omega
theorem s_ntz62 {G : SH} {M : MS} {t n : Nat} {Q : Int32 → MS → Prop} (h0 : 1 ≤ t) (ht : t ≤ 4) (hQ : Q (nI (n - 1 + t)) M) (hn : 1 ≤ n) : w_J6_numberOfTrailingZeros_0f7a4_62 G Q (nI (2 ^ t - 1)) (nI n) M := by
  unfold w_J6_numberOfTrailingZeros_0f7a4_62
  have hl := pw_lt31 (t := t) (by omega)
  rw [show (4 : Int32) = nI (2 ^ 2) from rfl, nI_leI hl (by decide), pw_le]
  refine ⟨fun h => ?_, fun h y ey z ez => ?_⟩
  · rw [us 1 1 rfl (by omega), nI_add]
    rcases (show t = 1 ∨ t = 2 by omega) with rfl | rfl
    · exact (show n - 1 + 1 = n + (2 ^ 1 - 1) / 2 ^ 1 by omega) ▸ hQ
    · exact (show n - 1 + 2 = n + (2 ^ 2 - 1) / 2 ^ 1 by omega) ▸ hQ
  · rw [us 2 2 rfl (by omega)] at ez
    rw [show (2 : Int32) = nI 2 from rfl, nI_add] at ey
    rw [ey, ez, us 1 1 rfl (by omega), nI_add]
    rcases (show t = 3 ∨ t = 4 by omega) with rfl | rfl
    · exact (show n - 1 + 3 = n + 2 + (2 ^ 3 - 1) / 2 ^ 2 / 2 ^ 1 by omega) ▸ hQ
    · exact (show n - 1 + 4 = n + 2 + (2 ^ 4 - 1) / 2 ^ 2 / 2 ^ 1 by omega) ▸ hQ
theorem s_ntz49 {G : SH} {M : MS} {t n : Nat} {Q : Int32 → MS → Prop} (h0 : 1 ≤ t) (ht : t ≤ 8) (hQ : Q (nI (n - 1 + t)) M) (hn : 1 ≤ n) : w_J6_numberOfTrailingZeros_0f7a4_49 G Q (nI (2 ^ t - 1)) (nI n) M := by
  unfold w_J6_numberOfTrailingZeros_0f7a4_49
  have hl := pw_lt31 (t := t) (by omega)
  rw [show (16 : Int32) = nI (2 ^ 4) from rfl, nI_leI hl (by decide), pw_le]
  refine ⟨fun h => s_ntz62 h0 (by omega) hQ hn, fun h y ey z ez => ?_⟩
  rw [us 4 4 rfl (by omega), pw_dv (by omega)] at ez
  rw [show (4 : Int32) = nI 4 from rfl, nI_add] at ey
  rw [ey, ez]
  exact s_ntz62 (by omega) (by omega) ((show n - 1 + t = n + 4 - 1 + (t - 4) by omega) ▸ hQ) (by omega)
theorem s_ntz34 {G : SH} {M : MS} {t n : Nat} {Q : Int32 → MS → Prop} (h0 : 1 ≤ t) (ht : t ≤ 16) (hQ : Q (nI (n - 1 + t)) M) (hn : 1 ≤ n) : w_J6_numberOfTrailingZeros_0f7a4_34 G Q (nI (2 ^ t - 1)) (nI n) M := by
  unfold w_J6_numberOfTrailingZeros_0f7a4_34
  have hl := pw_lt31 (t := t) (by omega)
  rw [show (256 : Int32) = nI (2 ^ 8) from rfl, nI_leI hl (by decide), pw_le]
  refine ⟨fun h => s_ntz49 h0 (by omega) hQ hn, fun h y ey z ez => ?_⟩
  rw [us 8 8 rfl (by omega), pw_dv (by omega)] at ez
  rw [show (8 : Int32) = nI 8 from rfl, nI_add] at ey
  rw [ey, ez]
  exact s_ntz49 (by omega) (by omega) ((show n - 1 + t = n + 8 - 1 + (t - 8) by omega) ▸ hQ) (by omega)
theorem s_ntz {G : SH} {M : MS} {x : Int32} {Q : Int32 → MS → Prop} (hx : u32 x ≠ 0) (hQ : Q (nI (tz (u32 x))) M) : w_J6_numberOfTrailingZeros_0f7a4 G x M Q := by
  unfold w_J6_numberOfTrailingZeros_0f7a4
  have hl := u32_lt x
  have ex := nI_u32 x
  generalize u32 x = m at hQ hx hl ex
  subst ex
  obtain ⟨w, h1, h2⟩ := tz_spec m (by omega)
  have hle := tz_le (v := m) (by omega)
  have ht : tz m ≤ 31 := by
    have : 2 ^ tz m < 2 ^ 32 := by omega
    have := (Nat.pow_lt_pow_iff_right (a := 2) (by decide)).mp this
    omega
  generalize tz m = t at hQ h1 hle ht
  obtain ⟨q, rfl⟩ : ∃ q, w = 2 * q + 1 := ⟨w / 2, by omega⟩
  subst h1
  intro y ey
  rw [ntz_mask hl] at ey
  subst ey
  have hl31 := pw_lt31 ht
  refine ⟨fun h => ?_, fun h => ?_⟩
  · rw [nI_0lt hl31] at h
    have h0 : 1 ≤ t := by
      rcases Nat.eq_zero_or_pos t with rfl | z
      · simp at h
      · exact z
    rw [show (65536 : Int32) = nI (2 ^ 16) from rfl, nI_leI hl31 (by decide), pw_le]
    refine ⟨fun h3 => s_ntz34 (n := 1) h0 (by omega) ((show t = 1 - 1 + t by omega) ▸ hQ) (by decide), fun h3 y ey z ez => ?_⟩
    rw [us 16 16 rfl (by omega), pw_dv (by omega)] at ez
    rw [ey, ez]
    exact s_ntz34 (n := 17) (by omega) (by omega) ((show t = 17 - 1 + (t - 16) by omega) ▸ hQ) (by decide)
  · rw [nI_0lt hl31] at h
    have h0 : t = 0 := by
      rcases Nat.eq_zero_or_pos t with z | z
      · exact z
      · have : 2 ^ 1 ≤ 2 ^ t := Nat.pow_le_pow_right (by decide) z
        omega
    subst h0
    exact hQ
/-! Whole.bits, hasBit, window, lowZeros -/
theorem nl_bits {v : Nat} (h : 0 < v) : nl 2 v = 32 * (nl BB v - 1) + nl 2 (lim v (nl BB v - 1)) := by
  have h1 : nl BB v ≠ 0 := fun z => by rw [nl_v0] at z; omega
  have h2 := (nl_lt_iff BB1 (nl BB v - 1) v).mp (by omega)
  have h3 := (nl_le BB1 (nl BB v) v).mp (Nat.le_refl _)
  generalize hn : nl BB v - 1 = n at h2 ⊢
  have e : nl BB v = n + 1 := by omega
  rw [e] at h3
  have e2 : BB ^ n = 2 ^ (32 * n) := by rw [Nat.pow_mul]
  have hp : 0 < BB ^ n := Nat.pow_pos (by decide)
  have h4 : lim v n = v / 2 ^ (32 * n) := by
    unfold lim
    rw [← e2]
    refine Nat.mod_eq_of_lt ?_
    rw [Nat.div_lt_iff_lt_mul hp, Nat.mul_comm, ← Nat.pow_succ]
    exact h3
  rw [h4, nl_div (B := 2) (by decide) (32 * n) v (by rw [← e2]; exact h2)]
  omega
theorem s_bits {G : SH} {M : MS} {x v : Nat} {b : Bool} {Q : Int32 → MS → Prop} (hO : Ok G M) (hx : Is G 8 x) (hw : Wh G M x v b) (hQ : Q (nI (nl 2 v)) M) : w_X9_bits G x M Q := by
  unfold w_X9_bits
  have hr := hO.1 x hx
  have a1 := hw.1
  rw [hw.2.1, nI_eq0 (by omega), nl_v0]
  refine ⟨fun h => ?_, fun h => ?_⟩
  · have h1 : nl BB v ≠ 0 := fun z => by rw [nl_v0] at z; omega
    obtain ⟨n, hn⟩ : ∃ n, nl BB v = n + 1 := ⟨nl BB v - 1, by omega⟩
    rw [hn, nI_pred, cl (by omega)]
    rw [hn] at a1
    refine ⟨vp_in_nI (by unfold rmw at a1; omega) (by unfold rmw at hr; omega), s_nlz ?_⟩
    rw [hw.lim (by omega)]
    have e := nl_bits (v := v) (by omega)
    rw [hn, Nat.add_sub_cancel] at e
    have hb : nl 2 (lim v n) ≤ 32 := (nl_le (by decide) 32 _).mpr (lim_l v n)
    rw [show (32 : Int32) = nI 32 from rfl, pk_mul, pk_sub (by omega)]
    rw [e] at hQ
    exact (show 32 * n + nl 2 (lim v n) = 32 * (n + 1) - (32 - nl 2 (lim v n)) by omega) ▸ hQ
  · rw [h, nl_0] at hQ
    exact hQ
theorem shr5 {n : Nat} (h : n < 2147483648) : nI n >>> ((5 : Int32) &&& 31) = nI (n / 32) := pk_shrN h _ 5 rfl
theorem and31 {n : Nat} (h : n < 2147483648) : nI n &&& (31 : Int32) = nI (n % 32) := pk_andN (by omega) 5 rfl
theorem s_hasBit {G : SH} {M : MS} {x v k : Nat} {b : Bool} {i : Int32} {Q : Int32 → MS → Prop} (hO : Ok G M) (hx : Is G 8 x) (hw : Wh G M x v b) (hi : i = nI k) (hk : k < 2147483648) (hQ : Q (if v / 2 ^ k % 2 = 1 then 1 else 0) M) : w_X9_hasBit G x i M Q := by
  unfold w_X9_hasBit
  rw [hi, shr5 hk, and31 hk]
  refine s_limb hO hx hw rfl (by omega) ?_
  have hl := lim_l v (k / 32)
  have hlt : lim v (k / 32) / 2 ^ (k % 32) ≤ lim v (k / 32) := Nat.div_le_self _ _
  rw [wb_shr (by omega) (by omega), wb_a1 (by omega)]
  have e : lim v (k / 32) / 2 ^ (k % 32) % 2 = v / 2 ^ k % 2 := by
    unfold lim
    have e1 : (2 : Nat) ^ k = BB ^ (k / 32) * 2 ^ (k % 32) := by
      show (2 : Nat) ^ k = (2 ^ 32) ^ (k / 32) * 2 ^ (k % 32)
      rw [← Nat.pow_mul, ← Nat.pow_add]
      congr 1
      omega
    rw [e1, ← Nat.div_div_eq_div_mul]
    generalize v / BB ^ (k / 32) = w
    have hr : k % 32 < 32 := Nat.mod_lt _ (by decide)
    generalize k % 32 = r at hr
    have hB : BB = 2 ^ r * (2 * 2 ^ (31 - r)) := by
      show 2 ^ 32 = _
      rw [← Nat.pow_succ', ← Nat.pow_add]
      congr 1
      omega
    have hp : 0 < 2 ^ r := Nat.pow_pos (by decide)
    have : w % BB / 2 ^ r = w / 2 ^ r % (2 * 2 ^ (31 - r)) := by rw [hB, Nat.mod_mul_right_div_self]
    rw [this, Nat.mod_mul_right_mod]
  rw [e, show (1 : Int64) = lN 1 from rfl, pk_lEQ (by omega) (by decide)]
  refine ⟨fun h => ?_, fun h => ?_⟩
  · rw [if_neg h] at hQ; exact hQ
  · rw [if_pos h] at hQ; exact hQ
theorem s_window {G : SH} {M : MS} {x v k : Nat} {b : Bool} {i : Int32} {Q : Int64 → MS → Prop} (hO : Ok G M) (hx : Is G 8 x) (hw : Wh G M x v b) (hi : i = nI k) (hk : k < 2147483648) (hQ : Q (lN (v / 2 ^ k % BB)) M) : w_X9_window G x i M Q := by
  unfold w_X9_window
  rw [hi, shr5 hk, and31 hk, nI_1]
  refine s_limb hO hx hw rfl (by omega) ?_
  refine s_limb hO hx hw rfl (by omega) ?_
  intro y ey
  have h1 := lim_l v (k / 32 + 1)
  have h0 := lim_l v (k / 32)
  rw [shl_lN32, g_or (k := 32) (p := 4294967296) rfl h0 (by omega)] at ey
  have hr : k % 32 < 32 := Nat.mod_lt _ (by decide)
  rw [ey, wb_shr (by omega) (by omega), show (4294967295 : Int64) = lN (2 ^ 32 - 1) from rfl, wb_mask (Nat.lt_of_le_of_lt (Nat.div_le_self _ _) (by omega)) (by decide)]
  have e : (lim v (k / 32 + 1) * 4294967296 + lim v (k / 32)) / 2 ^ (k % 32) % 2 ^ 32 = v / 2 ^ k % BB := by
    have e1 : (2 : Nat) ^ k = BB ^ (k / 32) * 2 ^ (k % 32) := by
      show (2 : Nat) ^ k = (2 ^ 32) ^ (k / 32) * 2 ^ (k % 32)
      rw [← Nat.pow_mul, ← Nat.pow_add]
      congr 1
      omega
    unfold lim
    rw [e1, ← Nat.div_div_eq_div_mul, Nat.pow_succ, ← Nat.div_div_eq_div_mul]
    generalize v / BB ^ (k / 32) = w
    generalize k % 32 = r at hr
    have a1 : w / BB % BB * 4294967296 + w % BB = w % (BB * BB) := by
      rw [Nat.mod_mul, Nat.add_comm, Nat.mul_comm]
    rw [a1]
    have hB : BB * BB = 2 ^ r * (BB * 2 ^ (32 - r)) := by
      show 2 ^ 32 * 2 ^ 32 = 2 ^ r * (2 ^ 32 * 2 ^ (32 - r))
      rw [← Nat.pow_add, ← Nat.pow_add, ← Nat.pow_add]
      congr 1
      omega
    rw [hB, Nat.mod_mul_right_div_self]
    exact Nat.mod_mul_right_mod _ _ _
  rw [e]
  exact hQ
theorem s_lowZeros_loop {G : SH} {M : MS} {x v : Nat} {b : Bool} {Q : Int32 → MS → Prop} (hO : Ok G M) (hx : Is G 8 x) (hw : Wh G M x v b) (hQ : Q (nI (tz v)) M) : ∀ (d k : Nat), k + d = nl BB v → BB ^ k ∣ v → ∃ n, w_X9_lowZeros_2 G Q n x (nI k) M
  | 0, k, hk, hd => by
    have a1 := hw.1
    have hr := hO.1 x hx
    refine ⟨1, ?_⟩
    rw [w_X9_lowZeros_2, hw.2.1, nI_leI (by omega) (by omega)]
    refine ⟨fun _ => ?_, fun h => absurd (show nl BB v ≤ k by omega) h⟩
    have : v = 0 := by
      obtain ⟨w, hw⟩ := hd
      have h1 := (nl_le BB1 k v).mp (by omega)
      rcases Nat.eq_zero_or_pos w with z | z
      · rw [hw, z, Nat.mul_zero]
      · have : BB ^ k * 1 ≤ BB ^ k * w := Nat.mul_le_mul_left _ z
        omega
    rw [this, tz_0] at hQ
    exact hQ
  | d + 1, k, hk, hd => by
    have a1 := hw.1
    have hr := hO.1 x hx
    have hv := vp_in_nI (n := k) (N := G.2.2.1 (mR M x 0)) (by unfold rmw at a1; omega) (by unfold rmw at hr; omega)
    have hp : 0 < BB ^ k := Nat.pow_pos (by decide)
    have hL := hw.lim (i := k) (by omega)
    by_cases hz : mA M (mR M x 0) k = 0
    · have hd2 : BB ^ (k + 1) ∣ v := by
        obtain ⟨w, e⟩ := hd
        rw [hz] at hL
        unfold lim at hL
        rw [e, Nat.mul_div_cancel_left _ hp] at hL
        rw [e, Nat.pow_succ]
        exact Nat.mul_dvd_mul_left _ (Nat.dvd_of_mod_eq_zero hL.symm)
      obtain ⟨n, hn⟩ := s_lowZeros_loop hO hx hw hQ d (k + 1) (by omega) hd2
      refine ⟨n + 1, ?_⟩
      rw [w_X9_lowZeros_2, hw.2.1, nI_leI (by omega) (by omega), cl (by omega)]
      refine ⟨fun h => absurd h (by omega), fun _ => ⟨hv, fun _ y ey => ?_, fun h => absurd hz h⟩⟩
      rw [ey, nI_1]
      exact hn
    · refine ⟨1, ?_⟩
      rw [w_X9_lowZeros_2, hw.2.1, nI_leI (by omega) (by omega), cl (by omega)]
      refine ⟨fun h => absurd h (by omega), fun _ => ⟨hv, fun h => absurd h hz, fun _ => ⟨hv, s_ntz (fun z => hz (u32_eq0.mpr z)) ?_⟩⟩⟩
      have hnz : lim v k ≠ 0 := fun z => hz (u32_eq0.mpr (hL.trans z))
      rw [hL, show (32 : Int32) = nI 32 from rfl, pk_mul, nI_add]
      have e : tz v = 32 * k + tz (lim v k) := by
        obtain ⟨w, ew⟩ := hd
        have e2 : lim v k = w % 2 ^ 32 := by
          unfold lim
          rw [ew, Nat.mul_div_cancel_left _ hp]
        rw [e2] at hnz ⊢
        rw [← tz_low hnz, ew, show BB ^ k = 2 ^ (32 * k) by rw [Nat.pow_mul], tz_mul _ _ (by
          rcases Nat.eq_zero_or_pos w with z | z
          · rw [z] at hnz; simp at hnz
          · exact z)]
      rw [e] at hQ
      exact hQ
theorem s_lowZeros {G : SH} {M : MS} {x v : Nat} {b : Bool} {Q : Int32 → MS → Prop} (hO : Ok G M) (hx : Is G 8 x) (hw : Wh G M x v b) (hQ : Q (nI (tz v)) M) : w_X9_lowZeros G x M Q := by
  unfold w_X9_lowZeros
  rw [← nI_0]
  exact s_lowZeros_loop hO hx hw hQ (nl BB v) 0 (by omega) (by rw [Nat.pow_zero]; exact Nat.one_dvd v)
