/-! NUMBERS: int and long as images of whole numbers -/
def u32 (x : Int32) : Nat := x.toBitVec.toNat
theorem u32_lt (x : Int32) : u32 x < 4294967296 := x.toBitVec.isLt
theorem u32_nI (n : Nat) : u32 (nI n) = n % 4294967296 := by
  show (Int32.ofNat n).toBitVec.toNat = _
  simp
theorem u32_nI_lt {n : Nat} (h : n < 4294967296) : u32 (nI n) = n := by
  rw [u32_nI, Nat.mod_eq_of_lt h]
theorem nI_u32 (x : Int32) : nI (u32 x) = x := by
  apply Int32.toBitVec.inj
  show (Int32.ofNat x.toBitVec.toNat).toBitVec = _
  simp
theorem u32_inj {x y : Int32} (h : u32 x = u32 y) : x = y := by rw [← nI_u32 x, ← nI_u32 y, h]
theorem u32_0 : u32 0 = 0 := rfl
theorem u32_eq0 {x : Int32} : x = 0 ↔ u32 x = 0 := ⟨fun h => by rw [h]; rfl, fun h => u32_inj (h.trans u32_0.symm)⟩
theorem nI_mod (n : Nat) : nI (n % 4294967296) = nI n := by
  apply Int32.toBitVec.inj
  show (Int32.ofNat (n % 4294967296)).toBitVec = (Int32.ofNat n).toBitVec
  apply BitVec.eq_of_toNat_eq
  simp
def lZ (z : Int) : Int64 := Int64.ofInt z
def iZ (z : Int) : Int32 := Int32.ofInt z
theorem lN_lZ (n : Nat) : lN n = lZ n := Int64.ofInt_eq_ofNat.symm
theorem lZ_add (a b : Int) : lZ a + lZ b = lZ (a + b) := (Int64.ofInt_add a b).symm
theorem lZ_sub (a b : Int) : lZ a - lZ b = lZ (a - b) := (Int64.ofInt_sub a b).symm
theorem lZ_mul (a b : Int) : lZ a * lZ b = lZ (a * b) := (Int64.ofInt_mul a b).symm
theorem lZ_i (z : Int) : (lZ z).toInt32 = iZ z := Int64.toInt32_ofInt
theorem lZ_toInt {z : Int} (h1 : -9223372036854775808 ≤ z) (h2 : z < 9223372036854775808) : (lZ z).toInt = z := Int64.toInt_ofInt_of_le h1 h2
theorem lZ_of (x : Int64) : lZ x.toInt = x := Int64.ofInt_toInt x
theorem u32_iZ (z : Int) : (u32 (iZ z) : Int) = z % 4294967296 := by
  show (((Int32.ofInt z).toBitVec.toNat : Nat) : Int) = _
  rw [Int32.toBitVec_ofInt, BitVec.toNat_ofInt]
  omega
theorem iZ_of {n : Nat} {z : Int} (h : (n : Int) = z % 4294967296) : iZ z = nI n := by
  apply u32_inj
  have h1 := u32_iZ z
  have h2 := u32_nI n
  omega
theorem mask_lN (x : Int32) : (x.toInt64 &&& 4294967295 : Int64) = lN (u32 x) := by
  apply Int64.toBitVec.inj
  show (x.toInt64 &&& 4294967295 : Int64).toBitVec = (Int64.ofNat (u32 x)).toBitVec
  rw [Int64.toBitVec_and, Int32.toBitVec_toInt64]
  apply BitVec.eq_of_getLsbD_eq
  intro i hi
  rw [BitVec.getLsbD_and, BitVec.getLsbD_signExtend]
  have e : ((4294967295 : Int64).toBitVec).getLsbD i = decide (i < 32) := by
    have : ∀ j : Fin 64, ((4294967295 : Int64).toBitVec).getLsbD j.val = decide (j.val < 32) := by decide +kernel
    exact this ⟨i, hi⟩
  rw [e]
  have e2 : ((Int64.ofNat (u32 x)).toBitVec).getLsbD i = x.toBitVec.getLsbD i := by
    rw [Int64.toBitVec_ofNat']
    rw [BitVec.getLsbD_ofNat]
    simp [hi, u32, BitVec.getLsbD]
  rw [e2]
  by_cases h : i < 32
  · simp [h, hi]
  · simp only [h, decide_false, Bool.and_false]
    exact (BitVec.getLsbD_of_ge _ _ (by omega)).symm
theorem shl_lN32 (n : Nat) : lN n <<< ((32 : Int32).toInt64 &&& 63) = lN (n * 4294967296) := wb_shl n (k := 32) (by decide)
theorem ushr_lN32 {n : Nat} (h : n < 18446744073709551616) : ((lN n).toUInt64 >>> ((32 : Int32).toInt64.toUInt64 &&& Int64.toUInt64 63)).toInt64 = lN (n / 4294967296) := wb_shr (k := 32) h (by decide)
theorem shr_lZ {z : Int} (k : Nat) (hk : k < 64) (h1 : -9223372036854775808 ≤ z) (h2 : z < 9223372036854775808) : lZ z >>> ((nI k).toInt64 &&& 63) = lZ (z / 2 ^ k) := by
  rw [wb_c k hk]
  apply Int64.toBitVec.inj
  rw [Int64.toBitVec_shiftRight]
  show (lZ z).toBitVec.sshiftRight' ((lN k).toBitVec.smod 64) = _
  rw [wb_tb, wb_sm k hk]
  apply BitVec.eq_of_toInt_eq
  rw [BitVec.toInt_sshiftRight']
  have e1 : (lZ z).toBitVec.toInt = z := lZ_toInt h1 h2
  have e2 : (BitVec.ofNat 64 k).toNat = k := by simp; omega
  rw [e1, e2]
  have hp : (0 : Int) < 2 ^ k := Int.pow_pos (by decide)
  have hp1 : (1 : Int) ≤ 2 ^ k := hp
  have b1 : -9223372036854775808 ≤ z / 2 ^ k := by
    rw [Int.le_ediv_iff_mul_le hp]
    have : (-9223372036854775808 : Int) * 2 ^ k ≤ -9223372036854775808 * 1 := Int.mul_le_mul_of_nonpos_left (by decide) hp1
    omega
  have b2 : z / 2 ^ k < 9223372036854775808 := by
    rw [Int.ediv_lt_iff_lt_mul hp]
    have : (9223372036854775808 : Int) * 1 ≤ 9223372036854775808 * 2 ^ k := Int.mul_le_mul_of_nonneg_left hp1 (by decide)
    omega
  show z >>> k = (lZ (z / 2 ^ k)).toInt
  rw [lZ_toInt b1 b2, Int.shiftRight_eq_div_pow]
  simp
theorem shr_lZ32 {z : Int} (h1 : -9223372036854775808 ≤ z) (h2 : z < 9223372036854775808) : lZ z >>> ((32 : Int32).toInt64 &&& 63) = lZ (z / 4294967296) := shr_lZ 32 (by decide) h1 h2
/-! DIGITS -/
def vl (B : Nat) (f : Nat → Nat) : Nat → Nat
  | 0 => 0
  | n + 1 => vl B f n + f n * B ^ n
theorem vl_s (B : Nat) (f : Nat → Nat) (n : Nat) : vl B f (n + 1) = vl B f n + f n * B ^ n := rfl
theorem vl_0 (B : Nat) (f : Nat → Nat) : vl B f 0 = 0 := rfl
theorem vl_congr {B : Nat} {f g : Nat → Nat} : ∀ {n : Nat}, (∀ i, i < n → f i = g i) → vl B f n = vl B g n
  | 0, _ => rfl
  | n + 1, h => by rw [vl_s, vl_s, vl_congr (fun i hi => h i (by omega)), h n (by omega)]
theorem vl_lt {B : Nat} {f : Nat → Nat} : ∀ {n : Nat}, (∀ i, i < n → f i < B) → vl B f n < B ^ n
  | 0, _ => by rw [vl_0]; exact Nat.one_pos
  | n + 1, h => by
    have h1 := vl_lt (B := B) (f := f) (n := n) (fun i hi => h i (by omega))
    have h2 := h n (by omega)
    have h3 : (f n + 1) * B ^ n ≤ B * B ^ n := Nat.mul_le_mul_right _ h2
    rw [vl_s, Nat.pow_succ, Nat.mul_comm (B ^ n) B]
    rw [Nat.add_mul, Nat.one_mul] at h3
    omega
theorem vl_pad {B : Nat} {f : Nat → Nat} {m : Nat} : ∀ (n : Nat), m ≤ n → (∀ i, m ≤ i → i < n → f i = 0) → vl B f n = vl B f m
  | 0, h, _ => by rw [Nat.le_zero.mp h]
  | n + 1, h, hz => by
    rcases Nat.lt_or_ge m (n + 1) with q | q
    · rw [vl_s, vl_pad n (by omega) (fun i h1 h2 => hz i h1 (by omega)), hz n (by omega) (by omega), Nat.zero_mul, Nat.add_zero]
    · rw [show m = n + 1 by omega]
theorem vl_low {B : Nat} {f : Nat → Nat} {m : Nat} : ∀ (n : Nat), vl B f (m + n) = vl B f m + B ^ m * vl B (fun i => f (m + i)) n
  | 0 => by rw [vl_0, Nat.mul_zero]; rfl
  | n + 1 => by
    rw [show m + (n + 1) = (m + n) + 1 from rfl, vl_s, vl_low n, vl_s, Nat.mul_add, Nat.pow_add]
    grind
theorem vl_ge {B : Nat} {f : Nat → Nat} {n : Nat} (h : f n ≠ 0) : B ^ n ≤ vl B f (n + 1) := by
  rw [vl_s]
  have : 1 * B ^ n ≤ f n * B ^ n := Nat.mul_le_mul_right _ (by omega)
  omega
theorem vl_mono (B : Nat) (f : Nat → Nat) {m n : Nat} (h : m ≤ n) : vl B f m ≤ vl B f n := by
  obtain ⟨k, rfl⟩ : ∃ k, n = m + k := ⟨n - m, by omega⟩
  rw [vl_low]
  omega
theorem vl_inj {B : Nat} {f g : Nat → Nat} : ∀ {n : Nat}, (∀ i, i < n → f i < B) → (∀ i, i < n → g i < B) → vl B f n = vl B g n → ∀ i, i < n → f i = g i
  | 0, _, _, _ => fun i hi => absurd hi (Nat.not_lt_zero i)
  | n + 1, hf, hg, h => by
    rw [vl_s, vl_s] at h
    have h1 := vl_lt (B := B) (f := f) (n := n) (fun i hi => hf i (by omega))
    have h2 := vl_lt (B := B) (f := g) (n := n) (fun i hi => hg i (by omega))
    have hp : 0 < B ^ n := by omega
    have e : f n = g n := by
      have a1 : (vl B f n + f n * B ^ n) / B ^ n = f n := by rw [Nat.add_mul_div_right _ _ hp, Nat.div_eq_of_lt h1, Nat.zero_add]
      have a2 : (vl B g n + g n * B ^ n) / B ^ n = g n := by rw [Nat.add_mul_div_right _ _ hp, Nat.div_eq_of_lt h2, Nat.zero_add]
      rw [h] at a1
      omega
    intro i hi
    rcases Nat.lt_or_ge i n with q | q
    · rw [e] at h
      exact vl_inj (fun i hi => hf i (by omega)) (fun i hi => hg i (by omega)) (by omega) i q
    · rw [show i = n by omega]; exact e
/-- the limbs that a size has -/
def nl (B : Nat) (v : Nat) : Nat := if h : 1 < B ∧ 0 < v then nl B (v / B) + 1 else 0
  termination_by v
  decreasing_by exact Nat.div_lt_self h.2 h.1
theorem nl_0 (B : Nat) : nl B 0 = 0 := by rw [nl]; simp
theorem nl_le {B : Nat} (hB : 1 < B) : ∀ (n v : Nat), nl B v ≤ n ↔ v < B ^ n
  | 0, v => by
    rw [nl]
    by_cases h : 1 < B ∧ 0 < v
    · rw [dif_pos h]; simp; omega
    · rw [dif_neg h]; simp; omega
  | n + 1, v => by
    rw [nl]
    by_cases h : 1 < B ∧ 0 < v
    · rw [dif_pos h, Nat.succ_le_succ_iff, nl_le hB n (v / B), Nat.div_lt_iff_lt_mul (by omega), Nat.pow_succ]
    · rw [dif_neg h]
      have hp : 0 < B ^ (n + 1) := Nat.pow_pos (by omega)
      constructor
      · intro _; omega
      · intro _; omega
theorem nl_eq {B : Nat} (hB : 1 < B) {v n : Nat} (h1 : v < B ^ n) (h2 : n = 0 ∨ B ^ (n - 1) ≤ v) : nl B v = n := by
  have a := (nl_le hB n v).mpr h1
  rcases h2 with rfl | h2
  · omega
  · rcases Nat.lt_or_ge (nl B v) n with q | q
    · have b := (nl_le hB (n - 1) v).mp (by omega)
      omega
    · omega
theorem nl_lt_iff {B : Nat} (hB : 1 < B) (n v : Nat) : n < nl B v ↔ B ^ n ≤ v := by
  have := nl_le hB n v
  omega
theorem nl_mono {B : Nat} (hB : 1 < B) {a b : Nat} (h : a ≤ b) : nl B a ≤ nl B b := by
  rw [nl_le hB]
  have := (nl_le hB (nl B b) b).mp (Nat.le_refl _)
  omega
