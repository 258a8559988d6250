/-! bits, shifts, division with signs -/
theorem HBp (n : Nat) : HB ^ n = 2 ^ (16 * n) := by rw [Nat.pow_mul]
theorem nlH_bits {v : Nat} (h : 0 < v) : nl 2 v = 16 * (nl HB v - 1) + nl 2 (hl v (nl HB v - 1)) := by
  have h1 : nl HB v ≠ 0 := fun z => by rw [nlH0] at z; omega
  have h2 := (nl_lt_iff HB1 (nl HB v - 1) v).mp (by omega)
  have h3 := (nl_le HB1 (nl HB v) v).mp (Nat.le_refl _)
  generalize hn : nl HB v - 1 = n at h2 ⊢
  have e : nl HB v = n + 1 := by omega
  rw [e] at h3
  have e2 := HBp n
  have hp : 0 < HB ^ n := powHB_pos n
  have h4 : hl v n = v / 2 ^ (16 * n) := by
    unfold hl
    rw [← e2]
    refine Nat.mod_eq_of_lt ?_
    rw [Nat.div_lt_iff_lt_mul hp, Nat.mul_comm, ← Nat.pow_succ]
    exact h3
  rw [h4, nl_div (B := 2) (by decide) (16 * n) v (by rw [← e2]; exact h2)]
  omega
theorem shr1 {n : Nat} (h : n < 2147483648) : nI n >>> ((1 : Int32) &&& 31) = nI (n / 2) := pk_shrN h _ 1 rfl
theorem k_bits_loop {G : SH} {M : MS} {Q : Int32 → MS → Prop} : ∀ (n x c : Nat), x < 65536 → nl 2 x < n → Q (nI (c + nl 2 x)) M → w_X11_bits_43 G Q n (nI x) (nI c) M
  | 0, x, c, _, h, _ => absurd h (Nat.not_lt_zero _)
  | n + 1, x, c, hx, h, hQ => by
    rw [w_X11_bits_43, nI_le0 (by omega), shr1 (by omega), nI_1]
    refine ⟨fun z => ?_, fun z y ey w ew => ?_⟩
    · rw [z, nl_0] at hQ; exact hQ
    · have e := nl_pos (B := 2) (by decide) (show 0 < x by omega)
      rw [ey, ew]
      refine k_bits_loop n (x / 2) (c + 1) (by omega) (by omega) ?_
      rw [e] at hQ
      rw [show c + 1 + nl 2 (x / 2) = c + (nl 2 (x / 2) + 1) by omega]
      exact hQ
theorem k_bits {G : SH} {M : MS} {K : KV} {a : Nat} {f : Nat → Int} (hI : KI G M K f) (ha : a < 40) {Q : Int32 → MS → Prop} (hQ : Q (nI (nl 2 (f a).natAbs)) M) : w_X11_bits G (kO K) (nI a) M Q := by
  unfold w_X11_bits
  obtain ⟨⟨e0, e1, e2⟩, ⟨g0, g1, g2⟩, n1, n2, n3⟩ := id hI.1
  have sa := hI.2 a ha
  have a3 := sa.1.2.2
  rw [e1, e0, g1, g0, cl (c := a) (by omega), sa.1.1, nI_eq0 (by omega), nlH0]
  refine ⟨vp_in_nI ha (by decide), fun z => ⟨vp_in_nI ha (by decide), ?_⟩, fun z => ?_⟩
  · have hp : 0 < (f a).natAbs := by omega
    have hn0 : nl HB (f a).natAbs ≠ 0 := fun q => z (nlH0.mp q)
    obtain ⟨n, hn⟩ : ∃ n, nl HB (f a).natAbs = n + 1 := ⟨nl HB (f a).natAbs - 1, by omega⟩
    have hb := nlH_bits hp
    have ed := mA_hd (sa.hl (i := n) (by omega))
    have lh := hl_lt (f a).natAbs n
    rw [hn] at hb
    rw [hn, ixH, show 260 * a + (n + 1) = 260 * a + n + 1 from rfl, nI_pred, nI_pred, cl (by omega), ed, show (16 : Int32) = nI 16 from rfl, pk_mul]
    refine ⟨vp_in_nI (by omega) (by decide), fun x ex => ⟨vp_in_nI ha (by decide), fun y ey => ⟨nl 2 (hl (f a).natAbs n) + 1, ?_⟩⟩⟩
    rw [ex, ey]
    refine k_bits_loop _ _ _ lh (by omega) ?_
    rw [Nat.add_sub_cancel] at hb
    rw [← hb]
    exact hQ
  · rw [z, nl_0] at hQ; exact hQ
theorem shr4 {n : Nat} (h : n < 2147483648) : nI n >>> ((4 : Int32) &&& 31) = nI (n / 16) := pk_shrN h _ 4 rfl
theorem and15 {n : Nat} (h : n < 2147483648) : nI n &&& (15 : Int32) = nI (n % 16) := pk_andN (by omega) 4 rfl
theorem and1 {n : Nat} (h : n < 2147483648) : nI n &&& (1 : Int32) = nI (n % 2) := pk_andN (by omega) 1 rfl
theorem shrV {n k : Nat} (h : n < 2147483648) (hk : k < 32) : nI n >>> (nI k &&& 31) = nI (n / 2 ^ k) := pk_shrN h _ k (s_l k hk)
theorem bit_hl {v k : Nat} : hl v (k / 16) / 2 ^ (k % 16) % 2 = v / 2 ^ k % 2 := by
  unfold hl
  have e : HB = 2 ^ (k % 16) * 2 ^ (16 - k % 16) := by
    rw [← Nat.pow_add]
    show 2 ^ 16 = _
    congr 1
    omega
  have e2 : 2 ^ (16 - k % 16) = 2 * 2 ^ (15 - k % 16) := by
    rw [show 16 - k % 16 = (15 - k % 16) + 1 by omega, Nat.pow_succ, Nat.mul_comm]
  have e3 : 2 ^ k = HB ^ (k / 16) * 2 ^ (k % 16) := by
    rw [HBp, ← Nat.pow_add]
    congr 1
    omega
  have e4 : ∀ y, y % HB / 2 ^ (k % 16) = y / 2 ^ (k % 16) % 2 ^ (16 - k % 16) := fun y => by
    conv => lhs; rw [e]
    exact Nat.mod_mul_right_div_self _ _ _
  rw [e4, e2, Nat.mod_mul_right_mod, e3, Nat.div_div_eq_div_mul]
theorem k_bit {G : SH} {M : MS} {K : KV} {a k : Nat} {f : Nat → Int} (hI : KI G M K f) (ha : a < 40) (hk : k < 2147483648) {Q : Int32 → MS → Prop} (hQ : Q (if (f a).natAbs / 2 ^ k % 2 = 1 then 1 else 0) M) : w_X11_bit G (kO K) (nI a) (nI k) M Q := by
  unfold w_X11_bit
  rw [shr4 hk]
  refine k_get hI.1 ha ((hI.2 a ha).ku 0) (by omega) (Nat.zero_le _) ?_
  have lh := hl_lt (f a).natAbs (k / 16)
  have ld : hl (f a).natAbs (k / 16) / 2 ^ (k % 16) ≤ hl (f a).natAbs (k / 16) := Nat.div_le_self _ _
  rw [and15 hk, shrV (by omega) (by omega), and1 (by omega), bit_hl, show (1 : Int32) = nI 1 from rfl, nI_eq (by omega) (by decide)]
  refine ⟨fun z => ?_, fun z => ?_⟩
  · rw [if_neg z] at hQ; exact hQ
  · rw [if_pos z] at hQ; exact hQ
theorem toInt_nI {x : Nat} (h : x < 4294967296) : (nI x).toInt = x ∨ (nI x).toInt = (x : Int) - 4294967296 := by
  have e : (nI x).toInt = (nI x).toBitVec.toInt := rfl
  rw [e, BitVec.toInt_eq_toNat_cond, pk_tn h]
  split
  · exact Or.inl rfl
  · exact Or.inr rfl
theorem div_mask {x r : Nat} (h : x < 4294967296) (hr : r < 16) : (nI x >>> (nI r &&& 31)) &&& 65535 = nI (x / 2 ^ r % 65536) := by
  have e : nI x >>> (nI r &&& 31) = iZ ((nI x).toInt / 2 ^ r) := by
    apply Int32.toInt_inj.mp
    have b1 := Int32.le_toInt (nI x)
    have b2 := Int32.toInt_lt (nI x)
    have hp : (0 : Int) < 2 ^ r := Int.pow_pos (by decide)
    have hp1 : (1 : Int) ≤ 2 ^ r := hp
    rw [pk_shr _ _ r (s_l r (by omega)), Int.shiftRight_eq_div_pow, iZ_toInt]
    · simp
    · rw [Int.le_ediv_iff_mul_le hp]
      have : (-2147483648 : Int) * 2 ^ r ≤ -2147483648 * 1 := Int.mul_le_mul_of_nonpos_left (by decide) hp1
      omega
    · rw [Int.ediv_lt_iff_lt_mul hp]
      have : (2147483648 : Int) * 1 ≤ 2147483648 * 2 ^ r := Int.mul_le_mul_of_nonneg_left hp1 (by decide)
      omega
  rw [e, iZ_mask]
  congr 1
  have hc : r = 0 ∨ r = 1 ∨ r = 2 ∨ r = 3 ∨ r = 4 ∨ r = 5 ∨ r = 6 ∨ r = 7 ∨ r = 8 ∨ r = 9 ∨ r = 10 ∨ r = 11 ∨ r = 12 ∨ r = 13 ∨ r = 14 ∨ r = 15 := by omega
  rcases toInt_nI h with q | q <;> rw [q] <;> rcases hc with h | h | h | h | h | h | h | h | h | h | h | h | h | h | h | h <;> subst h <;> simp only [Nat.reducePow, Int.reducePow] <;> omega
theorem dig_sh {y r : Nat} (hr : r < 16) : (y % 65536 + y / 65536 % 65536 * 65536) / 2 ^ r % 65536 = y / 2 ^ r % 65536 := by
  have hc : r = 0 ∨ r = 1 ∨ r = 2 ∨ r = 3 ∨ r = 4 ∨ r = 5 ∨ r = 6 ∨ r = 7 ∨ r = 8 ∨ r = 9 ∨ r = 10 ∨ r = 11 ∨ r = 12 ∨ r = 13 ∨ r = 14 ∨ r = 15 := by omega
  rcases hc with h | h | h | h | h | h | h | h | h | h | h | h | h | h | h | h <;> subst h <;> simp only [Nat.reducePow] <;> omega
theorem hv_dig {v e k : Nat} : (hl v (k + e / 16) + hl v (k + e / 16 + 1) * 65536) / 2 ^ (e % 16) % 65536 = hl (v / 2 ^ e) k := by
  have a1 : hl v (k + e / 16 + 1) = v / HB ^ (k + e / 16) / 65536 % 65536 := by
    unfold hl
    rw [Nat.pow_succ, ← Nat.div_div_eq_div_mul]
  have a0 : hl v (k + e / 16) = v / HB ^ (k + e / 16) % 65536 := rfl
  rw [a1, a0, dig_sh (Nat.mod_lt _ (by decide))]
  unfold hl
  show _ % HB = _
  congr 1
  rw [Nat.div_div_eq_div_mul, Nat.div_div_eq_div_mul]
  congr 1
  rw [HBp, HBp, ← Nat.pow_add, ← Nat.pow_add]
  congr 1
  omega
theorem sg_iS {n : Nat} {z : Int} (hle : n ≤ z.natAbs) (hz : sg n (decide (z < 0)) ≠ 0) : iS z = iS (sg n (decide (z < 0))) := by
  unfold sg at hz ⊢
  by_cases q : z < 0
  · rw [decide_eq_true q, if_pos rfl] at hz ⊢
    rw [iS_neg q, iS_neg (by omega)]
  · rw [decide_eq_false q, if_neg (by decide)] at hz ⊢
    rw [iS_pos (by omega), iS_pos (by omega)]
theorem k_hv_loop {G : SH} {K : KV} {d a e : Nat} {f : Nat → Int} (hd' : d < 40) (ha : a < 40) (had : a ≠ d) (he : e < 1000000) {Q : MS → Prop} : ∀ (t k : Nat) (M : MS), k + t = nl HB (f a).natAbs - e / 16 → KX G M K d f → (∀ j, j < k → hd M K d j = hl ((f a).natAbs / 2 ^ e) j) → (∀ N, KF K M N → KI G N K (setK f d (sg ((f a).natAbs / 2 ^ e) (decide (f a < 0)))) → Q N) → w_X11_halved_22 G Q (t + 1) (kO K) (nI d) (nI a) (nI (e / 16)) (nI (e % 16)) (nI (nl HB (f a).natAbs)) (nI k) M
  | 0, k, M, hk, hX, hj, hQ => by
    obtain ⟨⟨e0, e1, e2⟩, ⟨g0, g1, g2⟩, n1, n2, n3⟩ := id hX.1
    have sa := hX.2 a ha had
    have a3 := sa.1.2.2
    have hvl : (f a).natAbs / 2 ^ e < HB ^ (nl HB (f a).natAbs - e / 16) := by
      have h1 := (nl_le HB1 (nl HB (f a).natAbs) (f a).natAbs).mp (Nat.le_refl _)
      rw [Nat.div_lt_iff_lt_mul (Nat.pow_pos (by decide))]
      refine Nat.lt_of_lt_of_le h1 ?_
      rw [HBp, HBp, ← Nat.pow_add]
      exact Nat.pow_le_pow_right (by decide) (by omega)
    have fin : w_X11_trim G (kO K) (nI d) (nI (nl HB (f a).natAbs - e / 16)) (iS (f a)) M (fun N => Q N) := by
      refine k_trim (sg ((f a).natAbs / 2 ^ e) (decide (f a < 0))) hX hd' (c := nl HB (f a).natAbs - e / 16) (by omega) rfl ?_ ?_ ?_ ?_ hQ
      · rw [sg_abs]
        have := (nl_le HB1 (nl HB (f a).natAbs - e / 16) _).mpr hvl
        omega
      · rw [sg_abs, vl_congr (g := hl ((f a).natAbs / 2 ^ e)) (fun j h => hj j (by omega)), vl_hl, Nat.mod_eq_of_lt hvl]
      · exact fun j h => by rw [hj j (by omega)]; exact hl_lt _ _
      · intro hz
        exact sg_iS (Nat.div_le_self _ _) hz
    rw [w_X11_halved_22, nI_add, nI_leI (by omega) (by omega), nI_leI (by omega) (by omega), e2, g2, cl (by omega), sa.1.2.1]
    refine ⟨fun _ => ⟨fun z => ⟨vp_in_nI ha (by decide), ?_⟩, fun z => ⟨vp_in_nI ha (by decide), ?_⟩⟩, fun z => absurd (by omega) z⟩
    · rw [show nl HB (f a).natAbs - e / 16 = 0 by omega] at fin
      exact fin
    · rw [pk_sub (by omega)]
      exact fin
  | t + 1, k, M, hk, hX, hj, hQ => by
    obtain ⟨⟨e0, e1, e2⟩, ⟨g0, g1, g2⟩, n1, n2, n3⟩ := id hX.1
    have sa := hX.2 a ha had
    have a3 := sa.1.2.2
    rw [w_X11_halved_22, nI_add, nI_leI (by omega) (by omega), nI_1]
    refine ⟨fun z => absurd z (by omega), fun _ => ?_⟩
    refine k_get hX.1 ha (sa.ku 0) (by omega) (Nat.zero_le _) (k_get hX.1 ha (sa.ku 0) (by omega) (Nat.zero_le _) ?_)
    have l0 := hl_lt (f a).natAbs (k + e / 16)
    have l1 := hl_lt (f a).natAbs (k + e / 16 + 1)
    have eor : nI (hl (f a).natAbs (k + e / 16)) ||| (nI (hl (f a).natAbs (k + e / 16 + 1)) <<< ((16 : Int32) &&& 31)) = nI (hl (f a).natAbs (k + e / 16) + hl (f a).natAbs (k + e / 16 + 1) * 65536) := by
      rw [pk_shlN _ 16 rfl (by omega), Int32.or_comm, Nat.mul_comm, fa_or_sum _ (by omega)]
      congr 1
      omega
    rw [ixH, e0, g0, cl (by omega), eor, div_mask (by omega) (by omega), hv_dig]
    refine ⟨vp_in_nI (by omega) (by decide), fun N eN x ex => ?_⟩
    have x1 : KX G N K d f := by rw [eN]; exact hX.wHx (by omega) _
    have f1 : KF K M N := by rw [eN]; exact KF.wH _
    have lh := hl_lt ((f a).natAbs / 2 ^ e) k
    rw [ex, nI_1]
    refine k_hv_loop hd' ha had he t (k + 1) N (by omega) x1 (fun j h => ?_) (fun P f2 hP => hQ P (f1.tr f2) hP)
    by_cases q : j = k
    · rw [q, eN, hd_wHs, u32_nI_lt (by omega)]
    · rw [eN, hd_wH (by omega)]; exact hj j (by omega)
theorem k_halved {G : SH} {M : MS} {K : KV} {d a e : Nat} {i : Int32} {f : Nat → Int} (hI : KI G M K f) (hd' : d < 40) (ha : a < 40) (had : a ≠ d) (he : e < 1000000) (hi : i = nI e) {Q : MS → Prop} (hQ : ∀ N, KF K M N → KI G N K (setK f d (sg ((f a).natAbs / 2 ^ e) (decide (f a < 0)))) → Q N) : w_X11_halved G (kO K) (nI d) (nI a) i M Q := by
  unfold w_X11_halved
  obtain ⟨⟨e0, e1, e2⟩, ⟨g0, g1, g2⟩, n1, n2, n3⟩ := id hI.1
  rw [hi, shr4 (by omega), and15 (by omega), e1, g1, cl (by omega), (hI.2 a ha).1.1]
  intro x ex y ey
  refine ⟨vp_in_nI ha (by decide), fun z ez => ⟨nl HB (f a).natAbs - e / 16 + 1, ?_⟩⟩
  rw [ex, ey, ez, ← nI_0]
  exact k_hv_loop hd' ha had he _ 0 M (by omega) (hI.x d) (fun j hj => absurd hj (Nat.not_lt_zero _)) hQ
theorem upH {v b i : Nat} (hb : b < 16) (hi : 0 < i) : (hl v i * 2 ^ b + hl v (i - 1) / 2 ^ (16 - b)) % 65536 = hl (v * 2 ^ b) i := by
  obtain ⟨k, rfl⟩ : ∃ k, i = k + 1 := ⟨i - 1, by omega⟩
  rw [Nat.add_sub_cancel]
  have e0 : hl v (k + 1) * 2 ^ b + hl v k / 2 ^ (16 - b) = (hl v (k + 1) * 65536 + hl v k) / 2 ^ (16 - b) := by
    have hp : 0 < 2 ^ (16 - b) := Nat.pow_pos (by decide)
    have e : 65536 = 2 ^ b * 2 ^ (16 - b) := by
      rw [← Nat.pow_add]
      show 2 ^ 16 = _
      congr 1
      omega
    rw [e, ← Nat.mul_assoc, Nat.add_comm (hl v (k + 1) * 2 ^ b * 2 ^ (16 - b)) (hl v k), Nat.add_mul_div_right _ _ hp, Nat.add_comm]
  rw [e0]
  unfold hl
  have a1 : v / HB ^ (k + 1) % HB * 65536 + v / HB ^ k % HB = v / HB ^ k % (HB * HB) := by
    rw [Nat.mod_mul, Nat.pow_succ, ← Nat.div_div_eq_div_mul, Nat.add_comm, Nat.mul_comm]
  rw [a1]
  have hB : HB * HB = 2 ^ (16 - b) * (HB * 2 ^ b) := by
    show 2 ^ 16 * 2 ^ 16 = 2 ^ (16 - b) * (2 ^ 16 * 2 ^ b)
    rw [← Nat.pow_add, ← Nat.pow_add, ← Nat.pow_add]
    congr 1
    omega
  show _ % HB = _
  rw [hB, Nat.mod_mul_right_div_self, Nat.mod_mul_right_mod]
  have hp : 0 < 2 ^ b := Nat.pow_pos (by decide)
  have e3 : HB ^ (k + 1) = HB ^ k * 2 ^ (16 - b) * 2 ^ b := by
    rw [Nat.pow_succ, Nat.mul_assoc, ← Nat.pow_add]
    show _ * 2 ^ 16 = _
    congr 2
    omega
  rw [e3, Nat.mul_div_mul_right _ _ hp, Nat.div_div_eq_div_mul]
theorem hl_up {x W t : Nat} : hl (x * HB ^ W) (t + W) = hl x t := by
  unfold hl
  rw [Nat.pow_add, Nat.mul_div_mul_right _ _ (powHB_pos W)]
theorem hl_low {x W k : Nat} (h : k < W) : hl (x * HB ^ W) k = 0 := by
  unfold hl
  obtain ⟨c, rfl⟩ : ∃ c, W = k + (c + 1) := ⟨W - k - 1, by omega⟩
  rw [Nat.pow_add, Nat.mul_comm (HB ^ k), ← Nat.mul_assoc, Nat.mul_div_cancel _ (powHB_pos k), Nat.pow_succ, ← Nat.mul_assoc]
  exact Nat.mul_mod_left _ _
theorem dbl_eq (v e : Nat) : v * 2 ^ (e % 16) * HB ^ (e / 16) = v * 2 ^ e := by
  rw [Nat.mul_assoc, HBp, ← Nat.pow_add]
  congr 2
  omega
theorem k_dz_loop {G : SH} {K : KV} {d e m : Nat} {f : Nat → Int} {z : Int} {s : Int32} (hd' : d < 40) (he : e < 100000) (hm : m + e / 16 + 1 ≤ 259) (hz : nl HB z.natAbs ≤ m + e / 16 + 1) (hs : z ≠ 0 → s = iS z) (hlow : ∀ k, k < e / 16 → hl z.natAbs k = 0) {Q : MS → Prop} : ∀ (t i : Nat) (M : MS), i + t = e / 16 → KX G M K d f → (∀ k, k < i ∨ e / 16 ≤ k → k < m + e / 16 + 1 → hd M K d k = hl z.natAbs k) → (∀ N, KF K M N → KI G N K (setK f d z) → Q N) → w_X11_doubled_105 G Q (t + 1) (kO K) (nI d) (nI (e / 16)) (nI m) s (nI i) M
  | 0, i, M, hi, hX, hk, hQ => by
    have h1 : i = e / 16 := by omega
    rw [w_X11_doubled_105, nI_leI (by omega) (by omega), nI_add, nI_1]
    refine ⟨fun _ => ?_, fun q => absurd (by omega) q⟩
    refine k_trim z hX hd' (c := m + e / 16 + 1) (by omega) rfl (by omega) ?_ (fun k h => by rw [hk k (by omega) h]; exact hl_lt _ _) hs hQ
    rw [vl_congr (g := hl z.natAbs) (fun k h => hk k (by omega) h), vl_hl, modH_all hz]
  | t + 1, i, M, hi, hX, hk, hQ => by
    obtain ⟨⟨e0, e1, e2⟩, ⟨g0, g1, g2⟩, n1, n2, n3⟩ := id hX.1
    rw [w_X11_doubled_105, nI_leI (by omega) (by omega), ixH, e0, g0, cl (by omega)]
    refine ⟨fun q => absurd q (by omega), fun _ => ⟨vp_in_nI (by omega) (by decide), fun N eN x ex => ?_⟩⟩
    have x1 : KX G N K d f := by rw [eN]; exact hX.wHx (by omega) _
    have f1 : KF K M N := by rw [eN]; exact KF.wH _
    rw [ex, nI_1]
    refine k_dz_loop hd' he hm hz hs hlow t (i + 1) N (by omega) x1 (fun k h h2 => ?_) (fun P f2 hP => hQ P (f1.tr f2) hP)
    by_cases q : k = i
    · rw [q, eN, hd_wHs, hlow i (by omega)]; rfl
    · rw [eN, hd_wH (by omega)]; exact hk k (by omega) h2
theorem k_db_loop {G : SH} {K : KV} {d a e : Nat} {f : Nat → Int} (hd' : d < 40) (ha : a < 40) (had : a ≠ d) (he : e < 100000) (hm : nl HB (f a).natAbs + e / 16 + 1 ≤ 259) {Q : MS → Prop} : ∀ (J : Nat) (M : MS), J ≤ nl HB (f a).natAbs + 1 → KX G M K d f → (∀ t, J ≤ t → t < nl HB (f a).natAbs + 1 → hd M K d (t + e / 16) = hl ((f a).natAbs * 2 ^ (e % 16)) t) → (∀ N, KF K M N → KI G N K (setK f d (f a * ((2 ^ e : Nat) : Int))) → Q N) → w_X11_doubled_31 G Q (J + 1) (kO K) (nI d) (nI a) (nI (e / 16)) (nI (e % 16)) (nI (nl HB (f a).natAbs)) (iS (f a)) (nI J - 1) M
  | 0, M, hJ, hX, hk, hQ => by
    rw [w_X11_doubled_31]
    refine ⟨fun _ => ⟨e / 16 + 1, ?_⟩, fun q => absurd (by decide) q⟩
    have en : (f a * ((2 ^ e : Nat) : Int)).natAbs = (f a).natAbs * 2 ^ (e % 16) * HB ^ (e / 16) := by rw [Int.natAbs_mul, Int.natAbs_natCast, dbl_eq]
    rw [← nI_0]
    refine k_dz_loop hd' he hm ?_ (fun _ => ?_) (fun k h => by rw [en]; exact hl_low h) _ 0 M (by omega) hX (fun k h h2 => ?_) hQ
    · rw [Int.natAbs_mul, Int.natAbs_natCast, nl_le HB1]
      have h1 := (nl_le HB1 (nl HB (f a).natAbs) (f a).natAbs).mp (Nat.le_refl _)
      rw [show nl HB (f a).natAbs + e / 16 + 1 = nl HB (f a).natAbs + (e / 16 + 1) by omega, Nat.pow_add]
      refine Nat.mul_lt_mul_of_lt_of_le h1 ?_ (powHB_pos _)
      rw [HBp]
      exact Nat.pow_le_pow_right (by decide) (by omega)
    · have hp : (0 : Int) < ((2 ^ e : Nat) : Int) := Int.natCast_pos.mpr (Nat.pow_pos (by decide))
      rw [← iS_mul, iS_pos hp, Int32.mul_one]
    · rw [en]
      obtain ⟨t, rfl⟩ : ∃ t, k = t + e / 16 := ⟨k - e / 16, by omega⟩
      rw [hl_up]
      exact hk t (Nat.zero_le _) (by omega)
  | k + 1, M, hJ, hX, hk, hQ => by
    obtain ⟨⟨e0, e1, e2⟩, ⟨g0, g1, g2⟩, n1, n2, n3⟩ := id hX.1
    have sa := hX.2 a ha had
    rw [nI_pred, w_X11_doubled_31]
    refine ⟨fun q => absurd q (nI_lt0 (by omega)), fun _ => ?_⟩
    refine k_get hX.1 ha (sa.ku 0) (by omega) (Nat.zero_le _) ?_
    have l0 := hl_lt (f a).natAbs k
    have lr : e % 16 < 16 := Nat.mod_lt _ (by decide)
    have lp : 2 ^ (e % 16) ≤ 2 ^ 15 := Nat.pow_le_pow_right (by decide) (by omega)
    have lm : hl (f a).natAbs k * 2 ^ (e % 16) ≤ 65535 * 2 ^ 15 := Nat.mul_le_mul (by omega) lp
    have lpp : 65535 * 2 ^ 15 = 2147450880 := by decide
    have esh : nI (hl (f a).natAbs k) <<< (nI (e % 16) &&& 31) = nI (hl (f a).natAbs k * 2 ^ (e % 16)) := pk_shlN _ (e % 16) (s_l _ (by omega)) (by omega)
    have go : ∀ (w : Nat) (N : MS), w < 4294967296 → w % 65536 = hl ((f a).natAbs * 2 ^ (e % 16)) k → N = wA M (kH K) (upd (mA M (kH K)) (260 * d + (k + e / 16)) (nI (w % 65536))) → w_X11_doubled_31 G Q (k + 1) (kO K) (nI d) (nI a) (nI (e / 16)) (nI (e % 16)) (nI (nl HB (f a).natAbs)) (iS (f a)) (nI k - 1) N := by
      intro w N hw hw2 eN
      have x1 : KX G N K d f := by rw [eN]; exact hX.wHx (by omega) _
      have f1 : KF K M N := by rw [eN]; exact KF.wH _
      refine k_db_loop hd' ha had he hm k N (by omega) x1 (fun t h h2 => ?_) (fun P f2 hP => hQ P (f1.tr f2) hP)
      by_cases q : t = k
      · rw [q, eN, hd_wHs, u32_nI_lt (by omega), hw2]
      · rw [eN, hd_wH (by omega)]; exact hk t (by omega) h2
    have hsub : nI k + -1 = nI k - 1 := (Int32.sub_eq_add_neg ..).symm
    rw [nI_le0 (by omega), ixH, ixH, nI_add, Nat.add_assoc, e0, g0, cl (c := 260 * d + (k + e / 16)) (by omega), esh, hsub]
    refine ⟨fun q => ⟨vp_in_nI (by omega) (by decide), fun N eN x ex => ?_⟩, fun q => ?_⟩
    · rw [show (0 : Int32) = nI 0 from rfl, fa_or, Nat.or_zero, nx_mod] at eN
      rw [ex]
      refine go _ N (by omega) ?_ eN
      rw [q]
      unfold hl
      rw [Nat.pow_zero, Nat.div_one, Nat.div_one]
      show _ % HB = _
      rw [Nat.mod_mul_mod]
    · obtain ⟨c, rfl⟩ : ∃ c, k = c + 1 := ⟨k - 1, by omega⟩
      have ed := mA_hd (sa.hl (i := c) (by omega))
      have l1 := hl_lt (f a).natAbs c
      have e16 : (16 : Int32) - nI (e % 16) = nI (16 - e % 16) := by rw [show (16 : Int32) = nI 16 from rfl, pk_sub (by omega)]
      have hdv : hl (f a).natAbs c / 2 ^ (16 - e % 16) < 2 ^ (e % 16) := by
        rw [Nat.div_lt_iff_lt_mul (Nat.pow_pos (by decide)), ← Nat.pow_add, show e % 16 + (16 - e % 16) = 16 by omega]
        exact l1
      rw [show 260 * a + (c + 1) = 260 * a + c + 1 from rfl, nI_pred, cl (by omega), ed, e16, shrV (by omega) (by omega)]
      refine ⟨vp_in_nI (by omega) (by decide), vp_in_nI (by omega) (by decide), fun N eN x ex => ?_⟩
      rw [Nat.mul_comm (hl (f a).natAbs (c + 1)) (2 ^ (e % 16)), fa_or_sum _ hdv, nx_mod, Nat.mul_comm (2 ^ (e % 16)) (hl (f a).natAbs (c + 1))] at eN
      rw [ex]
      refine go _ N (by omega) ?_ eN
      have := upH (v := (f a).natAbs) (b := e % 16) (i := c + 1) lr (by omega)
      rw [Nat.add_sub_cancel] at this
      exact this
theorem k_doubled {G : SH} {M : MS} {K : KV} {d a e : Nat} {i : Int32} {f : Nat → Int} (hI : KI G M K f) (hd' : d < 40) (ha : a < 40) (had : a ≠ d) (he : e < 100000) (hm : nl HB (f a).natAbs + e / 16 + 1 ≤ 259) (hi : i = nI e) {Q : MS → Prop} (hQ : ∀ N, KF K M N → KI G N K (setK f d (f a * ((2 ^ e : Nat) : Int))) → Q N) : w_X11_doubled G (kO K) (nI d) (nI a) i M Q := by
  unfold w_X11_doubled
  obtain ⟨⟨e0, e1, e2⟩, ⟨g0, g1, g2⟩, n1, n2, n3⟩ := id hI.1
  rw [hi, shr4 (by omega), and15 (by omega), e1, g1, e2, g2, cl (by omega), (hI.2 a ha).1.1, (hI.2 a ha).1.2.1]
  intro x ex y ey
  refine ⟨vp_in_nI ha (by decide), fun z ez => ⟨vp_in_nI ha (by decide), fun w ew => ⟨nl HB (f a).natAbs + 1 + 1, ?_⟩⟩⟩
  rw [ex, ey, ez, ew]
  have := k_db_loop (Q := Q) hd' ha had he hm (nl HB (f a).natAbs + 1) M (Nat.le_refl _) (hI.x d) (fun t h h2 => absurd h (by omega)) hQ
  rw [nI_pred] at this
  exact this
