/-! Newton's steps for roots: plain facts. r is the root: r^K ≤ a < (r+1)^K -/
theorem amgm (r g : Nat) : ∀ K : Nat, (K + 1) * r * g ^ K ≤ K * g ^ (K + 1) + r ^ (K + 1)
  | 0 => by simp
  | K + 1 => by
    have ih := amgm r g K
    have h1 : r * ((K + 1) * r * g ^ K) ≤ r * (K * g ^ (K + 1) + r ^ (K + 1)) := Nat.mul_le_mul_left _ ih
    have e1 : r * ((K + 1) * r * g ^ K) = (K + 1) * (r * r) * g ^ K := by grind
    have e2 : r * (K * g ^ (K + 1) + r ^ (K + 1)) = K * (r * g ^ (K + 1)) + r ^ (K + 1 + 1) := by rw [Nat.pow_succ r (K + 1)]; grind
    have sq : 2 * (r * g) ≤ g * g + r * r := by
      rcases Nat.le_total r g with h | h
      · obtain ⟨d, rfl⟩ : ∃ d, g = r + d := ⟨g - r, by omega⟩
        have : (r + d) * (r + d) + r * r = 2 * (r * (r + d)) + d * d := by grind
        omega
      · obtain ⟨d, rfl⟩ : ∃ d, r = g + d := ⟨r - g, by omega⟩
        have : g * g + (g + d) * (g + d) = 2 * ((g + d) * g) + d * d := by grind
        omega
    have h2 : (K + 1) * g ^ K * (2 * (r * g)) ≤ (K + 1) * g ^ K * (g * g + r * r) := Nat.mul_le_mul_left _ sq
    have e3 : (K + 1) * g ^ K * (2 * (r * g)) = 2 * ((K + 1) * (r * g ^ (K + 1))) := by rw [Nat.pow_succ]; grind
    have e4 : (K + 1) * g ^ K * (g * g + r * r) = (K + 1) * g ^ (K + 1 + 1) + (K + 1) * (r * r) * g ^ K := by rw [Nat.pow_succ g (K + 1), Nat.pow_succ]; grind
    have e5 : (K + 1 + 1) * r * g ^ (K + 1) = (K + 1) * (r * g ^ (K + 1)) + r * g ^ (K + 1) := by grind
    have e6 : (K + 1) * (r * g ^ (K + 1)) = K * (r * g ^ (K + 1)) + r * g ^ (K + 1) := by grind
    rw [e1, e2] at h1
    rw [e3, e4] at h2
    rw [e5]
    omega
/-- a step from g, K at least 1 (the root is the (K+1)-th) -/
def nst (a K g : Nat) : Nat := (K * g + a / g ^ K) / (K + 1)
theorem nst_ge {a K g r : Nat} (hg : 0 < g) (hr : r ^ (K + 1) ≤ a) : r ≤ nst a K g := by
  unfold nst
  rw [Nat.le_div_iff_mul_le (by omega)]
  have hp : 0 < g ^ K := Nat.pow_pos hg
  rcases Nat.le_total (r * (K + 1)) (K * g) with h | h
  · exact Nat.le_trans h (Nat.le_add_right _ _)
  · have key : r * (K + 1) - K * g ≤ a / g ^ K := by
      rw [Nat.le_div_iff_mul_le hp, Nat.sub_mul]
      have h1 := amgm r g K
      have e1 : (K + 1) * r * g ^ K = r * (K + 1) * g ^ K := by grind
      have e2 : K * g ^ (K + 1) = K * g * g ^ K := by rw [Nat.pow_succ]; grind
      omega
    omega
theorem nst_lt {a K g r : Nat} (hg : r < g) (hr : a < (r + 1) ^ (K + 1)) : nst a K g < g ∧ (K + 1) * nst a K g ≤ K * g + r := by
  have hp : 0 < g ^ K := Nat.pow_pos (by omega)
  have hq : a / g ^ K ≤ r := by
    have : a / g ^ K < r + 1 := by
      rw [Nat.div_lt_iff_lt_mul hp]
      have h1 : (r + 1) ^ (K + 1) ≤ g ^ K * (r + 1) := by
        rw [Nat.pow_succ]
        exact Nat.mul_le_mul_right _ (Nat.pow_le_pow_left (by omega) _)
      exact Nat.lt_of_lt_of_le hr (by rw [Nat.mul_comm]; exact h1)
    omega
  have hle : (K + 1) * nst a K g ≤ K * g + r := by
    unfold nst
    have := Nat.mul_div_le (K * g + a / g ^ K) (K + 1)
    generalize a / g ^ K = q at *
    omega
  refine ⟨?_, hle⟩
  have h2 : (K + 1) * nst a K g < (K + 1) * g := by
    have : (K + 1) * g = K * g + g := by grind
    omega
  exact Nat.lt_of_mul_lt_mul_left h2
theorem nst_eq {a K r : Nat} (h0 : 0 < r) (hr : r ^ (K + 1) ≤ a) : r ≤ nst a K r := nst_ge h0 hr
/-- how many steps are left, at a distance D from the root -/
def PH (K D : Nat) : Nat := if D = 0 then 0 else K * nl 2 D + K * (D - 2 ^ (nl 2 D - 1)) / 2 ^ (nl 2 D - 1) + 1
theorem PH_lt {K D E : Nat} (hK : 0 < K) (hD : 0 < D) (h : K * E + D ≤ K * D) : PH K E < PH K D := by
  unfold PH
  rw [if_neg (show ¬ D = 0 by omega)]
  by_cases hE : E = 0
  · rw [if_pos hE]; exact Nat.succ_pos _
  · rw [if_neg hE]
    have hDE : E ≤ D := Nat.le_of_mul_le_mul_left (by omega) hK
    have hm := nl_mono (B := 2) (by decide) hDE
    have d1 := (nl_le (B := 2) (by decide) (nl 2 E) E).mp (Nat.le_refl _)
    have d2 : 2 ^ (nl 2 D - 1) ≤ D := (nl_lt_iff (B := 2) (by decide) (nl 2 D - 1) D).mp (by
      have : 0 < nl 2 D := (nl_lt_iff (B := 2) (by decide) 0 D).mpr (by rw [Nat.pow_zero]; omega)
      omega)
    have d3 : 2 ^ (nl 2 E - 1) ≤ E := (nl_lt_iff (B := 2) (by decide) (nl 2 E - 1) E).mp (by
      have : 0 < nl 2 E := (nl_lt_iff (B := 2) (by decide) 0 E).mpr (by rw [Nat.pow_zero]; omega)
      omega)
    have hnE : 0 < nl 2 E := (nl_lt_iff (B := 2) (by decide) 0 E).mpr (by rw [Nat.pow_zero]; omega)
    rcases Nat.eq_or_lt_of_le hm with e | e
    · rw [e] at d3 ⊢
      have hp : 0 < 2 ^ (nl 2 D - 1) := Nat.pow_pos (by decide)
      generalize 2 ^ (nl 2 D - 1) = P at *
      have h1 : K * (E - P) + P ≤ K * (D - P) := by
        rw [Nat.mul_sub, Nat.mul_sub]
        have : K * P ≤ K * E := Nat.mul_le_mul_left _ d3
        omega
      have h2 := Nat.div_le_div_right (c := P) h1
      rw [Nat.add_div_right _ hp] at h2
      omega
    · have hp : 0 < 2 ^ (nl 2 E - 1) := Nat.pow_pos (by decide)
      have h1 : K * (E - 2 ^ (nl 2 E - 1)) / 2 ^ (nl 2 E - 1) < K := by
        rw [Nat.div_lt_iff_lt_mul hp]
        refine Nat.mul_lt_mul_of_pos_left ?_ hK
        have e2 : 2 ^ nl 2 E = 2 ^ (nl 2 E - 1) * 2 := by rw [← Nat.pow_succ]; congr 1; omega
        omega
      have h3 : K * (nl 2 E + 1) ≤ K * nl 2 D := Nat.mul_le_mul_left _ e
      rw [Nat.mul_add, Nat.mul_one] at h3
      generalize K * (E - 2 ^ (nl 2 E - 1)) / 2 ^ (nl 2 E - 1) = q1 at *
      generalize K * (D - 2 ^ (nl 2 D - 1)) / 2 ^ (nl 2 D - 1) = q2 at *
      omega
theorem PH_le {K D b : Nat} (hD : D ≤ 2 ^ b) : PH K D ≤ K * (b + 2) + 1 := by
  unfold PH
  by_cases h : D = 0
  · rw [if_pos h]; omega
  · rw [if_neg h]
    have hn : nl 2 D ≤ b + 1 := (nl_le (B := 2) (by decide) (b + 1) D).mpr (by rw [Nat.pow_succ]; have : 0 < 2 ^ b := Nat.pow_pos (by decide); omega)
    have hnD : 0 < nl 2 D := (nl_lt_iff (B := 2) (by decide) 0 D).mpr (by rw [Nat.pow_zero]; omega)
    have d1 := (nl_le (B := 2) (by decide) (nl 2 D) D).mp (Nat.le_refl _)
    have hp : 0 < 2 ^ (nl 2 D - 1) := Nat.pow_pos (by decide)
    have h1 : K * (D - 2 ^ (nl 2 D - 1)) / 2 ^ (nl 2 D - 1) ≤ K := by
      refine Nat.div_le_of_le_mul ?_
      rw [Nat.mul_comm _ K]
      refine Nat.mul_le_mul_left _ ?_
      have e2 : 2 ^ nl 2 D = 2 ^ (nl 2 D - 1) * 2 := by rw [← Nat.pow_succ]; congr 1; omega
      omega
    have h3 : K * nl 2 D ≤ K * (b + 1) := Nat.mul_le_mul_left _ hn
    have e : K * (b + 2) = K * (b + 1) + K := by grind
    generalize K * (D - 2 ^ (nl 2 D - 1)) / 2 ^ (nl 2 D - 1) = q1 at *
    omega
theorem root_one {a k r s : Nat} (hk : 0 < k) (h1 : r ^ k ≤ a) (h2 : a < (r + 1) ^ k) (h3 : s ^ k ≤ a) (h4 : a < (s + 1) ^ k) : r = s := by
  rcases Nat.lt_trichotomy r s with q | q | q
  · have := Nat.pow_le_pow_left (show r + 1 ≤ s by omega) k
    omega
  · exact q
  · have := Nat.pow_le_pow_left (show s + 1 ≤ r by omega) k
    omega
theorem root_ex (a : Nat) {k : Nat} (hk : 0 < k) : ∃ r, r ^ k ≤ a ∧ a < (r + 1) ^ k := by
  induction a with
  | zero => exact ⟨0, by rw [Nat.zero_pow hk]; exact Nat.le_refl _, by rw [Nat.zero_add, Nat.one_pow]; decide⟩
  | succ a ih =>
    obtain ⟨r, h1, h2⟩ := ih
    by_cases c : (r + 1) ^ k ≤ a + 1
    · refine ⟨r + 1, c, ?_⟩
      have : (r + 1) ^ k < (r + 1 + 1) ^ k := Nat.pow_lt_pow_left (by omega) (by omega)
      omega
    · exact ⟨r, by omega, by omega⟩
