/-! LEHMER's way: plain facts -/
theorem lh_pos {E F T u v a b U V : Int} (hu : u = U * T + a) (hv : v = V * T + b) (ha : 0 ≤ a) (ha2 : a < T) (hb : 0 ≤ b) (hb2 : b < T) (hs : (E ≤ 0 ∧ 0 ≤ F) ∨ (0 ≤ E ∧ F ≤ 0)) {k : Int} (h1 : k ≤ E * (U + 1) + F * V) (h2 : k ≤ E * U + F * (V + 1)) : k * T ≤ E * u + F * v := by
  rcases hs with ⟨e, f⟩ | ⟨e, f⟩
  · have a1 : E * T ≤ E * a := Int.mul_le_mul_of_nonpos_left e (by omega)
    have a2 : 0 ≤ F * b := Int.mul_nonneg f hb
    have a3 : k * T ≤ (E * (U + 1) + F * V) * T := Int.mul_le_mul_of_nonneg_right h1 (by omega)
    have a4 : E * u + F * v = (E * (U + 1) + F * V) * T - E * T + E * a + F * b := by rw [hu, hv]; grind
    omega
  · have a1 : F * T ≤ F * b := Int.mul_le_mul_of_nonpos_left f (by omega)
    have a2 : 0 ≤ E * a := Int.mul_nonneg e ha
    have a3 : k * T ≤ (E * U + F * (V + 1)) * T := Int.mul_le_mul_of_nonneg_right h2 (by omega)
    have a4 : E * u + F * v = (E * U + F * (V + 1)) * T - F * T + E * a + F * b := by rw [hu, hv]; grind
    omega
/-- the cofactors' loop, as the document tells it, at most n turns -/
def LC : Nat → Int → Int → Int → Int → Int → Int → Int × Int × Int × Int
  | 0, _, _, A, B, C, D => (A, B, C, D)
  | n + 1, U, V, A, B, C, D => if V + C = 0 ∨ V + D = 0 ∨ (U + A) / (V + C) ≠ (U + B) / (V + D) then (A, B, C, D) else LC n V (U - (U + A) / (V + C) * V) C D (A - (U + A) / (V + C) * C) (B - (U + A) / (V + C) * D)
/-- what holds at each turn: U0, V0 the highest bits at the start, x and y what u and v have become -/
def LI (u v U0 V0 : Nat) (U V A B C D : Int) (x y : Nat) : Prop :=
  (U = A * U0 + B * V0 ∧ V = C * U0 + D * V0) ∧ (0 ≤ U + A ∧ 0 ≤ U + B ∧ 0 ≤ V + C ∧ 0 ≤ V + D) ∧ ((0 ≤ A ∧ B ≤ 0 ∧ C ≤ 0 ∧ 0 ≤ D) ∨ (A ≤ 0 ∧ 0 ≤ B ∧ 0 ≤ C ∧ D ≤ 0)) ∧ (A * D - B * C = 1 ∨ A * D - B * C = -1) ∧
  (-2147483648 ≤ A ∧ A ≤ 2147483648 ∧ -2147483648 ≤ B ∧ B ≤ 2147483648 ∧ -2147483648 ≤ C ∧ C ≤ 2147483648 ∧ -2147483648 ≤ D ∧ D ≤ 2147483648) ∧
  ((x : Int) = A * u + B * v ∧ (y : Int) = C * u + D * v) ∧ Nat.gcd x y = Nat.gcd u v ∧ ((A = 1 ∧ B = 0 ∧ C = 0 ∧ D = 1) ∨ (B ≠ 0 ∧ 1 ≤ V0 ∧ x ≤ v ∧ y < x)) ∧ (U + A ≤ 4294967296 ∧ U + B ≤ 4294967296 ∧ V + C ≤ 4294967296 ∧ V + D ≤ 4294967296)
theorem LI_start {u v U0 V0 : Nat} (h1 : V0 ≤ U0) (h2 : U0 < 4294967296) : LI u v U0 V0 U0 V0 1 0 0 1 u v := by
  refine ⟨⟨by omega, by omega⟩, ⟨by omega, by omega, by omega, by omega⟩, Or.inl ⟨by omega, by omega, by omega, by omega⟩, Or.inl (by decide), ⟨by omega, by omega, by omega, by omega, by omega, by omega, by omega, by omega⟩, ⟨by omega, by omega⟩, rfl, Or.inl ⟨rfl, rfl, rfl, rfl⟩, ⟨by omega, by omega, by omega, by omega⟩⟩
theorem LI_step {u v U0 V0 : Nat} {p : Nat} (hu : u / 2 ^ p = U0) (hv : v / 2 ^ p = V0) (hUl : U0 < 4294967296) (hVU : V0 ≤ U0) {U V A B C D : Int} {x y : Nat} (h : LI u v U0 V0 U V A B C D x y) (n1 : V + C ≠ 0) (n2 : V + D ≠ 0) (hq : (U + A) / (V + C) = (U + B) / (V + D)) (hvu : v ≤ u) :
    LI u v U0 V0 V (U - (U + A) / (V + C) * V) C D (A - (U + A) / (V + C) * C) (B - (U + A) / (V + C) * D) y (x % y) ∧ 0 < y ∧ x % y < y := by
  obtain ⟨⟨eU, eV⟩, ⟨p1, p2, p3, p4⟩, hs, hdet, ⟨b1, b2, b3, b4, b5, b6, b7, b8⟩, ⟨ex, ey⟩, hg, hst, ⟨t1, t2, t3, t4⟩⟩ := h
  have d1 := Int.mul_ediv_add_emod (U + A) (V + C)
  have m1 := Int.emod_nonneg (U + A) n1
  have l1 := Int.emod_lt_of_pos (U + A) (show 0 < V + C by omega)
  have d2 := Int.mul_ediv_add_emod (U + B) (V + D)
  have m2 := Int.emod_nonneg (U + B) n2
  have l2 := Int.emod_lt_of_pos (U + B) (show 0 < V + D by omega)
  have hq0 : 0 ≤ (U + A) / (V + C) := Int.ediv_nonneg p1 p3
  rw [← hq] at d2
  generalize (U + A) / (V + C) = q at *
  generalize (U + A) % (V + C) = r1 at *
  generalize (U + B) % (V + D) = r2 at *
  -- the rest's numbers
  have s1 : (U - q * V) + (A - q * C) = r1 := by
    have : (U - q * V) + (A - q * C) = (U + A) - (V + C) * q := by grind
    omega
  have s2 : (U - q * V) + (B - q * D) = r2 := by
    have : (U - q * V) + (B - q * D) = (U + B) - (V + D) * q := by grind
    omega
  have hT : (0 : Int) < ((2 ^ p : Nat) : Int) := by
    have : 0 < 2 ^ p := Nat.pow_pos (by decide)
    omega
  have du : (u : Int) = (U0 : Int) * ((2 ^ p : Nat) : Int) + ((u % 2 ^ p : Nat) : Int) := by
    have := Nat.div_add_mod u (2 ^ p)
    rw [hu] at this
    rw [← Int.natCast_mul, ← Int.natCast_add, Nat.mul_comm, this]
  have dv : (v : Int) = (V0 : Int) * ((2 ^ p : Nat) : Int) + ((v % 2 ^ p : Nat) : Int) := by
    have := Nat.div_add_mod v (2 ^ p)
    rw [hv] at this
    rw [← Int.natCast_mul, ← Int.natCast_add, Nat.mul_comm, this]
  have lu : ((u % 2 ^ p : Nat) : Int) < ((2 ^ p : Nat) : Int) := by
    have := Nat.mod_lt u (show 0 < 2 ^ p from Nat.pow_pos (by decide))
    omega
  have lv : ((v % 2 ^ p : Nat) : Int) < ((2 ^ p : Nat) : Int) := by
    have := Nat.mod_lt v (show 0 < 2 ^ p from Nat.pow_pos (by decide))
    omega
  have qC : (C ≤ 0 → q * C ≤ 0) ∧ (0 ≤ C → 0 ≤ q * C) := ⟨fun h => Int.mul_nonpos_of_nonneg_of_nonpos hq0 h, fun h => Int.mul_nonneg hq0 h⟩
  have qD : (D ≤ 0 → q * D ≤ 0) ∧ (0 ≤ D → 0 ≤ q * D) := ⟨fun h => Int.mul_nonpos_of_nonneg_of_nonpos hq0 h, fun h => Int.mul_nonneg hq0 h⟩
  have hs' : (0 ≤ C ∧ D ≤ 0 ∧ A - q * C ≤ 0 ∧ 0 ≤ B - q * D) ∨ (C ≤ 0 ∧ 0 ≤ D ∧ 0 ≤ A - q * C ∧ B - q * D ≤ 0) := by
    rcases hs with ⟨a, b, c, d⟩ | ⟨a, b, c, d⟩
    · right
      have := qC.1 c
      have := qD.2 d
      exact ⟨c, d, by omega, by omega⟩
    · left
      have := qC.2 c
      have := qD.1 d
      exact ⟨c, d, by omega, by omega⟩
  -- x - q y is not below 0, and less than y
  have ge : 0 ≤ (x : Int) - q * y := by
    have h1 := lh_pos (E := A - q * C) (F := B - q * D) (k := 0) du dv (by omega) lu (by omega) lv (by rcases hs' with ⟨-, -, c, d⟩ | ⟨-, -, c, d⟩; exact Or.inl ⟨c, d⟩; exact Or.inr ⟨c, d⟩) (by
      have : (A - q * C) * ((U0 : Int) + 1) + (B - q * D) * V0 = r1 := by rw [← s1, eU, eV]; grind
      omega) (by
      have : (A - q * C) * (U0 : Int) + (B - q * D) * (V0 + 1) = r2 := by rw [← s2, eU, eV]; grind
      omega)
    have e : (x : Int) - q * y = (A - q * C) * u + (B - q * D) * v := by rw [ex, ey]; grind
    omega
  have lt : (x : Int) - q * y < y := by
    have h1 := lh_pos (E := (q + 1) * C - A) (F := (q + 1) * D - B) (k := 1) du dv (by omega) lu (by omega) lv (by
      have e1 : (q + 1) * C - A = C - (A - q * C) := by grind
      have e2 : (q + 1) * D - B = D - (B - q * D) := by grind
      rcases hs' with ⟨a, b, c, d⟩ | ⟨a, b, c, d⟩
      · exact Or.inr ⟨by omega, by omega⟩
      · exact Or.inl ⟨by omega, by omega⟩) (by
      have : ((q + 1) * C - A) * ((U0 : Int) + 1) + ((q + 1) * D - B) * V0 = (V + C) - r1 := by rw [← s1, eU, eV]; grind
      omega) (by
      have : ((q + 1) * C - A) * (U0 : Int) + ((q + 1) * D - B) * (V0 + 1) = (V + D) - r2 := by rw [← s2, eU, eV]; grind
      omega)
    have e : (y : Int) - ((x : Int) - q * y) = ((q + 1) * C - A) * u + ((q + 1) * D - B) * v := by rw [ex, ey]; grind
    omega
  have hy0 : 0 < y := by omega
  have hmod : ((x % y : Nat) : Int) = (x : Int) - q * y := by
    rw [Int.natCast_emod]
    have e : (x : Int) = ((x : Int) - q * y) + y * q := by grind
    conv => lhs; rw [e]
    rw [Int.add_mul_emod_self_left]
    exact Int.emod_eq_of_lt ge lt
  have hlt : x % y < y := Nat.mod_lt _ hy0
  -- V0 is not 0, and B becomes D, which is not 0
  have hV0 : 1 ≤ V0 := by
    rcases hst with ⟨rfl, rfl, rfl, rfl⟩ | ⟨-, z, -, -⟩
    · omega
    · exact z
  have hyv : y ≤ v := by
    rcases hst with ⟨rfl, rfl, rfl, rfl⟩ | ⟨-, -, z, z2⟩
    · omega
    · omega
  have hD0 : D ≠ 0 := by
    intro z
    subst z
    rcases hst with ⟨-, -, -, z⟩ | ⟨z1, -, z3, z4⟩
    · exact absurd z (by decide)
    · rcases hs with ⟨a, b, c, d⟩ | ⟨a, b, c, d⟩
      · have h9 : C * (u : Int) ≤ 0 := Int.mul_nonpos_of_nonpos_of_nonneg c (by omega)
        omega
      · have hC : 1 ≤ C := by
          rcases Int.lt_or_le 0 C with w | w
          · omega
          · have : C = 0 := by omega
            subst this
            omega
        have h11 : (1 : Int) * u ≤ C * u := Int.mul_le_mul_of_nonneg_right hC (by omega)
        omega
  have det' : C * (B - q * D) - D * (A - q * C) = -(A * D - B * C) := by grind
  refine ⟨⟨⟨eV, by rw [eU, eV]; grind⟩, ⟨p3, p4, by omega, by omega⟩, ?_, by omega, ?_, ⟨ey, by rw [hmod, ex, ey]; grind⟩, ?_, Or.inr ⟨hD0, hV0, hyv, hlt⟩, ⟨t3, t4, by omega, by omega⟩⟩, hy0, hlt⟩
  · rcases hs' with ⟨a, b, c, d⟩ | ⟨a, b, c, d⟩
    · exact Or.inl ⟨a, b, c, d⟩
    · exact Or.inr ⟨a, b, c, d⟩
  · -- the cofactors stay small
    have hdt : C * (B - q * D) - D * (A - q * C) = 1 ∨ C * (B - q * D) - D * (A - q * C) = -1 := by omega
    have k1 : (B - q * D) * (V + D) - D * r2 = (C * (B - q * D) - D * (A - q * C)) * U0 := by rw [← s2, eU, eV]; grind
    have k2 : (A - q * C) * (V + D) - C * r2 = -(C * (B - q * D) - D * (A - q * C)) * (V0 + 1) := by rw [← s2, eU, eV]; grind
    have k3 : (B - q * D) * (V + C) - D * r1 = (C * (B - q * D) - D * (A - q * C)) * (U0 + 1) := by rw [← s1, eU, eV]; grind
    have k4 : (A - q * C) * (V + C) - C * r1 = -(C * (B - q * D) - D * (A - q * C)) * V0 := by rw [← s1, eU, eV]; grind
    generalize A - q * C = c' at *
    generalize B - q * D = d' at *
    have hU : (C * d' - D * c') * (U0 : Int) ≤ U0 ∧ -(U0 : Int) ≤ (C * d' - D * c') * (U0 : Int) ∧ (C * d' - D * c') * ((U0 : Int) + 1) ≤ U0 + 1 ∧ -(C * d' - D * c') * ((V0 : Int) + 1) ≤ V0 + 1 ∧ -(V0 : Int) ≤ -(C * d' - D * c') * (V0 : Int) := by
      rcases hdt with e | e <;> rw [e] <;> refine ⟨?_, ?_, ?_, ?_, ?_⟩ <;> omega
    obtain ⟨w1, w2, w3, w4, w5⟩ := hU
    rcases hs' with ⟨a, b, c, d⟩ | ⟨a, b, c, d⟩
    · have hX : 2 ≤ V + C := by omega
      have z1 : 2 * d' ≤ (V + C) * d' := Int.mul_le_mul_of_nonneg_right hX d
      have z2 : 2 * -c' ≤ (V + C) * -c' := Int.mul_le_mul_of_nonneg_right hX (by omega)
      have z3 : 0 ≤ -D * r1 := Int.mul_nonneg (by omega) m1
      have z4 : 0 ≤ C * r1 := Int.mul_nonneg a m1
      have z5 : -D * r1 = -(D * r1) := Int.neg_mul _ _
      have z6 : (V + C) * d' = d' * (V + C) := Int.mul_comm _ _
      have z7 : (V + C) * -c' = -(c' * (V + C)) := by grind
      exact ⟨b5, b6, b7, b8, by omega, by omega, by omega, by omega⟩
    · have hY : 2 ≤ V + D := by omega
      have z1 : 2 * -d' ≤ (V + D) * -d' := Int.mul_le_mul_of_nonneg_right hY (by omega)
      have z2 : 2 * c' ≤ (V + D) * c' := Int.mul_le_mul_of_nonneg_right hY c
      have z3 : 0 ≤ D * r2 := Int.mul_nonneg b m2
      have z4 : 0 ≤ -C * r2 := Int.mul_nonneg (by omega) m2
      have z5 : -C * r2 = -(C * r2) := Int.neg_mul _ _
      have z6 : (V + D) * c' = c' * (V + D) := Int.mul_comm _ _
      have z7 : (V + D) * -d' = -(d' * (V + D)) := by grind
      exact ⟨b5, b6, b7, b8, by omega, by omega, by omega, by omega⟩
  · rw [← hg, Nat.gcd_comm x y, Nat.gcd_rec y x, Nat.gcd_comm]
