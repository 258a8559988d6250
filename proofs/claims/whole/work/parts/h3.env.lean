/-! the places of the mill and of the reference -/
def ACL : List Nat := [0, 0, 2, 5, 14, 25, 44, 59, 76, 78, 82, 84, 86, 3, 70, 77, 79, 80, 6, 15, 26, 28, 45, 47, 49, 51, 60, 62, 64, 66, 68]
def XCL : Nat → List Nat
  | 3 => [3, 6, 8, 10, 12]
  | 4 => [3, 15, 17, 19, 21, 23]
  | 5 => [3, 26, 28, 30, 32, 34, 36, 38, 40, 42]
  | 6 => [3, 45, 47, 49, 51, 53, 55, 57]
  | 7 => [3, 60, 62, 64, 66, 68, 72, 74]
  | _ => []
def TGL (c : Nat) : Nat := if c = 3 then 13 else if c = 82 then 10 else if c = 84 then 11 else if c = 86 then 12 else if c = 70 then 14 else if c = 80 then 17 else if c < 14 then 3 else if c < 25 then 4 else if c < 44 then 5 else if c < 59 then 6 else 7
def eAF (x n : Nat) : Nat → Nat := fun k => if k = 0 then x else if k = 1 then x + 1 else x + (ACL.getD k 0 + 2 * n)
def LT (x n : Nat) : LV := ((x + (88 + 2 * n), x + (89 + 2 * n), x + (90 + 2 * n), x + (91 + 2 * n)), x + (92 + 2 * n), x + (93 + 2 * n))
def ET (x n w : Nat) : EV := (eAF x n, fun c => (XCL c).map (fun d => x + (d + 2 * n)), fun i => x + 2 + 2 * i, fun q => if q < x + (2 + 2 * n) then 100 else TGL (q - x - 2 * n), eq6 (LT x n), n, w)
section Env
variable {ca : Nat → ClassId} {x n w N : Nat}
theorem eA_c (k : Nat) (h : 2 ≤ k) : eA (ET x n w) k = x + (ACL.getD k 0 + 2 * n) := (if_neg (by omega)).trans (if_neg (by omega))
theorem eA_0 : eA (ET x n w) 0 = x := rfl
theorem eA_1 : eA (ET x n w) 1 = x + 1 := rfl
theorem eT_c (c : Nat) (h : 2 ≤ c) : eT (ET x n w) (x + (c + 2 * n)) = TGL c := by
  show (if x + (c + 2 * n) < x + (2 + 2 * n) then 100 else TGL (x + (c + 2 * n) - x - 2 * n)) = _
  rw [if_neg (by omega), show x + (c + 2 * n) - x - 2 * n = c by omega]
theorem GT_ND : ND (GT ca x n w N) := by
  intro i j b hi hj
  have hi' : (List.range' x (94 + 2 * n))[i]? = some b := hi
  have hj' : (List.range' x (94 + 2 * n))[j]? = some b := hj
  obtain ⟨h1, h2⟩ := List.getElem?_eq_some_iff.mp hi'
  obtain ⟨h3, h4⟩ := List.getElem?_eq_some_iff.mp hj'
  rw [List.getElem_range'] at h2 h4
  omega
theorem X_dec : ∀ c, 3 ≤ c → c ≤ 7 → ∀ d ∈ XCL c, (2 ≤ d ∧ d < 94) ∧ KDL.getD (d - 2) 99 = 8 ∧ (d = 3 ∨ TGL d = c) := by
  intro c h3 h7
  have : c = 3 ∨ c = 4 ∨ c = 5 ∨ c = 6 ∨ c = 7 := by omega
  rcases this with rfl | rfl | rfl | rfl | rfl <;> decide
theorem T_SE (hn : 1 ≤ n ∧ n ≤ 16) (hw : 1 ≤ w ∧ w ≤ 40) : SE (GT ca x n w N) (ET x n w) := by
  have hA : ∀ k, k ≤ 9 → ∃ d, eA (ET x n w) k = x + d ∧ ((k = 0 ∧ d = 0) ∨ (k = 1 ∧ d = 1) ∨ (2 ≤ k ∧ d = ACL.getD k 0 + 2 * n)) := fun k hk => by
    by_cases c0 : k = 0
    · exact ⟨0, by rw [c0]; exact eA_0, Or.inl ⟨c0, rfl⟩⟩
    · by_cases c1 : k = 1
      · exact ⟨1, by rw [c1]; exact eA_1, Or.inr (Or.inl ⟨c1, rfl⟩)⟩
      · exact ⟨_, eA_c k (by omega), Or.inr (Or.inr ⟨by omega, rfl⟩)⟩
  have hinj : ∀ i, i ≤ 9 → ∀ j, j ≤ 9 → 2 ≤ i → 2 ≤ j → ACL.getD i 0 = ACL.getD j 0 → i = j := by decide
  have hge : ∀ i, i ≤ 9 → 2 ≤ i → 2 ≤ ACL.getD i 0 ∧ ACL.getD i 0 < 88 ∧ KDL.getD (ACL.getD i 0 - 2) 99 ≠ 8 := by decide
  refine ⟨⟨hn.1, hn.2, hw.1, hw.2⟩, ⟨fun i j hi hj e => ?_, fun k hk => ?_⟩, ⟨fun i hi => is_r hi, ⟨?_, ?_, ?_, ?_, ?_, ?_⟩, fun c y h3 h7 hy => ?_⟩, fun i j hi hj e => ?_, ⟨fun i hi => ?_, ⟨?_, ?_, ?_, ?_, ?_, ?_⟩, fun c y h3 h7 hy => ?_⟩, ⟨?_, ?_, ?_, ?_, ?_, ?_⟩, fun a ha => ?_⟩
  · obtain ⟨d1, e1, g1⟩ := hA i hi
    obtain ⟨d2, e2, g2⟩ := hA j hj
    have hd : d1 = d2 := by rw [e1, e2] at e; omega
    rcases g1 with ⟨a1, b1⟩ | ⟨a1, b1⟩ | ⟨a1, b1⟩ <;> rcases g2 with ⟨a2, b2⟩ | ⟨a2, b2⟩ | ⟨a2, b2⟩
    · omega
    · omega
    · have := hge j hj a2; omega
    · omega
    · omega
    · have := hge j hj a2; omega
    · have := hge i hi a1; omega
    · have := hge i hi a1; omega
    · exact hinj i hi j hj a1 a2 (by omega)
  · by_cases c0 : k = 0
    · rw [c0, eA_0, is_0.2]; decide
    · by_cases c1 : k = 1
      · rw [c1, eA_1, is_1.2]; decide
      · rw [eA_c k (by omega)]
        have h := hge k hk (by omega)
        show kdF x n _ ≠ 8
        rw [kd_c h.1 rfl]
        exact h.2.2
  · rw [eA_c 10 (by decide)]; exact is_c (by decide) (by decide) rfl
  · rw [eA_c 11 (by decide)]; exact is_c (by decide) (by decide) rfl
  · rw [eA_c 12 (by decide)]; exact is_c (by decide) (by decide) rfl
  · rw [eA_c 13 (by decide)]; exact is_c (by decide) (by decide) rfl
  · rw [eA_c 14 (by decide)]; exact is_c (by decide) (by decide) rfl
  · rw [eA_c 17 (by decide)]; exact is_c (by decide) (by decide) rfl
  · obtain ⟨d, hd, rfl⟩ := List.mem_map.mp hy
    have h := X_dec c h3 h7 d hd
    exact is_c h.1.1 h.1.2 h.2.1
  · have e' : x + 2 + 2 * i = x + 2 + 2 * j := e
    omega
  · show (if x + 2 + 2 * i < x + (2 + 2 * n) then 100 else _) = 100
    have hi' : i < n := hi
    rw [if_pos (by omega)]
  · rw [eA_c 10 (by decide)]; exact eT_c _ (by decide)
  · rw [eA_c 11 (by decide)]; exact eT_c _ (by decide)
  · rw [eA_c 12 (by decide)]; exact eT_c _ (by decide)
  · rw [eA_c 13 (by decide)]; exact eT_c _ (by decide)
  · rw [eA_c 14 (by decide)]; exact eT_c _ (by decide)
  · rw [eA_c 17 (by decide)]; exact eT_c _ (by decide)
  · obtain ⟨d, hd, rfl⟩ := List.mem_map.mp hy
    have h := X_dec c h3 h7 d hd
    rcases h.2.2 with z | z
    · exact Or.inl (by rw [eA_c 13 (by decide), z]; rfl)
    · exact Or.inr (by rw [eT_c d h.1.1]; exact z)
  · rw [eA_1]; exact ln_1
  · rw [eA_c 15 (by decide)]; exact ln_c (by decide) rfl
  · rw [eA_c 16 (by decide)]; exact ln_c (by decide) rfl
  · rw [eA_c 15 (by decide)]; exact kd_c (by decide) rfl
  · rw [eA_c 16 (by decide)]; exact kd_c (by decide) rfl
  · rw [eA_c 15 (by decide), eA_c 16 (by decide)]
    show x + (77 + 2 * n) ≠ x + (79 + 2 * n)
    omega
  · have hc : ∃ c, a = x + (c + 2 * n) ∧ 88 ≤ c ∧ c < 94 := by
      have ha' : a ∈ [x + (88 + 2 * n), x + (89 + 2 * n), x + (90 + 2 * n), x + (91 + 2 * n), x + (92 + 2 * n), x + (93 + 2 * n)] := ha
      simp only [List.mem_cons, List.not_mem_nil, or_false] at ha'
      rcases ha' with h | h | h | h | h | h
      · exact ⟨88, h, by decide, by decide⟩
      · exact ⟨89, h, by decide, by decide⟩
      · exact ⟨90, h, by decide, by decide⟩
      · exact ⟨91, h, by decide, by decide⟩
      · exact ⟨92, h, by decide, by decide⟩
      · exact ⟨93, h, by decide, by decide⟩
    obtain ⟨c, rfl, hc1, hc2⟩ := hc
    refine ⟨?_, fun k hk => ?_, ?_, ?_⟩
    · show kdF x n _ ≠ 8
      rw [kd_c (by omega) rfl]
      have hd : ∀ c, c < 94 → 88 ≤ c → KDL.getD (c - 2) 99 ≠ 8 := by decide
      exact hd c hc2 hc1
    · by_cases c0 : k = 0
      · rw [c0, eA_0]; omega
      · by_cases c1 : k = 1
        · rw [c1, eA_1]; omega
        · rw [eA_c k (by omega)]
          have h := hge k hk (by omega)
          omega
    · rw [eA_c 15 (by decide)]
      show x + (c + 2 * n) ≠ x + (77 + 2 * n)
      omega
    · rw [eA_c 16 (by decide)]
      show x + (c + 2 * n) ≠ x + (79 + 2 * n)
      omega
end Env
