/-! the first state (made by wip/gen/start.py) -/
section Start
variable {ca : Nat → ClassId} {x n w N : Nat}
/-- a new number, its lowest limb v -/
def NW (ca : Nat → ClassId) (x n w N q : Nat) (v : Int32) : Prop := FT ca x n w N q = .inr (8, [.ref (q + 1), .int v, .int 0]) ∧ ∃ L, FT ca x n w N (q + 1) = .inl (ca 1, L, .inl (fun i => if i = 0 then v else 0)) ∧ Is (GT ca x n w N) 12 (q + 1) ∧ lnF x n w N (q + 1) = L ∧ (L = w ∨ L = N ∨ L = 1)
theorem nw_c : ∀ c, 2 ≤ c → c < 94 → KDL.getD (c - 2) 99 = 8 → NW ca x n w N (x + (c + 2 * n)) (if c = 70 ∨ c = 86 then 1 else 0) := by
  intro c h1 h2 hc
  match c, h1, h2, hc with
  | 0, h, _, _ => exact absurd h (by decide)
  | 1, h, _, _ => exact absurd h (by decide)
  | 2, _, _, hc => cases hc
  | 3, _, _, _ => exact ⟨pt_3, N, by rw [show x + (3 + 2 * n) + 1 = x + (4 + 2 * n) by omega]; exact pt_4, by rw [show x + (3 + 2 * n) + 1 = x + (4 + 2 * n) by omega]; exact is_c (by decide) (by decide) rfl, by rw [show x + (3 + 2 * n) + 1 = x + (4 + 2 * n) by omega]; exact ln_c (by decide) rfl, Or.inr (Or.inl rfl)⟩
  | 4, _, _, hc => cases hc
  | 5, _, _, hc => cases hc
  | 6, _, _, _ => exact ⟨pt_6, N, by rw [show x + (6 + 2 * n) + 1 = x + (7 + 2 * n) by omega]; exact pt_7, by rw [show x + (6 + 2 * n) + 1 = x + (7 + 2 * n) by omega]; exact is_c (by decide) (by decide) rfl, by rw [show x + (6 + 2 * n) + 1 = x + (7 + 2 * n) by omega]; exact ln_c (by decide) rfl, Or.inr (Or.inl rfl)⟩
  | 7, _, _, hc => cases hc
  | 8, _, _, _ => exact ⟨pt_8, N, by rw [show x + (8 + 2 * n) + 1 = x + (9 + 2 * n) by omega]; exact pt_9, by rw [show x + (8 + 2 * n) + 1 = x + (9 + 2 * n) by omega]; exact is_c (by decide) (by decide) rfl, by rw [show x + (8 + 2 * n) + 1 = x + (9 + 2 * n) by omega]; exact ln_c (by decide) rfl, Or.inr (Or.inl rfl)⟩
  | 9, _, _, hc => cases hc
  | 10, _, _, _ => exact ⟨pt_10, N, by rw [show x + (10 + 2 * n) + 1 = x + (11 + 2 * n) by omega]; exact pt_11, by rw [show x + (10 + 2 * n) + 1 = x + (11 + 2 * n) by omega]; exact is_c (by decide) (by decide) rfl, by rw [show x + (10 + 2 * n) + 1 = x + (11 + 2 * n) by omega]; exact ln_c (by decide) rfl, Or.inr (Or.inl rfl)⟩
  | 11, _, _, hc => cases hc
  | 12, _, _, _ => exact ⟨pt_12, N, by rw [show x + (12 + 2 * n) + 1 = x + (13 + 2 * n) by omega]; exact pt_13, by rw [show x + (12 + 2 * n) + 1 = x + (13 + 2 * n) by omega]; exact is_c (by decide) (by decide) rfl, by rw [show x + (12 + 2 * n) + 1 = x + (13 + 2 * n) by omega]; exact ln_c (by decide) rfl, Or.inr (Or.inl rfl)⟩
  | 13, _, _, hc => cases hc
  | 14, _, _, hc => cases hc
  | 15, _, _, _ => exact ⟨pt_15, N, by rw [show x + (15 + 2 * n) + 1 = x + (16 + 2 * n) by omega]; exact pt_16, by rw [show x + (15 + 2 * n) + 1 = x + (16 + 2 * n) by omega]; exact is_c (by decide) (by decide) rfl, by rw [show x + (15 + 2 * n) + 1 = x + (16 + 2 * n) by omega]; exact ln_c (by decide) rfl, Or.inr (Or.inl rfl)⟩
  | 16, _, _, hc => cases hc
  | 17, _, _, _ => exact ⟨pt_17, N, by rw [show x + (17 + 2 * n) + 1 = x + (18 + 2 * n) by omega]; exact pt_18, by rw [show x + (17 + 2 * n) + 1 = x + (18 + 2 * n) by omega]; exact is_c (by decide) (by decide) rfl, by rw [show x + (17 + 2 * n) + 1 = x + (18 + 2 * n) by omega]; exact ln_c (by decide) rfl, Or.inr (Or.inl rfl)⟩
  | 18, _, _, hc => cases hc
  | 19, _, _, _ => exact ⟨pt_19, N, by rw [show x + (19 + 2 * n) + 1 = x + (20 + 2 * n) by omega]; exact pt_20, by rw [show x + (19 + 2 * n) + 1 = x + (20 + 2 * n) by omega]; exact is_c (by decide) (by decide) rfl, by rw [show x + (19 + 2 * n) + 1 = x + (20 + 2 * n) by omega]; exact ln_c (by decide) rfl, Or.inr (Or.inl rfl)⟩
  | 20, _, _, hc => cases hc
  | 21, _, _, _ => exact ⟨pt_21, N, by rw [show x + (21 + 2 * n) + 1 = x + (22 + 2 * n) by omega]; exact pt_22, by rw [show x + (21 + 2 * n) + 1 = x + (22 + 2 * n) by omega]; exact is_c (by decide) (by decide) rfl, by rw [show x + (21 + 2 * n) + 1 = x + (22 + 2 * n) by omega]; exact ln_c (by decide) rfl, Or.inr (Or.inl rfl)⟩
  | 22, _, _, hc => cases hc
  | 23, _, _, _ => exact ⟨pt_23, N, by rw [show x + (23 + 2 * n) + 1 = x + (24 + 2 * n) by omega]; exact pt_24, by rw [show x + (23 + 2 * n) + 1 = x + (24 + 2 * n) by omega]; exact is_c (by decide) (by decide) rfl, by rw [show x + (23 + 2 * n) + 1 = x + (24 + 2 * n) by omega]; exact ln_c (by decide) rfl, Or.inr (Or.inl rfl)⟩
  | 24, _, _, hc => cases hc
  | 25, _, _, hc => cases hc
  | 26, _, _, _ => exact ⟨pt_26, N, by rw [show x + (26 + 2 * n) + 1 = x + (27 + 2 * n) by omega]; exact pt_27, by rw [show x + (26 + 2 * n) + 1 = x + (27 + 2 * n) by omega]; exact is_c (by decide) (by decide) rfl, by rw [show x + (26 + 2 * n) + 1 = x + (27 + 2 * n) by omega]; exact ln_c (by decide) rfl, Or.inr (Or.inl rfl)⟩
  | 27, _, _, hc => cases hc
  | 28, _, _, _ => exact ⟨pt_28, N, by rw [show x + (28 + 2 * n) + 1 = x + (29 + 2 * n) by omega]; exact pt_29, by rw [show x + (28 + 2 * n) + 1 = x + (29 + 2 * n) by omega]; exact is_c (by decide) (by decide) rfl, by rw [show x + (28 + 2 * n) + 1 = x + (29 + 2 * n) by omega]; exact ln_c (by decide) rfl, Or.inr (Or.inl rfl)⟩
  | 29, _, _, hc => cases hc
  | 30, _, _, _ => exact ⟨pt_30, N, by rw [show x + (30 + 2 * n) + 1 = x + (31 + 2 * n) by omega]; exact pt_31, by rw [show x + (30 + 2 * n) + 1 = x + (31 + 2 * n) by omega]; exact is_c (by decide) (by decide) rfl, by rw [show x + (30 + 2 * n) + 1 = x + (31 + 2 * n) by omega]; exact ln_c (by decide) rfl, Or.inr (Or.inl rfl)⟩
  | 31, _, _, hc => cases hc
  | 32, _, _, _ => exact ⟨pt_32, N, by rw [show x + (32 + 2 * n) + 1 = x + (33 + 2 * n) by omega]; exact pt_33, by rw [show x + (32 + 2 * n) + 1 = x + (33 + 2 * n) by omega]; exact is_c (by decide) (by decide) rfl, by rw [show x + (32 + 2 * n) + 1 = x + (33 + 2 * n) by omega]; exact ln_c (by decide) rfl, Or.inr (Or.inl rfl)⟩
  | 33, _, _, hc => cases hc
  | 34, _, _, _ => exact ⟨pt_34, N, by rw [show x + (34 + 2 * n) + 1 = x + (35 + 2 * n) by omega]; exact pt_35, by rw [show x + (34 + 2 * n) + 1 = x + (35 + 2 * n) by omega]; exact is_c (by decide) (by decide) rfl, by rw [show x + (34 + 2 * n) + 1 = x + (35 + 2 * n) by omega]; exact ln_c (by decide) rfl, Or.inr (Or.inl rfl)⟩
  | 35, _, _, hc => cases hc
  | 36, _, _, _ => exact ⟨pt_36, N, by rw [show x + (36 + 2 * n) + 1 = x + (37 + 2 * n) by omega]; exact pt_37, by rw [show x + (36 + 2 * n) + 1 = x + (37 + 2 * n) by omega]; exact is_c (by decide) (by decide) rfl, by rw [show x + (36 + 2 * n) + 1 = x + (37 + 2 * n) by omega]; exact ln_c (by decide) rfl, Or.inr (Or.inl rfl)⟩
  | 37, _, _, hc => cases hc
  | 38, _, _, _ => exact ⟨pt_38, N, by rw [show x + (38 + 2 * n) + 1 = x + (39 + 2 * n) by omega]; exact pt_39, by rw [show x + (38 + 2 * n) + 1 = x + (39 + 2 * n) by omega]; exact is_c (by decide) (by decide) rfl, by rw [show x + (38 + 2 * n) + 1 = x + (39 + 2 * n) by omega]; exact ln_c (by decide) rfl, Or.inr (Or.inl rfl)⟩
  | 39, _, _, hc => cases hc
  | 40, _, _, _ => exact ⟨pt_40, N, by rw [show x + (40 + 2 * n) + 1 = x + (41 + 2 * n) by omega]; exact pt_41, by rw [show x + (40 + 2 * n) + 1 = x + (41 + 2 * n) by omega]; exact is_c (by decide) (by decide) rfl, by rw [show x + (40 + 2 * n) + 1 = x + (41 + 2 * n) by omega]; exact ln_c (by decide) rfl, Or.inr (Or.inl rfl)⟩
  | 41, _, _, hc => cases hc
  | 42, _, _, _ => exact ⟨pt_42, N, by rw [show x + (42 + 2 * n) + 1 = x + (43 + 2 * n) by omega]; exact pt_43, by rw [show x + (42 + 2 * n) + 1 = x + (43 + 2 * n) by omega]; exact is_c (by decide) (by decide) rfl, by rw [show x + (42 + 2 * n) + 1 = x + (43 + 2 * n) by omega]; exact ln_c (by decide) rfl, Or.inr (Or.inl rfl)⟩
  | 43, _, _, hc => cases hc
  | 44, _, _, hc => cases hc
  | 45, _, _, _ => exact ⟨pt_45, N, by rw [show x + (45 + 2 * n) + 1 = x + (46 + 2 * n) by omega]; exact pt_46, by rw [show x + (45 + 2 * n) + 1 = x + (46 + 2 * n) by omega]; exact is_c (by decide) (by decide) rfl, by rw [show x + (45 + 2 * n) + 1 = x + (46 + 2 * n) by omega]; exact ln_c (by decide) rfl, Or.inr (Or.inl rfl)⟩
  | 46, _, _, hc => cases hc
  | 47, _, _, _ => exact ⟨pt_47, N, by rw [show x + (47 + 2 * n) + 1 = x + (48 + 2 * n) by omega]; exact pt_48, by rw [show x + (47 + 2 * n) + 1 = x + (48 + 2 * n) by omega]; exact is_c (by decide) (by decide) rfl, by rw [show x + (47 + 2 * n) + 1 = x + (48 + 2 * n) by omega]; exact ln_c (by decide) rfl, Or.inr (Or.inl rfl)⟩
  | 48, _, _, hc => cases hc
  | 49, _, _, _ => exact ⟨pt_49, N, by rw [show x + (49 + 2 * n) + 1 = x + (50 + 2 * n) by omega]; exact pt_50, by rw [show x + (49 + 2 * n) + 1 = x + (50 + 2 * n) by omega]; exact is_c (by decide) (by decide) rfl, by rw [show x + (49 + 2 * n) + 1 = x + (50 + 2 * n) by omega]; exact ln_c (by decide) rfl, Or.inr (Or.inl rfl)⟩
  | 50, _, _, hc => cases hc
  | 51, _, _, _ => exact ⟨pt_51, N, by rw [show x + (51 + 2 * n) + 1 = x + (52 + 2 * n) by omega]; exact pt_52, by rw [show x + (51 + 2 * n) + 1 = x + (52 + 2 * n) by omega]; exact is_c (by decide) (by decide) rfl, by rw [show x + (51 + 2 * n) + 1 = x + (52 + 2 * n) by omega]; exact ln_c (by decide) rfl, Or.inr (Or.inl rfl)⟩
  | 52, _, _, hc => cases hc
  | 53, _, _, _ => exact ⟨pt_53, N, by rw [show x + (53 + 2 * n) + 1 = x + (54 + 2 * n) by omega]; exact pt_54, by rw [show x + (53 + 2 * n) + 1 = x + (54 + 2 * n) by omega]; exact is_c (by decide) (by decide) rfl, by rw [show x + (53 + 2 * n) + 1 = x + (54 + 2 * n) by omega]; exact ln_c (by decide) rfl, Or.inr (Or.inl rfl)⟩
  | 54, _, _, hc => cases hc
  | 55, _, _, _ => exact ⟨pt_55, N, by rw [show x + (55 + 2 * n) + 1 = x + (56 + 2 * n) by omega]; exact pt_56, by rw [show x + (55 + 2 * n) + 1 = x + (56 + 2 * n) by omega]; exact is_c (by decide) (by decide) rfl, by rw [show x + (55 + 2 * n) + 1 = x + (56 + 2 * n) by omega]; exact ln_c (by decide) rfl, Or.inr (Or.inl rfl)⟩
  | 56, _, _, hc => cases hc
  | 57, _, _, _ => exact ⟨pt_57, N, by rw [show x + (57 + 2 * n) + 1 = x + (58 + 2 * n) by omega]; exact pt_58, by rw [show x + (57 + 2 * n) + 1 = x + (58 + 2 * n) by omega]; exact is_c (by decide) (by decide) rfl, by rw [show x + (57 + 2 * n) + 1 = x + (58 + 2 * n) by omega]; exact ln_c (by decide) rfl, Or.inr (Or.inl rfl)⟩
  | 58, _, _, hc => cases hc
  | 59, _, _, hc => cases hc
  | 60, _, _, _ => exact ⟨pt_60, N, by rw [show x + (60 + 2 * n) + 1 = x + (61 + 2 * n) by omega]; exact pt_61, by rw [show x + (60 + 2 * n) + 1 = x + (61 + 2 * n) by omega]; exact is_c (by decide) (by decide) rfl, by rw [show x + (60 + 2 * n) + 1 = x + (61 + 2 * n) by omega]; exact ln_c (by decide) rfl, Or.inr (Or.inl rfl)⟩
  | 61, _, _, hc => cases hc
  | 62, _, _, _ => exact ⟨pt_62, N, by rw [show x + (62 + 2 * n) + 1 = x + (63 + 2 * n) by omega]; exact pt_63, by rw [show x + (62 + 2 * n) + 1 = x + (63 + 2 * n) by omega]; exact is_c (by decide) (by decide) rfl, by rw [show x + (62 + 2 * n) + 1 = x + (63 + 2 * n) by omega]; exact ln_c (by decide) rfl, Or.inr (Or.inl rfl)⟩
  | 63, _, _, hc => cases hc
  | 64, _, _, _ => exact ⟨pt_64, N, by rw [show x + (64 + 2 * n) + 1 = x + (65 + 2 * n) by omega]; exact pt_65, by rw [show x + (64 + 2 * n) + 1 = x + (65 + 2 * n) by omega]; exact is_c (by decide) (by decide) rfl, by rw [show x + (64 + 2 * n) + 1 = x + (65 + 2 * n) by omega]; exact ln_c (by decide) rfl, Or.inr (Or.inl rfl)⟩
  | 65, _, _, hc => cases hc
  | 66, _, _, _ => exact ⟨pt_66, N, by rw [show x + (66 + 2 * n) + 1 = x + (67 + 2 * n) by omega]; exact pt_67, by rw [show x + (66 + 2 * n) + 1 = x + (67 + 2 * n) by omega]; exact is_c (by decide) (by decide) rfl, by rw [show x + (66 + 2 * n) + 1 = x + (67 + 2 * n) by omega]; exact ln_c (by decide) rfl, Or.inr (Or.inl rfl)⟩
  | 67, _, _, hc => cases hc
  | 68, _, _, _ => exact ⟨pt_68, N, by rw [show x + (68 + 2 * n) + 1 = x + (69 + 2 * n) by omega]; exact pt_69, by rw [show x + (68 + 2 * n) + 1 = x + (69 + 2 * n) by omega]; exact is_c (by decide) (by decide) rfl, by rw [show x + (68 + 2 * n) + 1 = x + (69 + 2 * n) by omega]; exact ln_c (by decide) rfl, Or.inr (Or.inl rfl)⟩
  | 69, _, _, hc => cases hc
  | 70, _, _, _ => exact ⟨pt_70, 1, by rw [show x + (70 + 2 * n) + 1 = x + (71 + 2 * n) by omega]; exact pt_71, by rw [show x + (70 + 2 * n) + 1 = x + (71 + 2 * n) by omega]; exact is_c (by decide) (by decide) rfl, by rw [show x + (70 + 2 * n) + 1 = x + (71 + 2 * n) by omega]; exact ln_c (by decide) rfl, Or.inr (Or.inr rfl)⟩
  | 71, _, _, hc => cases hc
  | 72, _, _, _ => exact ⟨pt_72, N, by rw [show x + (72 + 2 * n) + 1 = x + (73 + 2 * n) by omega]; exact pt_73, by rw [show x + (72 + 2 * n) + 1 = x + (73 + 2 * n) by omega]; exact is_c (by decide) (by decide) rfl, by rw [show x + (72 + 2 * n) + 1 = x + (73 + 2 * n) by omega]; exact ln_c (by decide) rfl, Or.inr (Or.inl rfl)⟩
  | 73, _, _, hc => cases hc
  | 74, _, _, _ => exact ⟨pt_74, N, by rw [show x + (74 + 2 * n) + 1 = x + (75 + 2 * n) by omega]; exact pt_75, by rw [show x + (74 + 2 * n) + 1 = x + (75 + 2 * n) by omega]; exact is_c (by decide) (by decide) rfl, by rw [show x + (74 + 2 * n) + 1 = x + (75 + 2 * n) by omega]; exact ln_c (by decide) rfl, Or.inr (Or.inl rfl)⟩
  | 75, _, _, hc => cases hc
  | 76, _, _, hc => cases hc
  | 77, _, _, hc => cases hc
  | 78, _, _, hc => cases hc
  | 79, _, _, hc => cases hc
  | 80, _, _, _ => exact ⟨pt_80, N, by rw [show x + (80 + 2 * n) + 1 = x + (81 + 2 * n) by omega]; exact pt_81, by rw [show x + (80 + 2 * n) + 1 = x + (81 + 2 * n) by omega]; exact is_c (by decide) (by decide) rfl, by rw [show x + (80 + 2 * n) + 1 = x + (81 + 2 * n) by omega]; exact ln_c (by decide) rfl, Or.inr (Or.inl rfl)⟩
  | 81, _, _, hc => cases hc
  | 82, _, _, _ => exact ⟨pt_82, N, by rw [show x + (82 + 2 * n) + 1 = x + (83 + 2 * n) by omega]; exact pt_83, by rw [show x + (82 + 2 * n) + 1 = x + (83 + 2 * n) by omega]; exact is_c (by decide) (by decide) rfl, by rw [show x + (82 + 2 * n) + 1 = x + (83 + 2 * n) by omega]; exact ln_c (by decide) rfl, Or.inr (Or.inl rfl)⟩
  | 83, _, _, hc => cases hc
  | 84, _, _, _ => exact ⟨pt_84, N, by rw [show x + (84 + 2 * n) + 1 = x + (85 + 2 * n) by omega]; exact pt_85, by rw [show x + (84 + 2 * n) + 1 = x + (85 + 2 * n) by omega]; exact is_c (by decide) (by decide) rfl, by rw [show x + (84 + 2 * n) + 1 = x + (85 + 2 * n) by omega]; exact ln_c (by decide) rfl, Or.inr (Or.inl rfl)⟩
  | 85, _, _, hc => cases hc
  | 86, _, _, _ => exact ⟨pt_86, 1, by rw [show x + (86 + 2 * n) + 1 = x + (87 + 2 * n) by omega]; exact pt_87, by rw [show x + (86 + 2 * n) + 1 = x + (87 + 2 * n) by omega]; exact is_c (by decide) (by decide) rfl, by rw [show x + (86 + 2 * n) + 1 = x + (87 + 2 * n) by omega]; exact ln_c (by decide) rfl, Or.inr (Or.inr rfl)⟩
  | 87, _, _, hc => cases hc
  | 88, _, _, hc => cases hc
  | 89, _, _, hc => cases hc
  | 90, _, _, hc => cases hc
  | 91, _, _, hc => cases hc
  | 92, _, _, hc => cases hc
  | 93, _, _, hc => cases hc
  | (k + 94), _, h, _ => omega
theorem nw_r {i : Nat} (hi : i < n) : NW ca x n w N (x + 2 + 2 * i) 0 := ⟨pt_r hi, w, pt_l hi, is_l hi, ln_l hi, Or.inl rfl⟩
theorem nw_all {q : Nat} (hq : Is (GT ca x n w N) 8 q) : ∃ v, NW ca x n w N q v := by
  have h1 := List.mem_range'_1.mp hq.1
  have h2 : kdF x n q = 8 := hq.2
  by_cases c0 : q = x
  · rw [c0] at h2
    have : (9 : Nat) = 8 := by rw [← h2]; exact (if_pos rfl).symm
    omega
  by_cases c1 : q = x + 1
  · rw [c1] at h2
    have : (13 : Nat) = 8 := by rw [← h2]; exact (is_1 (ca := ca) (w := w) (N := N)).2.symm
    omega
  by_cases c2 : q < x + (2 + 2 * n)
  · obtain ⟨i, hi, hh⟩ : ∃ i, i < n ∧ (q = x + 2 + 2 * i ∨ q = x + 2 + 2 * i + 1) := ⟨(q - x - 2) / 2, by omega, by omega⟩
    rcases hh with rfl | rfl
    · exact ⟨0, nw_r hi⟩
    · have : (12 : Nat) = 8 := by rw [← h2]; exact (is_l (ca := ca) (w := w) (N := N) hi).2.symm
      omega
  · obtain ⟨d, hd, hd2, rfl⟩ : ∃ d, 2 ≤ d ∧ d < 94 ∧ q = x + (d + 2 * n) := ⟨q - x - 2 * n, by omega, by omega, by omega⟩
    rw [kd_c hd rfl] at h2
    exact ⟨_, nw_c d hd hd2 h2⟩
theorem NW.r {q : Nat} {v : Int32} (h : NW ca x n w N q v) : mR (MT ca x n w N) q 0 = q + 1 := by show rOf (FT ca x n w N q) 0 = _; rw [h.1]; rfl
theorem NW.u {q : Nat} {v : Int32} (h : NW ca x n w N q v) : mI (MT ca x n w N) q 1 = v := by show iOf (FT ca x n w N q) 1 = _; rw [h.1]; rfl
theorem NW.b {q : Nat} {v : Int32} (h : NW ca x n w N q v) : mI (MT ca x n w N) q 2 = 0 := by show iOf (FT ca x n w N q) 2 = _; rw [h.1]; rfl
theorem NW.a {q : Nat} {v : Int32} (h : NW ca x n w N q v) : mA (MT ca x n w N) (q + 1) = fun i => if i = 0 then v else 0 := by
  obtain ⟨-, L, h2, -⟩ := h
  show aOf (FT ca x n w N (q + 1)) = _
  rw [h2]
  rfl
theorem NW.rm {q : Nat} {v : Int32} (h : NW ca x n w N q v) (hw : 1 ≤ w ∧ w ≤ 40) (hN : N = 2 * w + 2) : 1 ≤ rmw (GT ca x n w N) (MT ca x n w N) q ∧ rmw (GT ca x n w N) (MT ca x n w N) q ≤ 100 := by
  unfold rmw
  rw [h.r]
  obtain ⟨-, L, -, -, h4, h5⟩ := h
  show 1 ≤ lnF x n w N (q + 1) ∧ lnF x n w N (q + 1) ≤ 100
  rw [h4]
  rcases h5 with rfl | rfl | rfl <;> omega
theorem NW.z {q : Nat} (h : NW ca x n w N q 0) : Wh (GT ca x n w N) (MT ca x n w N) q 0 false := by
  refine ⟨by rw [nl_0]; exact Nat.zero_le _, by rw [nl_0, h.u]; rfl, by rw [nl_0, vl_0], by rw [h.b]; rfl⟩
theorem nl_one : nl BB 1 = 1 := nl_eq (by decide) (by decide) (Or.inr (by decide))
theorem NW.o {q : Nat} (h : NW ca x n w N q 1) (hw : 1 ≤ w ∧ w ≤ 40) (hN : N = 2 * w + 2) : Wh (GT ca x n w N) (MT ca x n w N) q 1 false := by
  refine ⟨by rw [nl_one]; exact (h.rm hw hN).1, by rw [nl_one, h.u]; rfl, ?_, by rw [h.b]; rfl⟩
  rw [nl_one, vl_s, vl_0]
  have e : dgt (MT ca x n w N) q 0 = 1 := by
    show u32 (mA (MT ca x n w N) (mR (MT ca x n w N) q 0) 0) = 1
    rw [h.r, h.a]
    rfl
  rw [e]
  rfl
theorem NDL_map {l : List Nat} (h : ∀ i, i < l.length → ∀ j, j < l.length → l[i]? = l[j]? → i = j) : NDL (l.map (fun d => x + (d + 2 * n))) := by
  intro i j b hi hj
  rw [List.getElem?_map] at hi hj
  cases h1 : l[i]? with
  | none => rw [h1] at hi; cases hi
  | some u =>
    cases h2 : l[j]? with
    | none => rw [h2] at hj; cases hj
    | some v =>
      rw [h1] at hi
      rw [h2] at hj
      have e1 : x + (u + 2 * n) = b := Option.some.inj hi
      have e2 : x + (v + 2 * n) = b := Option.some.inj hj
      have huv : u = v := by omega
      exact h i (List.getElem?_eq_some_iff.mp h1).1 j (List.getElem?_eq_some_iff.mp h2).1 (by rw [h1, h2, huv])
def s00 : ST := (fun _ => 0, fun _ => 0, 0, fun _ => 0, 0, 0)
theorem T_MB (hn : 1 ≤ n ∧ n ≤ 16) (hw : 1 ≤ w ∧ w ≤ 40) (hN : N = 2 * w + 2) : MB (GT ca x n w N) (MT ca x n w N) (MT ca x n w N) (ET x n w) := by
  have hNW : ∀ d, 2 ≤ d → d < 94 → KDL.getD (d - 2) 99 = 8 → (LNL w N).getD (d - 1) 0 = N → rmw (GT ca x n w N) (MT ca x n w N) (x + (d + 2 * n)) = 2 * w + 2 := fun d h1 h2 h3 h4 => by
    unfold rmw
    rw [(nw_c d h1 h2 h3).r, show x + (d + 2 * n) + 1 = x + ((d + 1) + 2 * n) by omega]
    show lnF x n w N _ = _
    rw [ln_c (by omega) rfl, show d + 1 - 2 = d - 1 by omega, h4, hN]
  refine ⟨⟨fun q hq => ?_, fun q y hq hy e => ?_⟩, fun k h1 h2 => ?_, ?_, fun i hi => ?_, fun i hi => ?_, ⟨fun c y h3 h7 hy => ?_, ?_, ?_, ?_⟩, ⟨?_, ?_⟩, ?_, fun q hq => ?_, fun a _ => ⟨fun _ => rfl, fun _ => rfl, rfl⟩⟩
  · obtain ⟨v, h⟩ := nw_all hq
    exact h.rm hw hN
  · obtain ⟨v, h⟩ := nw_all hq
    obtain ⟨u, g⟩ := nw_all hy
    rw [h.r, g.r] at e
    omega
  · rw [eA_0]
    show rOf (FT ca x n w N x) k = _
    rw [FT_this]
    match k, h1, h2 with
    | 1, _, _ => rfl
    | 2, _, _ => rfl
    | 3, _, _ => rfl
    | 4, _, _ => rfl
    | 5, _, _ => rfl
    | 6, _, _ => rfl
    | 7, _, _ => rfl
    | 8, _, _ => rfl
    | 9, _, _ => rfl
    | 10, _, _ => rfl
    | 11, _, _ => rfl
    | 12, _, _ => rfl
    | (k + 13), _, h => omega
  · rw [eA_0]
    show iOf (FT ca x n w N x) 0 = _
    rw [FT_this]
    rfl
  · rw [eA_1]
    have hi' : i < n := hi
    show rOf (FT ca x n w N (x + 1)) i = _
    rw [pt_1]
    show (if i < n then some (x + 2 + 2 * i) else none).getD 0 = _
    rw [if_pos hi']
    rfl
  · have hi' : i < n := hi
    show rmw (GT ca x n w N) (MT ca x n w N) (x + 2 + 2 * i) = w
    unfold rmw
    rw [(nw_r hi').r]
    exact ln_l hi'
  · obtain ⟨d, hd, rfl⟩ := List.mem_map.mp hy
    have h := X_dec c h3 h7 d hd
    refine hNW d h.1.1 h.1.2 h.2.1 ?_
    have hc : c = 3 ∨ c = 4 ∨ c = 5 ∨ c = 6 ∨ c = 7 := by omega
    rcases hc with rfl | rfl | rfl | rfl | rfl
    all_goals (unfold XCL at hd; simp only [List.mem_cons, List.not_mem_nil, or_false] at hd)
    · rcases hd with rfl | rfl | rfl | rfl | rfl <;> rfl
    · rcases hd with rfl | rfl | rfl | rfl | rfl | rfl <;> rfl
    · rcases hd with rfl | rfl | rfl | rfl | rfl | rfl | rfl | rfl | rfl | rfl <;> rfl
    · rcases hd with rfl | rfl | rfl | rfl | rfl | rfl | rfl | rfl <;> rfl
    · rcases hd with rfl | rfl | rfl | rfl | rfl | rfl | rfl | rfl <;> rfl
  · rw [eA_c 10 (by decide)]; exact hNW 82 (by decide) (by decide) rfl rfl
  · rw [eA_c 11 (by decide)]; exact hNW 84 (by decide) (by decide) rfl rfl
  · rw [eA_c 17 (by decide)]; exact hNW 80 (by decide) (by decide) rfl rfl
  · rw [eA_c 12 (by decide)]; exact (nw_c 86 (by decide) (by decide) rfl).o hw hN
  · rw [eA_c 14 (by decide)]; exact (nw_c 70 (by decide) (by decide) rfl).o hw hN
  · rw [eA_c 2 (by decide)]
    show rOf (FT ca x n w N (x + (2 + 2 * n))) 0 = _
    rw [pt_2]
    show x + (2 + 2 * n) + 1 = x + (3 + 2 * n)
    omega
  · obtain ⟨v, h⟩ := nw_all hq
    rw [h.r]
    obtain ⟨-, L, -, h3, -⟩ := h
    refine ⟨h3.2, fun hz => ?_⟩
    have hz' : q + 1 ∈ [x + (88 + 2 * n), x + (89 + 2 * n), x + (90 + 2 * n), x + (91 + 2 * n), x + (92 + 2 * n), x + (93 + 2 * n)] := hz
    have hq8 : kdF x n q = 8 := hq.2
    simp only [List.mem_cons, List.not_mem_nil, or_false] at hz'
    have hh : ∃ c, q = x + (c + 2 * n) ∧ 87 ≤ c ∧ c < 93 := by
      rcases hz' with g | g | g | g | g | g
      · exact ⟨87, by omega, by decide, by decide⟩
      · exact ⟨88, by omega, by decide, by decide⟩
      · exact ⟨89, by omega, by decide, by decide⟩
      · exact ⟨90, by omega, by decide, by decide⟩
      · exact ⟨91, by omega, by decide, by decide⟩
      · exact ⟨92, by omega, by decide, by decide⟩
    obtain ⟨c, rfl, g1, g2⟩ := hh
    rw [kd_c (by omega) rfl] at hq8
    have hd : ∀ c, c < 93 → 87 ≤ c → KDL.getD (c - 2) 99 ≠ 8 := by decide
    exact hd c g2 g1 hq8
end Start
