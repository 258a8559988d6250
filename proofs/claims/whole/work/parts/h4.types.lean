/-! references point at what they must (made by wip/gen/types.py) -/
section Types
variable {ca : Nat → ClassId} {x n w N : Nat}
theorem ty_0 : ∀ (k t : Nat), (rT 9)[k]? = some t → t < 99 → Is (GT ca x n w N) t (mR (MT ca x n w N) (x) k) := by
  intro k t hk ht
  match k, hk with
  | 0, hk => cases hk; omega
  | 1, hk =>
    cases hk
    show Is _ 13 (rOf (FT ca x n w N (x)) 1)
    rw [FT_this]
    exact is_1
  | 2, hk =>
    cases hk
    show Is _ 0 (rOf (FT ca x n w N (x)) 2)
    rw [FT_this]
    show Is _ 0 (x + (2 + 2 * n))
    rw [show x + (2 + 2 * n) = x + (2 + 2 * n) by omega]
    exact is_c (by decide) (by decide) rfl
  | 3, hk =>
    cases hk
    show Is _ 1 (rOf (FT ca x n w N (x)) 3)
    rw [FT_this]
    show Is _ 1 (x + (5 + 2 * n))
    rw [show x + (5 + 2 * n) = x + (5 + 2 * n) by omega]
    exact is_c (by decide) (by decide) rfl
  | 4, hk =>
    cases hk
    show Is _ 3 (rOf (FT ca x n w N (x)) 4)
    rw [FT_this]
    show Is _ 3 (x + (14 + 2 * n))
    rw [show x + (14 + 2 * n) = x + (14 + 2 * n) by omega]
    exact is_c (by decide) (by decide) rfl
  | 5, hk =>
    cases hk
    show Is _ 2 (rOf (FT ca x n w N (x)) 5)
    rw [FT_this]
    show Is _ 2 (x + (25 + 2 * n))
    rw [show x + (25 + 2 * n) = x + (25 + 2 * n) by omega]
    exact is_c (by decide) (by decide) rfl
  | 6, hk =>
    cases hk
    show Is _ 5 (rOf (FT ca x n w N (x)) 6)
    rw [FT_this]
    show Is _ 5 (x + (44 + 2 * n))
    rw [show x + (44 + 2 * n) = x + (44 + 2 * n) by omega]
    exact is_c (by decide) (by decide) rfl
  | 7, hk =>
    cases hk
    show Is _ 6 (rOf (FT ca x n w N (x)) 7)
    rw [FT_this]
    show Is _ 6 (x + (59 + 2 * n))
    rw [show x + (59 + 2 * n) = x + (59 + 2 * n) by omega]
    exact is_c (by decide) (by decide) rfl
  | 8, hk =>
    cases hk
    show Is _ 7 (rOf (FT ca x n w N (x)) 8)
    rw [FT_this]
    show Is _ 7 (x + (76 + 2 * n))
    rw [show x + (76 + 2 * n) = x + (76 + 2 * n) by omega]
    exact is_c (by decide) (by decide) rfl
  | 9, hk =>
    cases hk
    show Is _ 4 (rOf (FT ca x n w N (x)) 9)
    rw [FT_this]
    show Is _ 4 (x + (78 + 2 * n))
    rw [show x + (78 + 2 * n) = x + (78 + 2 * n) by omega]
    exact is_c (by decide) (by decide) rfl
  | 10, hk =>
    cases hk
    show Is _ 8 (rOf (FT ca x n w N (x)) 10)
    rw [FT_this]
    show Is _ 8 (x + (82 + 2 * n))
    rw [show x + (82 + 2 * n) = x + (82 + 2 * n) by omega]
    exact is_c (by decide) (by decide) rfl
  | 11, hk =>
    cases hk
    show Is _ 8 (rOf (FT ca x n w N (x)) 11)
    rw [FT_this]
    show Is _ 8 (x + (84 + 2 * n))
    rw [show x + (84 + 2 * n) = x + (84 + 2 * n) by omega]
    exact is_c (by decide) (by decide) rfl
  | 12, hk =>
    cases hk
    show Is _ 8 (rOf (FT ca x n w N (x)) 12)
    rw [FT_this]
    show Is _ 8 (x + (86 + 2 * n))
    rw [show x + (86 + 2 * n) = x + (86 + 2 * n) by omega]
    exact is_c (by decide) (by decide) rfl
  | 13, hk => cases hk; omega
  | (k + 14), hk => cases hk
theorem ty_2 : ∀ (k t : Nat), (rT 0)[k]? = some t → t < 99 → Is (GT ca x n w N) t (mR (MT ca x n w N) (x + (2 + 2 * n)) k) := by
  intro k t hk ht
  match k, hk with
  | 0, hk =>
    cases hk
    show Is _ 8 (rOf (FT ca x n w N (x + (2 + 2 * n))) 0)
    rw [pt_2]
    show Is _ 8 ((x + (2 + 2 * n)) + 1)
    rw [show (x + (2 + 2 * n)) + 1 = x + (3 + 2 * n) by omega]
    exact is_c (by decide) (by decide) rfl
  | (k + 1), hk => cases hk
theorem ty_3 : ∀ (k t : Nat), (rT 8)[k]? = some t → t < 99 → Is (GT ca x n w N) t (mR (MT ca x n w N) (x + (3 + 2 * n)) k) := by
  intro k t hk ht
  match k, hk with
  | 0, hk =>
    cases hk
    show Is _ 12 (rOf (FT ca x n w N (x + (3 + 2 * n))) 0)
    rw [pt_3]
    show Is _ 12 (x + (3 + 2 * n) + 1)
    rw [show x + (3 + 2 * n) + 1 = x + (4 + 2 * n) by omega]
    exact is_c (by decide) (by decide) rfl
  | 1, hk => cases hk; omega
  | 2, hk => cases hk; omega
  | (k + 3), hk => cases hk
theorem ty_5 : ∀ (k t : Nat), (rT 1)[k]? = some t → t < 99 → Is (GT ca x n w N) t (mR (MT ca x n w N) (x + (5 + 2 * n)) k) := by
  intro k t hk ht
  match k, hk with
  | 0, hk =>
    cases hk
    show Is _ 0 (rOf (FT ca x n w N (x + (5 + 2 * n))) 0)
    rw [pt_5]
    show Is _ 0 (x + (2 + 2 * n))
    rw [show x + (2 + 2 * n) = x + (2 + 2 * n) by omega]
    exact is_c (by decide) (by decide) rfl
  | 1, hk =>
    cases hk
    show Is _ 8 (rOf (FT ca x n w N (x + (5 + 2 * n))) 1)
    rw [pt_5]
    show Is _ 8 ((x + (5 + 2 * n)) + 1)
    rw [show (x + (5 + 2 * n)) + 1 = x + (6 + 2 * n) by omega]
    exact is_c (by decide) (by decide) rfl
  | 2, hk =>
    cases hk
    show Is _ 8 (rOf (FT ca x n w N (x + (5 + 2 * n))) 2)
    rw [pt_5]
    show Is _ 8 ((x + (5 + 2 * n)) + 3)
    rw [show (x + (5 + 2 * n)) + 3 = x + (8 + 2 * n) by omega]
    exact is_c (by decide) (by decide) rfl
  | 3, hk =>
    cases hk
    show Is _ 8 (rOf (FT ca x n w N (x + (5 + 2 * n))) 3)
    rw [pt_5]
    show Is _ 8 ((x + (5 + 2 * n)) + 5)
    rw [show (x + (5 + 2 * n)) + 5 = x + (10 + 2 * n) by omega]
    exact is_c (by decide) (by decide) rfl
  | 4, hk =>
    cases hk
    show Is _ 8 (rOf (FT ca x n w N (x + (5 + 2 * n))) 4)
    rw [pt_5]
    show Is _ 8 ((x + (5 + 2 * n)) + 7)
    rw [show (x + (5 + 2 * n)) + 7 = x + (12 + 2 * n) by omega]
    exact is_c (by decide) (by decide) rfl
  | (k + 5), hk => cases hk
theorem ty_6 : ∀ (k t : Nat), (rT 8)[k]? = some t → t < 99 → Is (GT ca x n w N) t (mR (MT ca x n w N) (x + (6 + 2 * n)) k) := by
  intro k t hk ht
  match k, hk with
  | 0, hk =>
    cases hk
    show Is _ 12 (rOf (FT ca x n w N (x + (6 + 2 * n))) 0)
    rw [pt_6]
    show Is _ 12 (x + (6 + 2 * n) + 1)
    rw [show x + (6 + 2 * n) + 1 = x + (7 + 2 * n) by omega]
    exact is_c (by decide) (by decide) rfl
  | 1, hk => cases hk; omega
  | 2, hk => cases hk; omega
  | (k + 3), hk => cases hk
theorem ty_8 : ∀ (k t : Nat), (rT 8)[k]? = some t → t < 99 → Is (GT ca x n w N) t (mR (MT ca x n w N) (x + (8 + 2 * n)) k) := by
  intro k t hk ht
  match k, hk with
  | 0, hk =>
    cases hk
    show Is _ 12 (rOf (FT ca x n w N (x + (8 + 2 * n))) 0)
    rw [pt_8]
    show Is _ 12 (x + (8 + 2 * n) + 1)
    rw [show x + (8 + 2 * n) + 1 = x + (9 + 2 * n) by omega]
    exact is_c (by decide) (by decide) rfl
  | 1, hk => cases hk; omega
  | 2, hk => cases hk; omega
  | (k + 3), hk => cases hk
theorem ty_10 : ∀ (k t : Nat), (rT 8)[k]? = some t → t < 99 → Is (GT ca x n w N) t (mR (MT ca x n w N) (x + (10 + 2 * n)) k) := by
  intro k t hk ht
  match k, hk with
  | 0, hk =>
    cases hk
    show Is _ 12 (rOf (FT ca x n w N (x + (10 + 2 * n))) 0)
    rw [pt_10]
    show Is _ 12 (x + (10 + 2 * n) + 1)
    rw [show x + (10 + 2 * n) + 1 = x + (11 + 2 * n) by omega]
    exact is_c (by decide) (by decide) rfl
  | 1, hk => cases hk; omega
  | 2, hk => cases hk; omega
  | (k + 3), hk => cases hk
theorem ty_12 : ∀ (k t : Nat), (rT 8)[k]? = some t → t < 99 → Is (GT ca x n w N) t (mR (MT ca x n w N) (x + (12 + 2 * n)) k) := by
  intro k t hk ht
  match k, hk with
  | 0, hk =>
    cases hk
    show Is _ 12 (rOf (FT ca x n w N (x + (12 + 2 * n))) 0)
    rw [pt_12]
    show Is _ 12 (x + (12 + 2 * n) + 1)
    rw [show x + (12 + 2 * n) + 1 = x + (13 + 2 * n) by omega]
    exact is_c (by decide) (by decide) rfl
  | 1, hk => cases hk; omega
  | 2, hk => cases hk; omega
  | (k + 3), hk => cases hk
theorem ty_14 : ∀ (k t : Nat), (rT 3)[k]? = some t → t < 99 → Is (GT ca x n w N) t (mR (MT ca x n w N) (x + (14 + 2 * n)) k) := by
  intro k t hk ht
  match k, hk with
  | 0, hk => cases hk; omega
  | 1, hk =>
    cases hk
    show Is _ 0 (rOf (FT ca x n w N (x + (14 + 2 * n))) 1)
    rw [pt_14]
    show Is _ 0 (x + (2 + 2 * n))
    rw [show x + (2 + 2 * n) = x + (2 + 2 * n) by omega]
    exact is_c (by decide) (by decide) rfl
  | 2, hk =>
    cases hk
    show Is _ 8 (rOf (FT ca x n w N (x + (14 + 2 * n))) 2)
    rw [pt_14]
    show Is _ 8 ((x + (14 + 2 * n)) + 1)
    rw [show (x + (14 + 2 * n)) + 1 = x + (15 + 2 * n) by omega]
    exact is_c (by decide) (by decide) rfl
  | 3, hk =>
    cases hk
    show Is _ 8 (rOf (FT ca x n w N (x + (14 + 2 * n))) 3)
    rw [pt_14]
    show Is _ 8 ((x + (14 + 2 * n)) + 3)
    rw [show (x + (14 + 2 * n)) + 3 = x + (17 + 2 * n) by omega]
    exact is_c (by decide) (by decide) rfl
  | 4, hk =>
    cases hk
    show Is _ 8 (rOf (FT ca x n w N (x + (14 + 2 * n))) 4)
    rw [pt_14]
    show Is _ 8 ((x + (14 + 2 * n)) + 5)
    rw [show (x + (14 + 2 * n)) + 5 = x + (19 + 2 * n) by omega]
    exact is_c (by decide) (by decide) rfl
  | 5, hk =>
    cases hk
    show Is _ 8 (rOf (FT ca x n w N (x + (14 + 2 * n))) 5)
    rw [pt_14]
    show Is _ 8 ((x + (14 + 2 * n)) + 7)
    rw [show (x + (14 + 2 * n)) + 7 = x + (21 + 2 * n) by omega]
    exact is_c (by decide) (by decide) rfl
  | 6, hk =>
    cases hk
    show Is _ 8 (rOf (FT ca x n w N (x + (14 + 2 * n))) 6)
    rw [pt_14]
    show Is _ 8 ((x + (14 + 2 * n)) + 9)
    rw [show (x + (14 + 2 * n)) + 9 = x + (23 + 2 * n) by omega]
    exact is_c (by decide) (by decide) rfl
  | 7, hk => cases hk; omega
  | 8, hk => cases hk; omega
  | 9, hk => cases hk; omega
  | 10, hk => cases hk; omega
  | (k + 11), hk => cases hk
theorem ty_15 : ∀ (k t : Nat), (rT 8)[k]? = some t → t < 99 → Is (GT ca x n w N) t (mR (MT ca x n w N) (x + (15 + 2 * n)) k) := by
  intro k t hk ht
  match k, hk with
  | 0, hk =>
    cases hk
    show Is _ 12 (rOf (FT ca x n w N (x + (15 + 2 * n))) 0)
    rw [pt_15]
    show Is _ 12 (x + (15 + 2 * n) + 1)
    rw [show x + (15 + 2 * n) + 1 = x + (16 + 2 * n) by omega]
    exact is_c (by decide) (by decide) rfl
  | 1, hk => cases hk; omega
  | 2, hk => cases hk; omega
  | (k + 3), hk => cases hk
theorem ty_17 : ∀ (k t : Nat), (rT 8)[k]? = some t → t < 99 → Is (GT ca x n w N) t (mR (MT ca x n w N) (x + (17 + 2 * n)) k) := by
  intro k t hk ht
  match k, hk with
  | 0, hk =>
    cases hk
    show Is _ 12 (rOf (FT ca x n w N (x + (17 + 2 * n))) 0)
    rw [pt_17]
    show Is _ 12 (x + (17 + 2 * n) + 1)
    rw [show x + (17 + 2 * n) + 1 = x + (18 + 2 * n) by omega]
    exact is_c (by decide) (by decide) rfl
  | 1, hk => cases hk; omega
  | 2, hk => cases hk; omega
  | (k + 3), hk => cases hk
theorem ty_19 : ∀ (k t : Nat), (rT 8)[k]? = some t → t < 99 → Is (GT ca x n w N) t (mR (MT ca x n w N) (x + (19 + 2 * n)) k) := by
  intro k t hk ht
  match k, hk with
  | 0, hk =>
    cases hk
    show Is _ 12 (rOf (FT ca x n w N (x + (19 + 2 * n))) 0)
    rw [pt_19]
    show Is _ 12 (x + (19 + 2 * n) + 1)
    rw [show x + (19 + 2 * n) + 1 = x + (20 + 2 * n) by omega]
    exact is_c (by decide) (by decide) rfl
  | 1, hk => cases hk; omega
  | 2, hk => cases hk; omega
  | (k + 3), hk => cases hk
theorem ty_21 : ∀ (k t : Nat), (rT 8)[k]? = some t → t < 99 → Is (GT ca x n w N) t (mR (MT ca x n w N) (x + (21 + 2 * n)) k) := by
  intro k t hk ht
  match k, hk with
  | 0, hk =>
    cases hk
    show Is _ 12 (rOf (FT ca x n w N (x + (21 + 2 * n))) 0)
    rw [pt_21]
    show Is _ 12 (x + (21 + 2 * n) + 1)
    rw [show x + (21 + 2 * n) + 1 = x + (22 + 2 * n) by omega]
    exact is_c (by decide) (by decide) rfl
  | 1, hk => cases hk; omega
  | 2, hk => cases hk; omega
  | (k + 3), hk => cases hk
theorem ty_23 : ∀ (k t : Nat), (rT 8)[k]? = some t → t < 99 → Is (GT ca x n w N) t (mR (MT ca x n w N) (x + (23 + 2 * n)) k) := by
  intro k t hk ht
  match k, hk with
  | 0, hk =>
    cases hk
    show Is _ 12 (rOf (FT ca x n w N (x + (23 + 2 * n))) 0)
    rw [pt_23]
    show Is _ 12 (x + (23 + 2 * n) + 1)
    rw [show x + (23 + 2 * n) + 1 = x + (24 + 2 * n) by omega]
    exact is_c (by decide) (by decide) rfl
  | 1, hk => cases hk; omega
  | 2, hk => cases hk; omega
  | (k + 3), hk => cases hk
theorem ty_25 : ∀ (k t : Nat), (rT 2)[k]? = some t → t < 99 → Is (GT ca x n w N) t (mR (MT ca x n w N) (x + (25 + 2 * n)) k) := by
  intro k t hk ht
  match k, hk with
  | 0, hk =>
    cases hk
    show Is _ 8 (rOf (FT ca x n w N (x + (25 + 2 * n))) 0)
    rw [pt_25]
    show Is _ 8 ((x + (25 + 2 * n)) + 5)
    rw [show (x + (25 + 2 * n)) + 5 = x + (30 + 2 * n) by omega]
    exact is_c (by decide) (by decide) rfl
  | 1, hk =>
    cases hk
    show Is _ 8 (rOf (FT ca x n w N (x + (25 + 2 * n))) 1)
    rw [pt_25]
    show Is _ 8 ((x + (25 + 2 * n)) + 11)
    rw [show (x + (25 + 2 * n)) + 11 = x + (36 + 2 * n) by omega]
    exact is_c (by decide) (by decide) rfl
  | 2, hk =>
    cases hk
    show Is _ 8 (rOf (FT ca x n w N (x + (25 + 2 * n))) 2)
    rw [pt_25]
    show Is _ 8 ((x + (25 + 2 * n)) + 15)
    rw [show (x + (25 + 2 * n)) + 15 = x + (40 + 2 * n) by omega]
    exact is_c (by decide) (by decide) rfl
  | 3, hk =>
    cases hk
    show Is _ 0 (rOf (FT ca x n w N (x + (25 + 2 * n))) 3)
    rw [pt_25]
    show Is _ 0 (x + (2 + 2 * n))
    rw [show x + (2 + 2 * n) = x + (2 + 2 * n) by omega]
    exact is_c (by decide) (by decide) rfl
  | 4, hk =>
    cases hk
    show Is _ 8 (rOf (FT ca x n w N (x + (25 + 2 * n))) 4)
    rw [pt_25]
    show Is _ 8 ((x + (25 + 2 * n)) + 1)
    rw [show (x + (25 + 2 * n)) + 1 = x + (26 + 2 * n) by omega]
    exact is_c (by decide) (by decide) rfl
  | 5, hk =>
    cases hk
    show Is _ 8 (rOf (FT ca x n w N (x + (25 + 2 * n))) 5)
    rw [pt_25]
    show Is _ 8 ((x + (25 + 2 * n)) + 3)
    rw [show (x + (25 + 2 * n)) + 3 = x + (28 + 2 * n) by omega]
    exact is_c (by decide) (by decide) rfl
  | 6, hk =>
    cases hk
    show Is _ 8 (rOf (FT ca x n w N (x + (25 + 2 * n))) 6)
    rw [pt_25]
    show Is _ 8 ((x + (25 + 2 * n)) + 7)
    rw [show (x + (25 + 2 * n)) + 7 = x + (32 + 2 * n) by omega]
    exact is_c (by decide) (by decide) rfl
  | 7, hk =>
    cases hk
    show Is _ 8 (rOf (FT ca x n w N (x + (25 + 2 * n))) 7)
    rw [pt_25]
    show Is _ 8 ((x + (25 + 2 * n)) + 9)
    rw [show (x + (25 + 2 * n)) + 9 = x + (34 + 2 * n) by omega]
    exact is_c (by decide) (by decide) rfl
  | 8, hk =>
    cases hk
    show Is _ 8 (rOf (FT ca x n w N (x + (25 + 2 * n))) 8)
    rw [pt_25]
    show Is _ 8 ((x + (25 + 2 * n)) + 13)
    rw [show (x + (25 + 2 * n)) + 13 = x + (38 + 2 * n) by omega]
    exact is_c (by decide) (by decide) rfl
  | 9, hk =>
    cases hk
    show Is _ 8 (rOf (FT ca x n w N (x + (25 + 2 * n))) 9)
    rw [pt_25]
    show Is _ 8 ((x + (25 + 2 * n)) + 17)
    rw [show (x + (25 + 2 * n)) + 17 = x + (42 + 2 * n) by omega]
    exact is_c (by decide) (by decide) rfl
  | (k + 10), hk => cases hk
theorem ty_26 : ∀ (k t : Nat), (rT 8)[k]? = some t → t < 99 → Is (GT ca x n w N) t (mR (MT ca x n w N) (x + (26 + 2 * n)) k) := by
  intro k t hk ht
  match k, hk with
  | 0, hk =>
    cases hk
    show Is _ 12 (rOf (FT ca x n w N (x + (26 + 2 * n))) 0)
    rw [pt_26]
    show Is _ 12 (x + (26 + 2 * n) + 1)
    rw [show x + (26 + 2 * n) + 1 = x + (27 + 2 * n) by omega]
    exact is_c (by decide) (by decide) rfl
  | 1, hk => cases hk; omega
  | 2, hk => cases hk; omega
  | (k + 3), hk => cases hk
theorem ty_28 : ∀ (k t : Nat), (rT 8)[k]? = some t → t < 99 → Is (GT ca x n w N) t (mR (MT ca x n w N) (x + (28 + 2 * n)) k) := by
  intro k t hk ht
  match k, hk with
  | 0, hk =>
    cases hk
    show Is _ 12 (rOf (FT ca x n w N (x + (28 + 2 * n))) 0)
    rw [pt_28]
    show Is _ 12 (x + (28 + 2 * n) + 1)
    rw [show x + (28 + 2 * n) + 1 = x + (29 + 2 * n) by omega]
    exact is_c (by decide) (by decide) rfl
  | 1, hk => cases hk; omega
  | 2, hk => cases hk; omega
  | (k + 3), hk => cases hk
theorem ty_30 : ∀ (k t : Nat), (rT 8)[k]? = some t → t < 99 → Is (GT ca x n w N) t (mR (MT ca x n w N) (x + (30 + 2 * n)) k) := by
  intro k t hk ht
  match k, hk with
  | 0, hk =>
    cases hk
    show Is _ 12 (rOf (FT ca x n w N (x + (30 + 2 * n))) 0)
    rw [pt_30]
    show Is _ 12 (x + (30 + 2 * n) + 1)
    rw [show x + (30 + 2 * n) + 1 = x + (31 + 2 * n) by omega]
    exact is_c (by decide) (by decide) rfl
  | 1, hk => cases hk; omega
  | 2, hk => cases hk; omega
  | (k + 3), hk => cases hk
theorem ty_32 : ∀ (k t : Nat), (rT 8)[k]? = some t → t < 99 → Is (GT ca x n w N) t (mR (MT ca x n w N) (x + (32 + 2 * n)) k) := by
  intro k t hk ht
  match k, hk with
  | 0, hk =>
    cases hk
    show Is _ 12 (rOf (FT ca x n w N (x + (32 + 2 * n))) 0)
    rw [pt_32]
    show Is _ 12 (x + (32 + 2 * n) + 1)
    rw [show x + (32 + 2 * n) + 1 = x + (33 + 2 * n) by omega]
    exact is_c (by decide) (by decide) rfl
  | 1, hk => cases hk; omega
  | 2, hk => cases hk; omega
  | (k + 3), hk => cases hk
theorem ty_34 : ∀ (k t : Nat), (rT 8)[k]? = some t → t < 99 → Is (GT ca x n w N) t (mR (MT ca x n w N) (x + (34 + 2 * n)) k) := by
  intro k t hk ht
  match k, hk with
  | 0, hk =>
    cases hk
    show Is _ 12 (rOf (FT ca x n w N (x + (34 + 2 * n))) 0)
    rw [pt_34]
    show Is _ 12 (x + (34 + 2 * n) + 1)
    rw [show x + (34 + 2 * n) + 1 = x + (35 + 2 * n) by omega]
    exact is_c (by decide) (by decide) rfl
  | 1, hk => cases hk; omega
  | 2, hk => cases hk; omega
  | (k + 3), hk => cases hk
theorem ty_36 : ∀ (k t : Nat), (rT 8)[k]? = some t → t < 99 → Is (GT ca x n w N) t (mR (MT ca x n w N) (x + (36 + 2 * n)) k) := by
  intro k t hk ht
  match k, hk with
  | 0, hk =>
    cases hk
    show Is _ 12 (rOf (FT ca x n w N (x + (36 + 2 * n))) 0)
    rw [pt_36]
    show Is _ 12 (x + (36 + 2 * n) + 1)
    rw [show x + (36 + 2 * n) + 1 = x + (37 + 2 * n) by omega]
    exact is_c (by decide) (by decide) rfl
  | 1, hk => cases hk; omega
  | 2, hk => cases hk; omega
  | (k + 3), hk => cases hk
theorem ty_38 : ∀ (k t : Nat), (rT 8)[k]? = some t → t < 99 → Is (GT ca x n w N) t (mR (MT ca x n w N) (x + (38 + 2 * n)) k) := by
  intro k t hk ht
  match k, hk with
  | 0, hk =>
    cases hk
    show Is _ 12 (rOf (FT ca x n w N (x + (38 + 2 * n))) 0)
    rw [pt_38]
    show Is _ 12 (x + (38 + 2 * n) + 1)
    rw [show x + (38 + 2 * n) + 1 = x + (39 + 2 * n) by omega]
    exact is_c (by decide) (by decide) rfl
  | 1, hk => cases hk; omega
  | 2, hk => cases hk; omega
  | (k + 3), hk => cases hk
theorem ty_40 : ∀ (k t : Nat), (rT 8)[k]? = some t → t < 99 → Is (GT ca x n w N) t (mR (MT ca x n w N) (x + (40 + 2 * n)) k) := by
  intro k t hk ht
  match k, hk with
  | 0, hk =>
    cases hk
    show Is _ 12 (rOf (FT ca x n w N (x + (40 + 2 * n))) 0)
    rw [pt_40]
    show Is _ 12 (x + (40 + 2 * n) + 1)
    rw [show x + (40 + 2 * n) + 1 = x + (41 + 2 * n) by omega]
    exact is_c (by decide) (by decide) rfl
  | 1, hk => cases hk; omega
  | 2, hk => cases hk; omega
  | (k + 3), hk => cases hk
theorem ty_42 : ∀ (k t : Nat), (rT 8)[k]? = some t → t < 99 → Is (GT ca x n w N) t (mR (MT ca x n w N) (x + (42 + 2 * n)) k) := by
  intro k t hk ht
  match k, hk with
  | 0, hk =>
    cases hk
    show Is _ 12 (rOf (FT ca x n w N (x + (42 + 2 * n))) 0)
    rw [pt_42]
    show Is _ 12 (x + (42 + 2 * n) + 1)
    rw [show x + (42 + 2 * n) + 1 = x + (43 + 2 * n) by omega]
    exact is_c (by decide) (by decide) rfl
  | 1, hk => cases hk; omega
  | 2, hk => cases hk; omega
  | (k + 3), hk => cases hk
theorem ty_44 : ∀ (k t : Nat), (rT 5)[k]? = some t → t < 99 → Is (GT ca x n w N) t (mR (MT ca x n w N) (x + (44 + 2 * n)) k) := by
  intro k t hk ht
  match k, hk with
  | 0, hk =>
    cases hk
    show Is _ 0 (rOf (FT ca x n w N (x + (44 + 2 * n))) 0)
    rw [pt_44]
    show Is _ 0 (x + (2 + 2 * n))
    rw [show x + (2 + 2 * n) = x + (2 + 2 * n) by omega]
    exact is_c (by decide) (by decide) rfl
  | 1, hk =>
    cases hk
    show Is _ 8 (rOf (FT ca x n w N (x + (44 + 2 * n))) 1)
    rw [pt_44]
    show Is _ 8 ((x + (44 + 2 * n)) + 1)
    rw [show (x + (44 + 2 * n)) + 1 = x + (45 + 2 * n) by omega]
    exact is_c (by decide) (by decide) rfl
  | 2, hk =>
    cases hk
    show Is _ 8 (rOf (FT ca x n w N (x + (44 + 2 * n))) 2)
    rw [pt_44]
    show Is _ 8 ((x + (44 + 2 * n)) + 3)
    rw [show (x + (44 + 2 * n)) + 3 = x + (47 + 2 * n) by omega]
    exact is_c (by decide) (by decide) rfl
  | 3, hk =>
    cases hk
    show Is _ 8 (rOf (FT ca x n w N (x + (44 + 2 * n))) 3)
    rw [pt_44]
    show Is _ 8 ((x + (44 + 2 * n)) + 5)
    rw [show (x + (44 + 2 * n)) + 5 = x + (49 + 2 * n) by omega]
    exact is_c (by decide) (by decide) rfl
  | 4, hk =>
    cases hk
    show Is _ 8 (rOf (FT ca x n w N (x + (44 + 2 * n))) 4)
    rw [pt_44]
    show Is _ 8 ((x + (44 + 2 * n)) + 7)
    rw [show (x + (44 + 2 * n)) + 7 = x + (51 + 2 * n) by omega]
    exact is_c (by decide) (by decide) rfl
  | 5, hk =>
    cases hk
    show Is _ 8 (rOf (FT ca x n w N (x + (44 + 2 * n))) 5)
    rw [pt_44]
    show Is _ 8 ((x + (44 + 2 * n)) + 9)
    rw [show (x + (44 + 2 * n)) + 9 = x + (53 + 2 * n) by omega]
    exact is_c (by decide) (by decide) rfl
  | 6, hk =>
    cases hk
    show Is _ 8 (rOf (FT ca x n w N (x + (44 + 2 * n))) 6)
    rw [pt_44]
    show Is _ 8 ((x + (44 + 2 * n)) + 11)
    rw [show (x + (44 + 2 * n)) + 11 = x + (55 + 2 * n) by omega]
    exact is_c (by decide) (by decide) rfl
  | 7, hk =>
    cases hk
    show Is _ 8 (rOf (FT ca x n w N (x + (44 + 2 * n))) 7)
    rw [pt_44]
    show Is _ 8 ((x + (44 + 2 * n)) + 13)
    rw [show (x + (44 + 2 * n)) + 13 = x + (57 + 2 * n) by omega]
    exact is_c (by decide) (by decide) rfl
  | (k + 8), hk => cases hk
theorem ty_45 : ∀ (k t : Nat), (rT 8)[k]? = some t → t < 99 → Is (GT ca x n w N) t (mR (MT ca x n w N) (x + (45 + 2 * n)) k) := by
  intro k t hk ht
  match k, hk with
  | 0, hk =>
    cases hk
    show Is _ 12 (rOf (FT ca x n w N (x + (45 + 2 * n))) 0)
    rw [pt_45]
    show Is _ 12 (x + (45 + 2 * n) + 1)
    rw [show x + (45 + 2 * n) + 1 = x + (46 + 2 * n) by omega]
    exact is_c (by decide) (by decide) rfl
  | 1, hk => cases hk; omega
  | 2, hk => cases hk; omega
  | (k + 3), hk => cases hk
theorem ty_47 : ∀ (k t : Nat), (rT 8)[k]? = some t → t < 99 → Is (GT ca x n w N) t (mR (MT ca x n w N) (x + (47 + 2 * n)) k) := by
  intro k t hk ht
  match k, hk with
  | 0, hk =>
    cases hk
    show Is _ 12 (rOf (FT ca x n w N (x + (47 + 2 * n))) 0)
    rw [pt_47]
    show Is _ 12 (x + (47 + 2 * n) + 1)
    rw [show x + (47 + 2 * n) + 1 = x + (48 + 2 * n) by omega]
    exact is_c (by decide) (by decide) rfl
  | 1, hk => cases hk; omega
  | 2, hk => cases hk; omega
  | (k + 3), hk => cases hk
theorem ty_49 : ∀ (k t : Nat), (rT 8)[k]? = some t → t < 99 → Is (GT ca x n w N) t (mR (MT ca x n w N) (x + (49 + 2 * n)) k) := by
  intro k t hk ht
  match k, hk with
  | 0, hk =>
    cases hk
    show Is _ 12 (rOf (FT ca x n w N (x + (49 + 2 * n))) 0)
    rw [pt_49]
    show Is _ 12 (x + (49 + 2 * n) + 1)
    rw [show x + (49 + 2 * n) + 1 = x + (50 + 2 * n) by omega]
    exact is_c (by decide) (by decide) rfl
  | 1, hk => cases hk; omega
  | 2, hk => cases hk; omega
  | (k + 3), hk => cases hk
theorem ty_51 : ∀ (k t : Nat), (rT 8)[k]? = some t → t < 99 → Is (GT ca x n w N) t (mR (MT ca x n w N) (x + (51 + 2 * n)) k) := by
  intro k t hk ht
  match k, hk with
  | 0, hk =>
    cases hk
    show Is _ 12 (rOf (FT ca x n w N (x + (51 + 2 * n))) 0)
    rw [pt_51]
    show Is _ 12 (x + (51 + 2 * n) + 1)
    rw [show x + (51 + 2 * n) + 1 = x + (52 + 2 * n) by omega]
    exact is_c (by decide) (by decide) rfl
  | 1, hk => cases hk; omega
  | 2, hk => cases hk; omega
  | (k + 3), hk => cases hk
theorem ty_53 : ∀ (k t : Nat), (rT 8)[k]? = some t → t < 99 → Is (GT ca x n w N) t (mR (MT ca x n w N) (x + (53 + 2 * n)) k) := by
  intro k t hk ht
  match k, hk with
  | 0, hk =>
    cases hk
    show Is _ 12 (rOf (FT ca x n w N (x + (53 + 2 * n))) 0)
    rw [pt_53]
    show Is _ 12 (x + (53 + 2 * n) + 1)
    rw [show x + (53 + 2 * n) + 1 = x + (54 + 2 * n) by omega]
    exact is_c (by decide) (by decide) rfl
  | 1, hk => cases hk; omega
  | 2, hk => cases hk; omega
  | (k + 3), hk => cases hk
theorem ty_55 : ∀ (k t : Nat), (rT 8)[k]? = some t → t < 99 → Is (GT ca x n w N) t (mR (MT ca x n w N) (x + (55 + 2 * n)) k) := by
  intro k t hk ht
  match k, hk with
  | 0, hk =>
    cases hk
    show Is _ 12 (rOf (FT ca x n w N (x + (55 + 2 * n))) 0)
    rw [pt_55]
    show Is _ 12 (x + (55 + 2 * n) + 1)
    rw [show x + (55 + 2 * n) + 1 = x + (56 + 2 * n) by omega]
    exact is_c (by decide) (by decide) rfl
  | 1, hk => cases hk; omega
  | 2, hk => cases hk; omega
  | (k + 3), hk => cases hk
theorem ty_57 : ∀ (k t : Nat), (rT 8)[k]? = some t → t < 99 → Is (GT ca x n w N) t (mR (MT ca x n w N) (x + (57 + 2 * n)) k) := by
  intro k t hk ht
  match k, hk with
  | 0, hk =>
    cases hk
    show Is _ 12 (rOf (FT ca x n w N (x + (57 + 2 * n))) 0)
    rw [pt_57]
    show Is _ 12 (x + (57 + 2 * n) + 1)
    rw [show x + (57 + 2 * n) + 1 = x + (58 + 2 * n) by omega]
    exact is_c (by decide) (by decide) rfl
  | 1, hk => cases hk; omega
  | 2, hk => cases hk; omega
  | (k + 3), hk => cases hk
theorem ty_59 : ∀ (k t : Nat), (rT 6)[k]? = some t → t < 99 → Is (GT ca x n w N) t (mR (MT ca x n w N) (x + (59 + 2 * n)) k) := by
  intro k t hk ht
  match k, hk with
  | 0, hk =>
    cases hk
    show Is _ 0 (rOf (FT ca x n w N (x + (59 + 2 * n))) 0)
    rw [pt_59]
    show Is _ 0 (x + (2 + 2 * n))
    rw [show x + (2 + 2 * n) = x + (2 + 2 * n) by omega]
    exact is_c (by decide) (by decide) rfl
  | 1, hk =>
    cases hk
    show Is _ 8 (rOf (FT ca x n w N (x + (59 + 2 * n))) 1)
    rw [pt_59]
    show Is _ 8 ((x + (59 + 2 * n)) + 1)
    rw [show (x + (59 + 2 * n)) + 1 = x + (60 + 2 * n) by omega]
    exact is_c (by decide) (by decide) rfl
  | 2, hk =>
    cases hk
    show Is _ 8 (rOf (FT ca x n w N (x + (59 + 2 * n))) 2)
    rw [pt_59]
    show Is _ 8 ((x + (59 + 2 * n)) + 3)
    rw [show (x + (59 + 2 * n)) + 3 = x + (62 + 2 * n) by omega]
    exact is_c (by decide) (by decide) rfl
  | 3, hk =>
    cases hk
    show Is _ 8 (rOf (FT ca x n w N (x + (59 + 2 * n))) 3)
    rw [pt_59]
    show Is _ 8 ((x + (59 + 2 * n)) + 5)
    rw [show (x + (59 + 2 * n)) + 5 = x + (64 + 2 * n) by omega]
    exact is_c (by decide) (by decide) rfl
  | 4, hk =>
    cases hk
    show Is _ 8 (rOf (FT ca x n w N (x + (59 + 2 * n))) 4)
    rw [pt_59]
    show Is _ 8 ((x + (59 + 2 * n)) + 7)
    rw [show (x + (59 + 2 * n)) + 7 = x + (66 + 2 * n) by omega]
    exact is_c (by decide) (by decide) rfl
  | 5, hk =>
    cases hk
    show Is _ 8 (rOf (FT ca x n w N (x + (59 + 2 * n))) 5)
    rw [pt_59]
    show Is _ 8 ((x + (59 + 2 * n)) + 9)
    rw [show (x + (59 + 2 * n)) + 9 = x + (68 + 2 * n) by omega]
    exact is_c (by decide) (by decide) rfl
  | 6, hk =>
    cases hk
    show Is _ 8 (rOf (FT ca x n w N (x + (59 + 2 * n))) 6)
    rw [pt_59]
    show Is _ 8 ((x + (59 + 2 * n)) + 11)
    rw [show (x + (59 + 2 * n)) + 11 = x + (70 + 2 * n) by omega]
    exact is_c (by decide) (by decide) rfl
  | 7, hk =>
    cases hk
    show Is _ 8 (rOf (FT ca x n w N (x + (59 + 2 * n))) 7)
    rw [pt_59]
    show Is _ 8 ((x + (59 + 2 * n)) + 13)
    rw [show (x + (59 + 2 * n)) + 13 = x + (72 + 2 * n) by omega]
    exact is_c (by decide) (by decide) rfl
  | 8, hk =>
    cases hk
    show Is _ 8 (rOf (FT ca x n w N (x + (59 + 2 * n))) 8)
    rw [pt_59]
    show Is _ 8 ((x + (59 + 2 * n)) + 15)
    rw [show (x + (59 + 2 * n)) + 15 = x + (74 + 2 * n) by omega]
    exact is_c (by decide) (by decide) rfl
  | (k + 9), hk => cases hk
theorem ty_60 : ∀ (k t : Nat), (rT 8)[k]? = some t → t < 99 → Is (GT ca x n w N) t (mR (MT ca x n w N) (x + (60 + 2 * n)) k) := by
  intro k t hk ht
  match k, hk with
  | 0, hk =>
    cases hk
    show Is _ 12 (rOf (FT ca x n w N (x + (60 + 2 * n))) 0)
    rw [pt_60]
    show Is _ 12 (x + (60 + 2 * n) + 1)
    rw [show x + (60 + 2 * n) + 1 = x + (61 + 2 * n) by omega]
    exact is_c (by decide) (by decide) rfl
  | 1, hk => cases hk; omega
  | 2, hk => cases hk; omega
  | (k + 3), hk => cases hk
theorem ty_62 : ∀ (k t : Nat), (rT 8)[k]? = some t → t < 99 → Is (GT ca x n w N) t (mR (MT ca x n w N) (x + (62 + 2 * n)) k) := by
  intro k t hk ht
  match k, hk with
  | 0, hk =>
    cases hk
    show Is _ 12 (rOf (FT ca x n w N (x + (62 + 2 * n))) 0)
    rw [pt_62]
    show Is _ 12 (x + (62 + 2 * n) + 1)
    rw [show x + (62 + 2 * n) + 1 = x + (63 + 2 * n) by omega]
    exact is_c (by decide) (by decide) rfl
  | 1, hk => cases hk; omega
  | 2, hk => cases hk; omega
  | (k + 3), hk => cases hk
theorem ty_64 : ∀ (k t : Nat), (rT 8)[k]? = some t → t < 99 → Is (GT ca x n w N) t (mR (MT ca x n w N) (x + (64 + 2 * n)) k) := by
  intro k t hk ht
  match k, hk with
  | 0, hk =>
    cases hk
    show Is _ 12 (rOf (FT ca x n w N (x + (64 + 2 * n))) 0)
    rw [pt_64]
    show Is _ 12 (x + (64 + 2 * n) + 1)
    rw [show x + (64 + 2 * n) + 1 = x + (65 + 2 * n) by omega]
    exact is_c (by decide) (by decide) rfl
  | 1, hk => cases hk; omega
  | 2, hk => cases hk; omega
  | (k + 3), hk => cases hk
theorem ty_66 : ∀ (k t : Nat), (rT 8)[k]? = some t → t < 99 → Is (GT ca x n w N) t (mR (MT ca x n w N) (x + (66 + 2 * n)) k) := by
  intro k t hk ht
  match k, hk with
  | 0, hk =>
    cases hk
    show Is _ 12 (rOf (FT ca x n w N (x + (66 + 2 * n))) 0)
    rw [pt_66]
    show Is _ 12 (x + (66 + 2 * n) + 1)
    rw [show x + (66 + 2 * n) + 1 = x + (67 + 2 * n) by omega]
    exact is_c (by decide) (by decide) rfl
  | 1, hk => cases hk; omega
  | 2, hk => cases hk; omega
  | (k + 3), hk => cases hk
theorem ty_68 : ∀ (k t : Nat), (rT 8)[k]? = some t → t < 99 → Is (GT ca x n w N) t (mR (MT ca x n w N) (x + (68 + 2 * n)) k) := by
  intro k t hk ht
  match k, hk with
  | 0, hk =>
    cases hk
    show Is _ 12 (rOf (FT ca x n w N (x + (68 + 2 * n))) 0)
    rw [pt_68]
    show Is _ 12 (x + (68 + 2 * n) + 1)
    rw [show x + (68 + 2 * n) + 1 = x + (69 + 2 * n) by omega]
    exact is_c (by decide) (by decide) rfl
  | 1, hk => cases hk; omega
  | 2, hk => cases hk; omega
  | (k + 3), hk => cases hk
theorem ty_70 : ∀ (k t : Nat), (rT 8)[k]? = some t → t < 99 → Is (GT ca x n w N) t (mR (MT ca x n w N) (x + (70 + 2 * n)) k) := by
  intro k t hk ht
  match k, hk with
  | 0, hk =>
    cases hk
    show Is _ 12 (rOf (FT ca x n w N (x + (70 + 2 * n))) 0)
    rw [pt_70]
    show Is _ 12 (x + (70 + 2 * n) + 1)
    rw [show x + (70 + 2 * n) + 1 = x + (71 + 2 * n) by omega]
    exact is_c (by decide) (by decide) rfl
  | 1, hk => cases hk; omega
  | 2, hk => cases hk; omega
  | (k + 3), hk => cases hk
theorem ty_72 : ∀ (k t : Nat), (rT 8)[k]? = some t → t < 99 → Is (GT ca x n w N) t (mR (MT ca x n w N) (x + (72 + 2 * n)) k) := by
  intro k t hk ht
  match k, hk with
  | 0, hk =>
    cases hk
    show Is _ 12 (rOf (FT ca x n w N (x + (72 + 2 * n))) 0)
    rw [pt_72]
    show Is _ 12 (x + (72 + 2 * n) + 1)
    rw [show x + (72 + 2 * n) + 1 = x + (73 + 2 * n) by omega]
    exact is_c (by decide) (by decide) rfl
  | 1, hk => cases hk; omega
  | 2, hk => cases hk; omega
  | (k + 3), hk => cases hk
theorem ty_74 : ∀ (k t : Nat), (rT 8)[k]? = some t → t < 99 → Is (GT ca x n w N) t (mR (MT ca x n w N) (x + (74 + 2 * n)) k) := by
  intro k t hk ht
  match k, hk with
  | 0, hk =>
    cases hk
    show Is _ 12 (rOf (FT ca x n w N (x + (74 + 2 * n))) 0)
    rw [pt_74]
    show Is _ 12 (x + (74 + 2 * n) + 1)
    rw [show x + (74 + 2 * n) + 1 = x + (75 + 2 * n) by omega]
    exact is_c (by decide) (by decide) rfl
  | 1, hk => cases hk; omega
  | 2, hk => cases hk; omega
  | (k + 3), hk => cases hk
theorem ty_76 : ∀ (k t : Nat), (rT 7)[k]? = some t → t < 99 → Is (GT ca x n w N) t (mR (MT ca x n w N) (x + (76 + 2 * n)) k) := by
  intro k t hk ht
  match k, hk with
  | 0, hk => cases hk; omega
  | 1, hk =>
    cases hk
    show Is _ 11 (rOf (FT ca x n w N (x + (76 + 2 * n))) 1)
    rw [pt_76]
    show Is _ 11 (x + (76 + 2 * n) + 1)
    rw [show x + (76 + 2 * n) + 1 = x + (77 + 2 * n) by omega]
    exact is_c (by decide) (by decide) rfl
  | (k + 2), hk => cases hk
theorem ty_78 : ∀ (k t : Nat), (rT 4)[k]? = some t → t < 99 → Is (GT ca x n w N) t (mR (MT ca x n w N) (x + (78 + 2 * n)) k) := by
  intro k t hk ht
  match k, hk with
  | 0, hk => cases hk; omega
  | 1, hk =>
    cases hk
    show Is _ 11 (rOf (FT ca x n w N (x + (78 + 2 * n))) 1)
    rw [pt_78]
    show Is _ 11 (x + (78 + 2 * n) + 1)
    rw [show x + (78 + 2 * n) + 1 = x + (79 + 2 * n) by omega]
    exact is_c (by decide) (by decide) rfl
  | 2, hk =>
    cases hk
    show Is _ 8 (rOf (FT ca x n w N (x + (78 + 2 * n))) 2)
    rw [pt_78]
    show Is _ 8 (x + (78 + 2 * n) + 2)
    rw [show x + (78 + 2 * n) + 2 = x + (80 + 2 * n) by omega]
    exact is_c (by decide) (by decide) rfl
  | (k + 3), hk => cases hk
theorem ty_80 : ∀ (k t : Nat), (rT 8)[k]? = some t → t < 99 → Is (GT ca x n w N) t (mR (MT ca x n w N) (x + (80 + 2 * n)) k) := by
  intro k t hk ht
  match k, hk with
  | 0, hk =>
    cases hk
    show Is _ 12 (rOf (FT ca x n w N (x + (80 + 2 * n))) 0)
    rw [pt_80]
    show Is _ 12 (x + (80 + 2 * n) + 1)
    rw [show x + (80 + 2 * n) + 1 = x + (81 + 2 * n) by omega]
    exact is_c (by decide) (by decide) rfl
  | 1, hk => cases hk; omega
  | 2, hk => cases hk; omega
  | (k + 3), hk => cases hk
theorem ty_82 : ∀ (k t : Nat), (rT 8)[k]? = some t → t < 99 → Is (GT ca x n w N) t (mR (MT ca x n w N) (x + (82 + 2 * n)) k) := by
  intro k t hk ht
  match k, hk with
  | 0, hk =>
    cases hk
    show Is _ 12 (rOf (FT ca x n w N (x + (82 + 2 * n))) 0)
    rw [pt_82]
    show Is _ 12 (x + (82 + 2 * n) + 1)
    rw [show x + (82 + 2 * n) + 1 = x + (83 + 2 * n) by omega]
    exact is_c (by decide) (by decide) rfl
  | 1, hk => cases hk; omega
  | 2, hk => cases hk; omega
  | (k + 3), hk => cases hk
theorem ty_84 : ∀ (k t : Nat), (rT 8)[k]? = some t → t < 99 → Is (GT ca x n w N) t (mR (MT ca x n w N) (x + (84 + 2 * n)) k) := by
  intro k t hk ht
  match k, hk with
  | 0, hk =>
    cases hk
    show Is _ 12 (rOf (FT ca x n w N (x + (84 + 2 * n))) 0)
    rw [pt_84]
    show Is _ 12 (x + (84 + 2 * n) + 1)
    rw [show x + (84 + 2 * n) + 1 = x + (85 + 2 * n) by omega]
    exact is_c (by decide) (by decide) rfl
  | 1, hk => cases hk; omega
  | 2, hk => cases hk; omega
  | (k + 3), hk => cases hk
theorem ty_86 : ∀ (k t : Nat), (rT 8)[k]? = some t → t < 99 → Is (GT ca x n w N) t (mR (MT ca x n w N) (x + (86 + 2 * n)) k) := by
  intro k t hk ht
  match k, hk with
  | 0, hk =>
    cases hk
    show Is _ 12 (rOf (FT ca x n w N (x + (86 + 2 * n))) 0)
    rw [pt_86]
    show Is _ 12 (x + (86 + 2 * n) + 1)
    rw [show x + (86 + 2 * n) + 1 = x + (87 + 2 * n) by omega]
    exact is_c (by decide) (by decide) rfl
  | 1, hk => cases hk; omega
  | 2, hk => cases hk; omega
  | (k + 3), hk => cases hk
theorem ty_88 : ∀ (k t : Nat), (rT 10)[k]? = some t → t < 99 → Is (GT ca x n w N) t (mR (MT ca x n w N) (x + (88 + 2 * n)) k) := by
  intro k t hk ht
  match k, hk with
  | 0, hk =>
    cases hk
    show Is _ 12 (rOf (FT ca x n w N (x + (88 + 2 * n))) 0)
    rw [pt_88]
    show Is _ 12 ((x + (88 + 2 * n)) + 1)
    rw [show (x + (88 + 2 * n)) + 1 = x + (89 + 2 * n) by omega]
    exact is_c (by decide) (by decide) rfl
  | 1, hk =>
    cases hk
    show Is _ 12 (rOf (FT ca x n w N (x + (88 + 2 * n))) 1)
    rw [pt_88]
    show Is _ 12 ((x + (88 + 2 * n)) + 2)
    rw [show (x + (88 + 2 * n)) + 2 = x + (90 + 2 * n) by omega]
    exact is_c (by decide) (by decide) rfl
  | 2, hk =>
    cases hk
    show Is _ 12 (rOf (FT ca x n w N (x + (88 + 2 * n))) 2)
    rw [pt_88]
    show Is _ 12 ((x + (88 + 2 * n)) + 3)
    rw [show (x + (88 + 2 * n)) + 3 = x + (91 + 2 * n) by omega]
    exact is_c (by decide) (by decide) rfl
  | 3, hk => cases hk; omega
  | 4, hk => cases hk; omega
  | 5, hk => cases hk; omega
  | 6, hk => cases hk; omega
  | 7, hk =>
    cases hk
    show Is _ 11 (rOf (FT ca x n w N (x + (88 + 2 * n))) 7)
    rw [pt_88]
    show Is _ 11 ((x + (88 + 2 * n)) + 4)
    rw [show (x + (88 + 2 * n)) + 4 = x + (92 + 2 * n) by omega]
    exact is_c (by decide) (by decide) rfl
  | 8, hk =>
    cases hk
    show Is _ 11 (rOf (FT ca x n w N (x + (88 + 2 * n))) 8)
    rw [pt_88]
    show Is _ 11 ((x + (88 + 2 * n)) + 5)
    rw [show (x + (88 + 2 * n)) + 5 = x + (93 + 2 * n) by omega]
    exact is_c (by decide) (by decide) rfl
  | 9, hk => cases hk; omega
  | 10, hk => cases hk; omega
  | (k + 11), hk => cases hk
theorem ty_all : ∀ c, 2 ≤ c → c < 94 → ∀ (ci k t : Nat), KDL.getD (c - 2) 99 = ci → (rT ci)[k]? = some t → t < 99 → Is (GT ca x n w N) t (mR (MT ca x n w N) (x + (c + 2 * n)) k) := by
  intro c h1 h2 ci k t hc hk ht
  match c, h1, h2, hc with
  | 0, h, _, _ => exact absurd h (by decide)
  | 1, h, _, _ => exact absurd h (by decide)
  | 2, _, _, hc => cases hc; exact ty_2 k t hk ht
  | 3, _, _, hc => cases hc; exact ty_3 k t hk ht
  | 4, _, _, hc => cases hc; cases hk
  | 5, _, _, hc => cases hc; exact ty_5 k t hk ht
  | 6, _, _, hc => cases hc; exact ty_6 k t hk ht
  | 7, _, _, hc => cases hc; cases hk
  | 8, _, _, hc => cases hc; exact ty_8 k t hk ht
  | 9, _, _, hc => cases hc; cases hk
  | 10, _, _, hc => cases hc; exact ty_10 k t hk ht
  | 11, _, _, hc => cases hc; cases hk
  | 12, _, _, hc => cases hc; exact ty_12 k t hk ht
  | 13, _, _, hc => cases hc; cases hk
  | 14, _, _, hc => cases hc; exact ty_14 k t hk ht
  | 15, _, _, hc => cases hc; exact ty_15 k t hk ht
  | 16, _, _, hc => cases hc; cases hk
  | 17, _, _, hc => cases hc; exact ty_17 k t hk ht
  | 18, _, _, hc => cases hc; cases hk
  | 19, _, _, hc => cases hc; exact ty_19 k t hk ht
  | 20, _, _, hc => cases hc; cases hk
  | 21, _, _, hc => cases hc; exact ty_21 k t hk ht
  | 22, _, _, hc => cases hc; cases hk
  | 23, _, _, hc => cases hc; exact ty_23 k t hk ht
  | 24, _, _, hc => cases hc; cases hk
  | 25, _, _, hc => cases hc; exact ty_25 k t hk ht
  | 26, _, _, hc => cases hc; exact ty_26 k t hk ht
  | 27, _, _, hc => cases hc; cases hk
  | 28, _, _, hc => cases hc; exact ty_28 k t hk ht
  | 29, _, _, hc => cases hc; cases hk
  | 30, _, _, hc => cases hc; exact ty_30 k t hk ht
  | 31, _, _, hc => cases hc; cases hk
  | 32, _, _, hc => cases hc; exact ty_32 k t hk ht
  | 33, _, _, hc => cases hc; cases hk
  | 34, _, _, hc => cases hc; exact ty_34 k t hk ht
  | 35, _, _, hc => cases hc; cases hk
  | 36, _, _, hc => cases hc; exact ty_36 k t hk ht
  | 37, _, _, hc => cases hc; cases hk
  | 38, _, _, hc => cases hc; exact ty_38 k t hk ht
  | 39, _, _, hc => cases hc; cases hk
  | 40, _, _, hc => cases hc; exact ty_40 k t hk ht
  | 41, _, _, hc => cases hc; cases hk
  | 42, _, _, hc => cases hc; exact ty_42 k t hk ht
  | 43, _, _, hc => cases hc; cases hk
  | 44, _, _, hc => cases hc; exact ty_44 k t hk ht
  | 45, _, _, hc => cases hc; exact ty_45 k t hk ht
  | 46, _, _, hc => cases hc; cases hk
  | 47, _, _, hc => cases hc; exact ty_47 k t hk ht
  | 48, _, _, hc => cases hc; cases hk
  | 49, _, _, hc => cases hc; exact ty_49 k t hk ht
  | 50, _, _, hc => cases hc; cases hk
  | 51, _, _, hc => cases hc; exact ty_51 k t hk ht
  | 52, _, _, hc => cases hc; cases hk
  | 53, _, _, hc => cases hc; exact ty_53 k t hk ht
  | 54, _, _, hc => cases hc; cases hk
  | 55, _, _, hc => cases hc; exact ty_55 k t hk ht
  | 56, _, _, hc => cases hc; cases hk
  | 57, _, _, hc => cases hc; exact ty_57 k t hk ht
  | 58, _, _, hc => cases hc; cases hk
  | 59, _, _, hc => cases hc; exact ty_59 k t hk ht
  | 60, _, _, hc => cases hc; exact ty_60 k t hk ht
  | 61, _, _, hc => cases hc; cases hk
  | 62, _, _, hc => cases hc; exact ty_62 k t hk ht
  | 63, _, _, hc => cases hc; cases hk
  | 64, _, _, hc => cases hc; exact ty_64 k t hk ht
  | 65, _, _, hc => cases hc; cases hk
  | 66, _, _, hc => cases hc; exact ty_66 k t hk ht
  | 67, _, _, hc => cases hc; cases hk
  | 68, _, _, hc => cases hc; exact ty_68 k t hk ht
  | 69, _, _, hc => cases hc; cases hk
  | 70, _, _, hc => cases hc; exact ty_70 k t hk ht
  | 71, _, _, hc => cases hc; cases hk
  | 72, _, _, hc => cases hc; exact ty_72 k t hk ht
  | 73, _, _, hc => cases hc; cases hk
  | 74, _, _, hc => cases hc; exact ty_74 k t hk ht
  | 75, _, _, hc => cases hc; cases hk
  | 76, _, _, hc => cases hc; exact ty_76 k t hk ht
  | 77, _, _, hc => cases hc; cases hk
  | 78, _, _, hc => cases hc; exact ty_78 k t hk ht
  | 79, _, _, hc => cases hc; cases hk
  | 80, _, _, hc => cases hc; exact ty_80 k t hk ht
  | 81, _, _, hc => cases hc; cases hk
  | 82, _, _, hc => cases hc; exact ty_82 k t hk ht
  | 83, _, _, hc => cases hc; cases hk
  | 84, _, _, hc => cases hc; exact ty_84 k t hk ht
  | 85, _, _, hc => cases hc; cases hk
  | 86, _, _, hc => cases hc; exact ty_86 k t hk ht
  | 87, _, _, hc => cases hc; cases hk
  | 88, _, _, hc => cases hc; exact ty_88 k t hk ht
  | 89, _, _, hc => cases hc; cases hk
  | 90, _, _, hc => cases hc; cases hk
  | 91, _, _, hc => cases hc; cases hk
  | 92, _, _, hc => cases hc; cases hk
  | 93, _, _, hc => cases hc; cases hk
  | (k + 94), _, h, _ => omega
theorem T_TYR : TYR (GT ca x n w N) (MT ca x n w N).2.2.1 := by
  refine ⟨fun a c k t ha hk ht => ?_, fun a i ha hi => ?_⟩
  · have h1 := List.mem_range'_1.mp ha.1
    have h2 : kdF x n a = c := ha.2
    show Is _ t (mR (MT ca x n w N) a k)
    by_cases c0 : a = x
    · subst c0
      have : c = 9 := by rw [← h2]; exact if_pos rfl
      subst this
      exact ty_0 k t hk ht
    by_cases c1 : a = x + 1
    · subst c1
      have : c = 13 := by rw [← h2]; exact (is_1 (ca := ca) (w := w) (N := N)).2
      subst this
      cases hk
    by_cases c2 : a < x + (2 + 2 * n)
    · obtain ⟨i, hi, hq⟩ : ∃ i, i < n ∧ (a = x + 2 + 2 * i ∨ a = x + 2 + 2 * i + 1) := ⟨(a - x - 2) / 2, by omega, by omega⟩
      rcases hq with rfl | rfl
      · have : c = 8 := by rw [← h2]; exact (is_r (ca := ca) (w := w) (N := N) hi).2
        subst this
        match k, hk with
        | 0, hk =>
          cases hk
          show Is _ 12 (rOf (FT ca x n w N (x + 2 + 2 * i)) 0)
          rw [pt_r hi]
          exact is_l hi
        | 1, hk => cases hk; omega
        | 2, hk => cases hk; omega
        | (k + 3), hk => cases hk
      · have : c = 12 := by rw [← h2]; exact (is_l (ca := ca) (w := w) (N := N) hi).2
        subst this
        cases hk
    · obtain ⟨d, hd, hd2, rfl⟩ : ∃ d, 2 ≤ d ∧ d < 94 ∧ a = x + (d + 2 * n) := ⟨a - x - 2 * n, by omega, by omega, by omega⟩
      exact ty_all d hd hd2 c k t (by rw [← h2, kd_c hd rfl]) hk ht
  · have h1 := List.mem_range'_1.mp ha.1
    have h2 : kdF x n a = 13 := ha.2
    have c1 : a = x + 1 := by
      apply Classical.byContradiction
      intro c1
      unfold kdF at h2
      by_cases c0 : a = x
      · rw [if_pos c0] at h2
        omega
      rw [if_neg c0, if_neg c1] at h2
      by_cases c2 : a < x + (2 + 2 * n)
      · rw [if_pos c2] at h2
        split at h2 <;> omega
      · rw [if_neg c2] at h2
        have hd : ∀ d, d < 92 → KDL.getD d 99 ≠ 13 := by decide
        exact hd _ (by omega) h2
    subst c1
    have hi' : i < n := by
      have : i < lnF x n w N (x + 1) := hi
      rw [ln_1] at this
      exact this
    show Is _ 8 (rOf (FT ca x n w N (x + 1)) i)
    rw [pt_1]
    show Is _ 8 ((if i < n then some (x + 2 + 2 * i) else none).getD 0)
    rw [if_pos hi']
    exact is_r hi'
end Types
