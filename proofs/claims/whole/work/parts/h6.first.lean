section First
variable {ca : Nat → ClassId} {x n w N : Nat}
theorem MTr (q k : Nat) : mR (MT ca x n w N) q k = rOf (FT ca x n w N q) k := rfl
theorem MTi (q k : Nat) : mI (MT ca x n w N) q k = iOf (FT ca x n w N q) k := rfl
theorem xin (c d : Nat) (h : d ∈ XCL c) : x + (d + 2 * n) ∈ eX (ET x n w) c := List.mem_map.mpr ⟨d, h, rfl⟩
theorem T_CP : ∀ c, 3 ≤ c → c ≤ 7 → CP (GT ca x n w N) (MT ca x n w N) (ET x n w) c := by
  intro c h3 h7
  have hc : c = 3 ∨ c = 4 ∨ c = 5 ∨ c = 6 ∨ c = 7 := by omega
  have e2 : mR (MT ca x n w N) (x + (2 + 2 * n)) 0 = x + (3 + 2 * n) := by
    rw [MTr, pt_2]
    show x + (2 + 2 * n) + 1 = _
    omega
  rcases hc with rfl | rfl | rfl | rfl | rfl
  · refine ⟨x + (8 + 2 * n), x + (10 + 2 * n), x + (12 + 2 * n), ⟨?_, e2, ?_, ?_, ?_, ?_⟩, xin 3 3 (by decide), xin 3 6 (by decide), xin 3 8 (by decide), xin 3 10 (by decide), xin 3 12 (by decide), ?_⟩
    · show mR (MT ca x n w N) (x + (5 + 2 * n)) 0 = x + (2 + 2 * n)
      rw [MTr, pt_5]; rfl
    · show mR (MT ca x n w N) (x + (5 + 2 * n)) 1 = x + (6 + 2 * n)
      rw [MTr, pt_5]; show x + (5 + 2 * n) + 1 = _; omega
    · show mR (MT ca x n w N) (x + (5 + 2 * n)) 2 = _
      rw [MTr, pt_5]; show x + (5 + 2 * n) + 3 = _; omega
    · show mR (MT ca x n w N) (x + (5 + 2 * n)) 3 = _
      rw [MTr, pt_5]; show x + (5 + 2 * n) + 5 = _; omega
    · show mR (MT ca x n w N) (x + (5 + 2 * n)) 4 = _
      rw [MTr, pt_5]; show x + (5 + 2 * n) + 7 = _; omega
    · show [x + (3 + 2 * n), x + (6 + 2 * n), x + (8 + 2 * n), x + (10 + 2 * n), x + (12 + 2 * n)].Nodup
      simp
  · refine ⟨x + (17 + 2 * n), x + (19 + 2 * n), x + (21 + 2 * n), x + (23 + 2 * n), ⟨?_, e2, ?_, ?_, ?_, ?_, ?_⟩, ?_, NDL_map (l := [3, 15, 17, 19, 21, 23]) (by decide)⟩
    · show mR (MT ca x n w N) (x + (14 + 2 * n)) 1 = x + (2 + 2 * n)
      rw [MTr, pt_14]; rfl
    · show mR (MT ca x n w N) (x + (14 + 2 * n)) 2 = x + (15 + 2 * n)
      rw [MTr, pt_14]; show x + (14 + 2 * n) + 1 = _; omega
    · show mR (MT ca x n w N) (x + (14 + 2 * n)) 3 = _
      rw [MTr, pt_14]; show x + (14 + 2 * n) + 3 = _; omega
    · show mR (MT ca x n w N) (x + (14 + 2 * n)) 4 = _
      rw [MTr, pt_14]; show x + (14 + 2 * n) + 5 = _; omega
    · show mR (MT ca x n w N) (x + (14 + 2 * n)) 5 = _
      rw [MTr, pt_14]; show x + (14 + 2 * n) + 7 = _; omega
    · show mR (MT ca x n w N) (x + (14 + 2 * n)) 6 = _
      rw [MTr, pt_14]; show x + (14 + 2 * n) + 9 = _; omega
    · exact fun y hy => hy
  · refine ⟨x + (30 + 2 * n), x + (32 + 2 * n), x + (34 + 2 * n), x + (36 + 2 * n), x + (38 + 2 * n), x + (40 + 2 * n), x + (42 + 2 * n), ⟨?_, e2, ?_, ?_, ?_, ?_, ?_, ?_, ?_, ?_, ?_⟩, fun y hy => hy, NDL_map (l := [3, 26, 28, 30, 32, 34, 36, 38, 40, 42]) (by decide)⟩
    · show mR (MT ca x n w N) (x + (25 + 2 * n)) 3 = x + (2 + 2 * n)
      rw [MTr, pt_25]; rfl
    · show mR (MT ca x n w N) (x + (25 + 2 * n)) 4 = x + (26 + 2 * n)
      rw [MTr, pt_25]; show x + (25 + 2 * n) + 1 = _; omega
    · show mR (MT ca x n w N) (x + (25 + 2 * n)) 5 = x + (28 + 2 * n)
      rw [MTr, pt_25]; show x + (25 + 2 * n) + 3 = _; omega
    · show mR (MT ca x n w N) (x + (25 + 2 * n)) 0 = x + (30 + 2 * n)
      rw [MTr, pt_25]; show x + (25 + 2 * n) + 5 = _; omega
    · show mR (MT ca x n w N) (x + (25 + 2 * n)) 6 = x + (32 + 2 * n)
      rw [MTr, pt_25]; show x + (25 + 2 * n) + 7 = _; omega
    · show mR (MT ca x n w N) (x + (25 + 2 * n)) 7 = x + (34 + 2 * n)
      rw [MTr, pt_25]; show x + (25 + 2 * n) + 9 = _; omega
    · show mR (MT ca x n w N) (x + (25 + 2 * n)) 1 = x + (36 + 2 * n)
      rw [MTr, pt_25]; show x + (25 + 2 * n) + 11 = _; omega
    · show mR (MT ca x n w N) (x + (25 + 2 * n)) 8 = x + (38 + 2 * n)
      rw [MTr, pt_25]; show x + (25 + 2 * n) + 13 = _; omega
    · show mR (MT ca x n w N) (x + (25 + 2 * n)) 2 = x + (40 + 2 * n)
      rw [MTr, pt_25]; show x + (25 + 2 * n) + 15 = _; omega
    · show mR (MT ca x n w N) (x + (25 + 2 * n)) 9 = x + (42 + 2 * n)
      rw [MTr, pt_25]; show x + (25 + 2 * n) + 17 = _; omega
  · refine ⟨x + (53 + 2 * n), x + (55 + 2 * n), x + (57 + 2 * n), ⟨?_, e2, ?_, ?_, ?_, ?_, ?_, ?_, ?_⟩, fun y hy => hy, NDL_map (l := [3, 45, 47, 49, 51, 53, 55, 57]) (by decide)⟩
    · show mR (MT ca x n w N) (x + (44 + 2 * n)) 0 = x + (2 + 2 * n)
      rw [MTr, pt_44]; rfl
    · show mR (MT ca x n w N) (x + (44 + 2 * n)) 1 = x + (45 + 2 * n)
      rw [MTr, pt_44]; show x + (44 + 2 * n) + 1 = _; omega
    · show mR (MT ca x n w N) (x + (44 + 2 * n)) 2 = x + (47 + 2 * n)
      rw [MTr, pt_44]; show x + (44 + 2 * n) + 3 = _; omega
    · show mR (MT ca x n w N) (x + (44 + 2 * n)) 3 = x + (49 + 2 * n)
      rw [MTr, pt_44]; show x + (44 + 2 * n) + 5 = _; omega
    · show mR (MT ca x n w N) (x + (44 + 2 * n)) 4 = x + (51 + 2 * n)
      rw [MTr, pt_44]; show x + (44 + 2 * n) + 7 = _; omega
    · show mR (MT ca x n w N) (x + (44 + 2 * n)) 5 = x + (53 + 2 * n)
      rw [MTr, pt_44]; show x + (44 + 2 * n) + 9 = _; omega
    · show mR (MT ca x n w N) (x + (44 + 2 * n)) 6 = x + (55 + 2 * n)
      rw [MTr, pt_44]; show x + (44 + 2 * n) + 11 = _; omega
    · show mR (MT ca x n w N) (x + (44 + 2 * n)) 7 = x + (57 + 2 * n)
      rw [MTr, pt_44]; show x + (44 + 2 * n) + 13 = _; omega
  · refine ⟨x + (72 + 2 * n), x + (74 + 2 * n), ⟨?_, e2, ?_, ?_, ?_, ?_, ?_, ?_, ?_, ?_⟩, fun y hy => hy, NDL_map (l := [3, 60, 62, 64, 66, 68, 72, 74]) (by decide)⟩
    · show mR (MT ca x n w N) (x + (59 + 2 * n)) 0 = x + (2 + 2 * n)
      rw [MTr, pt_59]; rfl
    · show mR (MT ca x n w N) (x + (59 + 2 * n)) 1 = x + (60 + 2 * n)
      rw [MTr, pt_59]; show x + (59 + 2 * n) + 1 = _; omega
    · show mR (MT ca x n w N) (x + (59 + 2 * n)) 2 = x + (62 + 2 * n)
      rw [MTr, pt_59]; show x + (59 + 2 * n) + 3 = _; omega
    · show mR (MT ca x n w N) (x + (59 + 2 * n)) 3 = x + (64 + 2 * n)
      rw [MTr, pt_59]; show x + (59 + 2 * n) + 5 = _; omega
    · show mR (MT ca x n w N) (x + (59 + 2 * n)) 4 = x + (66 + 2 * n)
      rw [MTr, pt_59]; show x + (59 + 2 * n) + 7 = _; omega
    · show mR (MT ca x n w N) (x + (59 + 2 * n)) 5 = x + (68 + 2 * n)
      rw [MTr, pt_59]; show x + (59 + 2 * n) + 9 = _; omega
    · show mR (MT ca x n w N) (x + (59 + 2 * n)) 6 = x + (70 + 2 * n)
      rw [MTr, pt_59]; show x + (59 + 2 * n) + 11 = _; omega
    · show mR (MT ca x n w N) (x + (59 + 2 * n)) 7 = x + (72 + 2 * n)
      rw [MTr, pt_59]; show x + (59 + 2 * n) + 13 = _; omega
    · show mR (MT ca x n w N) (x + (59 + 2 * n)) 8 = x + (74 + 2 * n)
      rw [MTr, pt_59]; show x + (59 + 2 * n) + 15 = _; omega
theorem T_MI (hn : 1 ≤ n ∧ n ≤ 16) (hw : 1 ≤ w ∧ w ≤ 40) (hN : N = 2 * w + 2) : MI (GT ca x n w N) (MT ca x n w N) (MT ca x n w N) (ET x n w) s00 := by
  refine ⟨T_MB hn hw hN, fun i hi => ?_, T_CP, ⟨?_, ?_, by decide, Nat.zero_le _, ?_, fun i hi => absurd hi (Nat.not_lt_zero _)⟩, ⟨⟨?_, ?_, by show 10 * w + 2 ≤ 100000; omega, Nat.zero_le _, ?_, fun i hi => absurd hi (Nat.not_lt_zero _)⟩, ?_⟩, ?_⟩
  · exact (nw_r (ca := ca) (w := w) (N := N) hi).z
  · show mR (MT ca x n w N) (x + (76 + 2 * n)) 1 = x + (77 + 2 * n)
    rw [MTr, pt_76]; show x + (76 + 2 * n) + 1 = _; omega
  · show lnF x n w N (x + (77 + 2 * n)) = 1000
    exact ln_c (by decide) rfl
  · show mI (MT ca x n w N) (x + (76 + 2 * n)) 0 = 0
    rw [MTi, pt_76]; rfl
  · show mR (MT ca x n w N) (x + (78 + 2 * n)) 1 = x + (79 + 2 * n)
    rw [MTr, pt_78]; show x + (78 + 2 * n) + 1 = _; omega
  · show lnF x n w N (x + (79 + 2 * n)) = 10 * w + 2
    exact ln_c (by decide) rfl
  · show mI (MT ca x n w N) (x + (78 + 2 * n)) 0 = 0
    rw [MTi, pt_78]; rfl
  · show mR (MT ca x n w N) (x + (78 + 2 * n)) 2 = x + (80 + 2 * n)
    rw [MTr, pt_78]; show x + (78 + 2 * n) + 2 = _; omega
  · show mI (MT ca x n w N) x 13 = 0
    rw [MTi, FT_this]; rfl
theorem MTa (q : Nat) : mA (MT ca x n w N) q = aOf (FT ca x n w N q) := rfl
theorem T_KJ (hn : 1 ≤ n ∧ n ≤ 16) (hw : 1 ≤ w ∧ w ≤ 40) : KJ (GT ca x n w N) (MT ca x n w N) (LT x n) n w s00 := by
  have r88 : ∀ k c, rOf (FT ca x n w N (x + (88 + 2 * n))) k = x + (88 + 2 * n) + c → mR (MT ca x n w N) (x + (88 + 2 * n)) k = x + ((88 + c) + 2 * n) := fun k c h => by
    rw [MTr, h]
    omega
  have i88 : ∀ k v, iOf (FT ca x n w N (x + (88 + 2 * n))) k = v → mI (MT ca x n w N) (x + (88 + 2 * n)) k = v := fun k v h => h
  refine ⟨⟨⟨hn.1, hn.2, hw.1, hw.2⟩, ⟨⟨r88 7 4 (by rw [pt_88]; rfl), r88 8 5 (by rw [pt_88]; rfl)⟩, ⟨ln_c (c := 92) (by decide) rfl, ln_c (c := 93) (by decide) rfl⟩, ⟨?_, ?_, ?_⟩, ⟨?_, ?_, ?_⟩, ?_⟩, ⟨i88 3 _ (by rw [pt_88]; rfl), i88 4 _ (by rw [pt_88]; rfl), i88 6 _ (by rw [pt_88]; rfl), i88 9 _ (by rw [pt_88]; rfl), i88 10 _ (by rw [pt_88]; rfl)⟩, ⟨Nat.zero_le _, Nat.zero_le _⟩, fun i hi => absurd hi (Nat.not_lt_zero _), fun i hi => absurd hi (Nat.not_lt_zero _)⟩, ⟨fun _ => 0, ⟨⟨⟨r88 0 1 (by rw [pt_88]; rfl), r88 1 2 (by rw [pt_88]; rfl), r88 2 3 (by rw [pt_88]; rfl)⟩, ⟨ln_c (c := 89) (by decide) rfl, ln_c (c := 90) (by decide) rfl, ln_c (c := 91) (by decide) rfl⟩, ?_, ?_, ?_⟩, fun r hr => ⟨⟨?_, ?_, ?_⟩, ?_, fun k hk => ?_⟩⟩, fun i hi => rfl⟩, fun i hi => ?_⟩
  · show x + (92 + 2 * n) ≠ x + (89 + 2 * n); omega
  · show x + (92 + 2 * n) ≠ x + (90 + 2 * n); omega
  · show x + (92 + 2 * n) ≠ x + (91 + 2 * n); omega
  · show x + (93 + 2 * n) ≠ x + (89 + 2 * n); omega
  · show x + (93 + 2 * n) ≠ x + (90 + 2 * n); omega
  · show x + (93 + 2 * n) ≠ x + (91 + 2 * n); omega
  · show x + (92 + 2 * n) ≠ x + (93 + 2 * n); omega
  · show x + (89 + 2 * n) ≠ x + (90 + 2 * n); omega
  · show x + (89 + 2 * n) ≠ x + (91 + 2 * n); omega
  · show x + (90 + 2 * n) ≠ x + (91 + 2 * n); omega
  · show mA (MT ca x n w N) (x + (90 + 2 * n)) r = nI (nl HB 0)
    rw [MTa, pt_90, nl_0]; rfl
  · show mA (MT ca x n w N) (x + (91 + 2 * n)) r = 0
    rw [MTa, pt_91]; rfl
  · show nl HB 0 ≤ 259
    rw [nl_0]; decide
  · show vl HB _ (nl HB 0) = 0
    rw [nl_0, vl_0]
  · have hk' : k < nl HB 0 := hk
    rw [nl_0] at hk'
    exact absurd hk' (Nat.not_lt_zero _)
  · show nl BB 0 ≤ w
    rw [nl_0]; exact Nat.zero_le _
/-- the loop's first state -/
theorem T_LI (hn : 1 ≤ n ∧ n ≤ 16) (hw : 1 ≤ w ∧ w ≤ 40) (hN : N = 2 * w + 2) : LFx (GT ca x n w N) (ET x n w) (LT x n) ∧ LIv (GT ca x n w N) (ET x n w) (LT x n) s00 (MT ca x n w N) :=
  ⟨⟨T_SE hn hw, GT_ND, rfl, is_0, is_c (by decide) (by decide) rfl⟩, T_MI hn hw hN, T_KJ hn hw, T_TYR⟩
end First
