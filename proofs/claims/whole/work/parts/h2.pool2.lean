/-! the pool that the constructors leave (made by wip/gen/pool2.py) -/
def iO (vs : List Value) (k : Nat) : Int32 := match vs[k]? with
  | some (.int i) => i
  | _ => 0
def rO (vs : List Value) (k : Nat) : Nat := match vs[k]? with
  | some (.ref r) => r
  | _ => 0
def iOf (y : va_E) (k : Nat) : Int32 := match y with
  | .inr (_, vs) => iO vs k
  | _ => 0
def rOf (y : va_E) (k : Nat) : Nat := match y with
  | .inr (_, vs) => rO vs k
  | .inl (_, _, .inr (.inr (.inr (.inr g)))) => (g k).getD 0
  | _ => 0
def aOf (y : va_E) : Nat → Int32 := match y with
  | .inl (_, _, .inl g) => g
  | _ => fun _ => 0
def MF (f : Nat → va_E) : MS := (fun q k => iOf (f q) k, fun _ _ => 0, fun q k => rOf (f q) k, fun q => aOf (f q))
def fvo (vs : List Value) : Nat → List Nat → List Value
  | _, [] => []
  | k, t :: ts => (if t = 0 then .int (iO vs k) else if t = 1 then .long 0 else .ref (rO vs k)) :: fvo vs (k + 1) ts
theorem fv_MF {f : Nat → va_E} {q ci : Nat} {vs : List Value} (h : f q = .inr (ci, vs)) : ∀ (ts : List Nat) (k : Nat), fv (MF f) q k ts = fvo vs k ts
  | [], _ => rfl
  | t :: ts, k => by
    rw [fv, fvo, fv_MF h ts (k + 1)]
    unfold fv1
    have e1 : mI (MF f) q k = iO vs k := by show iOf (f q) k = _; rw [h]; rfl
    have e2 : mR (MF f) q k = rO vs k := by show rOf (f q) k = _; rw [h]; rfl
    rw [e1, e2]
    rfl
theorem ce_MFo {G : SH} {f : Nat → va_E} {q ci : Nat} {vs : List Value} (hq : Is G ci q) (hc : ci < 11) (h : f q = .inr (ci, vs)) (hv : fvo vs 0 (fT ci) = vs) : ce G (MF f) q = f q := by
  rw [ce_obj hq hc, fv_MF h, hv, h]
theorem ce_MFi {G : SH} {f : Nat → va_E} {q N : Nat} {g : Nat → Int32} (hq : Is G 12 q) (hl : G.2.2.1 q = N) (h : f q = .inl (G.2.2.2 1, N, .inl g)) : ce G (MF f) q = f q := by
  rw [ce_I hq, hl, h]
  have e : mA (MF f) q = g := by show aOf (f q) = _; rw [h]; rfl
  rw [e]
theorem ce_MFb {G : SH} {f : Nat → va_E} {q N : Nat} {g : Nat → Int32} (hq : Is G 11 q) (hl : G.2.2.1 q = N) (h : f q = .inl (G.2.2.2 0, N, .inl g)) : ce G (MF f) q = f q := by
  rw [ce_B hq, hl, h]
  have e : mA (MF f) q = g := by show aOf (f q) = _; rw [h]; rfl
  rw [e]
def KDL : List Nat := [0, 8, 12, 1, 8, 12, 8, 12, 8, 12, 8, 12, 3, 8, 12, 8, 12, 8, 12, 8, 12, 8, 12, 2, 8, 12, 8, 12, 8, 12, 8, 12, 8, 12, 8, 12, 8, 12, 8, 12, 8, 12, 5, 8, 12, 8, 12, 8, 12, 8, 12, 8, 12, 8, 12, 8, 12, 6, 8, 12, 8, 12, 8, 12, 8, 12, 8, 12, 8, 12, 8, 12, 8, 12, 7, 11, 4, 11, 8, 12, 8, 12, 8, 12, 8, 12, 10, 12, 12, 12, 11, 11]
def LNL (w N : Nat) : List Nat := [0, 0, N, 0, 0, N, 0, N, 0, N, 0, N, 0, 0, N, 0, N, 0, N, 0, N, 0, N, 0, 0, N, 0, N, 0, N, 0, N, 0, N, 0, N, 0, N, 0, N, 0, N, 0, 0, N, 0, N, 0, N, 0, N, 0, N, 0, N, 0, N, 0, 0, N, 0, N, 0, N, 0, N, 0, N, 0, 1, 0, N, 0, N, 0, 1000, 0, 10 * w + 2, 0, N, 0, N, 0, N, 0, 1, 0, 10400, 40, 40, 1000, 500]
def kdF (x n : Nat) : Nat → Nat := fun q => if q = x then 9 else if q = x + 1 then 13 else if q < x + (2 + 2 * n) then (if (q - x) % 2 = 0 then 8 else 12) else KDL.getD (q - (x + (2 + 2 * n))) 99
def lnF (x n w N : Nat) : Nat → Nat := fun q => if q = x + 1 then n else if q < x + (2 + 2 * n) then w else (LNL w N).getD (q - (x + (2 + 2 * n))) 0
abbrev GT (ca : Nat → ClassId) (x n w N : Nat) : SH := (List.range' x (94 + 2 * n), kdF x n, lnF x n w N, ca)
abbrev MT (ca : Nat → ClassId) (x n w N : Nat) : MS := MF (FT ca x n w N)
section Pool2
variable {ca : Nat → ClassId} {x n w N : Nat}
theorem GT_mem {q : Nat} (h : x ≤ q ∧ q < x + (94 + 2 * n)) : q ∈ (GT ca x n w N).1 := List.mem_range'_1.mpr h
theorem kd_c {c k : Nat} (h : 2 ≤ c) (hk : KDL.getD (c - 2) 99 = k) : kdF x n (x + (c + 2 * n)) = k := by
  unfold kdF
  rw [if_neg (by omega), if_neg (by omega), if_neg (by omega), show x + (c + 2 * n) - (x + (2 + 2 * n)) = c - 2 by omega]
  exact hk
theorem ln_c {c k : Nat} (h : 2 ≤ c) (hk : (LNL w N).getD (c - 2) 0 = k) : lnF x n w N (x + (c + 2 * n)) = k := by
  unfold lnF
  rw [if_neg (by omega), if_neg (by omega), show x + (c + 2 * n) - (x + (2 + 2 * n)) = c - 2 by omega]
  exact hk
theorem is_c {c k : Nat} (h : 2 ≤ c) (h2 : c < 94) (hk : KDL.getD (c - 2) 99 = k) : Is (GT ca x n w N) k (x + (c + 2 * n)) := ⟨GT_mem ⟨by omega, by omega⟩, kd_c h hk⟩
theorem is_0 : Is (GT ca x n w N) 9 x := ⟨GT_mem ⟨by omega, by omega⟩, if_pos rfl⟩
theorem is_1 : Is (GT ca x n w N) 13 (x + 1) := ⟨GT_mem ⟨by omega, by omega⟩, (if_neg (by omega)).trans (if_pos rfl)⟩
theorem is_r {i : Nat} (hi : i < n) : Is (GT ca x n w N) 8 (x + 2 + 2 * i) := ⟨GT_mem ⟨by omega, by omega⟩, by
  show kdF x n (x + 2 + 2 * i) = 8
  unfold kdF
  rw [if_neg (by omega), if_neg (by omega), if_pos (by omega), if_pos (by omega)]⟩
theorem is_l {i : Nat} (hi : i < n) : Is (GT ca x n w N) 12 (x + 2 + 2 * i + 1) := ⟨GT_mem ⟨by omega, by omega⟩, by
  show kdF x n (x + 2 + 2 * i + 1) = 12
  unfold kdF
  rw [if_neg (by omega), if_neg (by omega), if_pos (by omega), if_neg (by omega)]⟩
theorem pt_r {i : Nat} (hi : i < n) : FT ca x n w N (x + 2 + 2 * i) = .inr (8, [.ref (x + 2 + 2 * i + 1), .int 0, .int 0]) := by
  rw [FT_reg (by omega) (by omega), RB_ne (by omega), if_pos (by omega)]
theorem pt_l {i : Nat} (hi : i < n) : FT ca x n w N (x + 2 + 2 * i + 1) = .inl (ca 1, w, .inl (fun i => if i = 0 then 0 else 0)) := by
  rw [FT_reg (by omega) (by omega), RB_ne (by omega), if_neg (by omega)]
theorem pt_1 : FT ca x n w N (x + 1) = .inl (ca 2, n, .inr (.inr (.inr (.inr (fun j => if j < n then some (x + 2 + 2 * j) else none))))) := by
  rw [FT_reg (by omega) (by omega), RB_arr]
theorem ln_l {i : Nat} (hi : i < n) : lnF x n w N (x + 2 + 2 * i + 1) = w := by
  unfold lnF
  rw [if_neg (by omega), if_pos (by omega)]
theorem ln_1 : lnF x n w N (x + 1) = n := if_pos rfl
theorem ce_c : ∀ c, 2 ≤ c → c < 94 → ce (GT ca x n w N) (MT ca x n w N) (x + (c + 2 * n)) = FT ca x n w N (x + (c + 2 * n)) := by
  intro c h1 h2
  match c, h1, h2 with
  | 0, h, _ => exact absurd h (by decide)
  | 1, h, _ => exact absurd h (by decide)
  | 2, _, _ => exact ce_MFo (is_c (by decide) (by decide) rfl) (by decide) pt_2 rfl
  | 3, _, _ => exact ce_MFo (is_c (by decide) (by decide) rfl) (by decide) pt_3 rfl
  | 4, _, _ => exact ce_MFi (is_c (by decide) (by decide) rfl) (ln_c (by decide) rfl) pt_4
  | 5, _, _ => exact ce_MFo (is_c (by decide) (by decide) rfl) (by decide) pt_5 rfl
  | 6, _, _ => exact ce_MFo (is_c (by decide) (by decide) rfl) (by decide) pt_6 rfl
  | 7, _, _ => exact ce_MFi (is_c (by decide) (by decide) rfl) (ln_c (by decide) rfl) pt_7
  | 8, _, _ => exact ce_MFo (is_c (by decide) (by decide) rfl) (by decide) pt_8 rfl
  | 9, _, _ => exact ce_MFi (is_c (by decide) (by decide) rfl) (ln_c (by decide) rfl) pt_9
  | 10, _, _ => exact ce_MFo (is_c (by decide) (by decide) rfl) (by decide) pt_10 rfl
  | 11, _, _ => exact ce_MFi (is_c (by decide) (by decide) rfl) (ln_c (by decide) rfl) pt_11
  | 12, _, _ => exact ce_MFo (is_c (by decide) (by decide) rfl) (by decide) pt_12 rfl
  | 13, _, _ => exact ce_MFi (is_c (by decide) (by decide) rfl) (ln_c (by decide) rfl) pt_13
  | 14, _, _ => exact ce_MFo (is_c (by decide) (by decide) rfl) (by decide) pt_14 rfl
  | 15, _, _ => exact ce_MFo (is_c (by decide) (by decide) rfl) (by decide) pt_15 rfl
  | 16, _, _ => exact ce_MFi (is_c (by decide) (by decide) rfl) (ln_c (by decide) rfl) pt_16
  | 17, _, _ => exact ce_MFo (is_c (by decide) (by decide) rfl) (by decide) pt_17 rfl
  | 18, _, _ => exact ce_MFi (is_c (by decide) (by decide) rfl) (ln_c (by decide) rfl) pt_18
  | 19, _, _ => exact ce_MFo (is_c (by decide) (by decide) rfl) (by decide) pt_19 rfl
  | 20, _, _ => exact ce_MFi (is_c (by decide) (by decide) rfl) (ln_c (by decide) rfl) pt_20
  | 21, _, _ => exact ce_MFo (is_c (by decide) (by decide) rfl) (by decide) pt_21 rfl
  | 22, _, _ => exact ce_MFi (is_c (by decide) (by decide) rfl) (ln_c (by decide) rfl) pt_22
  | 23, _, _ => exact ce_MFo (is_c (by decide) (by decide) rfl) (by decide) pt_23 rfl
  | 24, _, _ => exact ce_MFi (is_c (by decide) (by decide) rfl) (ln_c (by decide) rfl) pt_24
  | 25, _, _ => exact ce_MFo (is_c (by decide) (by decide) rfl) (by decide) pt_25 rfl
  | 26, _, _ => exact ce_MFo (is_c (by decide) (by decide) rfl) (by decide) pt_26 rfl
  | 27, _, _ => exact ce_MFi (is_c (by decide) (by decide) rfl) (ln_c (by decide) rfl) pt_27
  | 28, _, _ => exact ce_MFo (is_c (by decide) (by decide) rfl) (by decide) pt_28 rfl
  | 29, _, _ => exact ce_MFi (is_c (by decide) (by decide) rfl) (ln_c (by decide) rfl) pt_29
  | 30, _, _ => exact ce_MFo (is_c (by decide) (by decide) rfl) (by decide) pt_30 rfl
  | 31, _, _ => exact ce_MFi (is_c (by decide) (by decide) rfl) (ln_c (by decide) rfl) pt_31
  | 32, _, _ => exact ce_MFo (is_c (by decide) (by decide) rfl) (by decide) pt_32 rfl
  | 33, _, _ => exact ce_MFi (is_c (by decide) (by decide) rfl) (ln_c (by decide) rfl) pt_33
  | 34, _, _ => exact ce_MFo (is_c (by decide) (by decide) rfl) (by decide) pt_34 rfl
  | 35, _, _ => exact ce_MFi (is_c (by decide) (by decide) rfl) (ln_c (by decide) rfl) pt_35
  | 36, _, _ => exact ce_MFo (is_c (by decide) (by decide) rfl) (by decide) pt_36 rfl
  | 37, _, _ => exact ce_MFi (is_c (by decide) (by decide) rfl) (ln_c (by decide) rfl) pt_37
  | 38, _, _ => exact ce_MFo (is_c (by decide) (by decide) rfl) (by decide) pt_38 rfl
  | 39, _, _ => exact ce_MFi (is_c (by decide) (by decide) rfl) (ln_c (by decide) rfl) pt_39
  | 40, _, _ => exact ce_MFo (is_c (by decide) (by decide) rfl) (by decide) pt_40 rfl
  | 41, _, _ => exact ce_MFi (is_c (by decide) (by decide) rfl) (ln_c (by decide) rfl) pt_41
  | 42, _, _ => exact ce_MFo (is_c (by decide) (by decide) rfl) (by decide) pt_42 rfl
  | 43, _, _ => exact ce_MFi (is_c (by decide) (by decide) rfl) (ln_c (by decide) rfl) pt_43
  | 44, _, _ => exact ce_MFo (is_c (by decide) (by decide) rfl) (by decide) pt_44 rfl
  | 45, _, _ => exact ce_MFo (is_c (by decide) (by decide) rfl) (by decide) pt_45 rfl
  | 46, _, _ => exact ce_MFi (is_c (by decide) (by decide) rfl) (ln_c (by decide) rfl) pt_46
  | 47, _, _ => exact ce_MFo (is_c (by decide) (by decide) rfl) (by decide) pt_47 rfl
  | 48, _, _ => exact ce_MFi (is_c (by decide) (by decide) rfl) (ln_c (by decide) rfl) pt_48
  | 49, _, _ => exact ce_MFo (is_c (by decide) (by decide) rfl) (by decide) pt_49 rfl
  | 50, _, _ => exact ce_MFi (is_c (by decide) (by decide) rfl) (ln_c (by decide) rfl) pt_50
  | 51, _, _ => exact ce_MFo (is_c (by decide) (by decide) rfl) (by decide) pt_51 rfl
  | 52, _, _ => exact ce_MFi (is_c (by decide) (by decide) rfl) (ln_c (by decide) rfl) pt_52
  | 53, _, _ => exact ce_MFo (is_c (by decide) (by decide) rfl) (by decide) pt_53 rfl
  | 54, _, _ => exact ce_MFi (is_c (by decide) (by decide) rfl) (ln_c (by decide) rfl) pt_54
  | 55, _, _ => exact ce_MFo (is_c (by decide) (by decide) rfl) (by decide) pt_55 rfl
  | 56, _, _ => exact ce_MFi (is_c (by decide) (by decide) rfl) (ln_c (by decide) rfl) pt_56
  | 57, _, _ => exact ce_MFo (is_c (by decide) (by decide) rfl) (by decide) pt_57 rfl
  | 58, _, _ => exact ce_MFi (is_c (by decide) (by decide) rfl) (ln_c (by decide) rfl) pt_58
  | 59, _, _ => exact ce_MFo (is_c (by decide) (by decide) rfl) (by decide) pt_59 rfl
  | 60, _, _ => exact ce_MFo (is_c (by decide) (by decide) rfl) (by decide) pt_60 rfl
  | 61, _, _ => exact ce_MFi (is_c (by decide) (by decide) rfl) (ln_c (by decide) rfl) pt_61
  | 62, _, _ => exact ce_MFo (is_c (by decide) (by decide) rfl) (by decide) pt_62 rfl
  | 63, _, _ => exact ce_MFi (is_c (by decide) (by decide) rfl) (ln_c (by decide) rfl) pt_63
  | 64, _, _ => exact ce_MFo (is_c (by decide) (by decide) rfl) (by decide) pt_64 rfl
  | 65, _, _ => exact ce_MFi (is_c (by decide) (by decide) rfl) (ln_c (by decide) rfl) pt_65
  | 66, _, _ => exact ce_MFo (is_c (by decide) (by decide) rfl) (by decide) pt_66 rfl
  | 67, _, _ => exact ce_MFi (is_c (by decide) (by decide) rfl) (ln_c (by decide) rfl) pt_67
  | 68, _, _ => exact ce_MFo (is_c (by decide) (by decide) rfl) (by decide) pt_68 rfl
  | 69, _, _ => exact ce_MFi (is_c (by decide) (by decide) rfl) (ln_c (by decide) rfl) pt_69
  | 70, _, _ => exact ce_MFo (is_c (by decide) (by decide) rfl) (by decide) pt_70 rfl
  | 71, _, _ => exact ce_MFi (is_c (by decide) (by decide) rfl) (ln_c (by decide) rfl) pt_71
  | 72, _, _ => exact ce_MFo (is_c (by decide) (by decide) rfl) (by decide) pt_72 rfl
  | 73, _, _ => exact ce_MFi (is_c (by decide) (by decide) rfl) (ln_c (by decide) rfl) pt_73
  | 74, _, _ => exact ce_MFo (is_c (by decide) (by decide) rfl) (by decide) pt_74 rfl
  | 75, _, _ => exact ce_MFi (is_c (by decide) (by decide) rfl) (ln_c (by decide) rfl) pt_75
  | 76, _, _ => exact ce_MFo (is_c (by decide) (by decide) rfl) (by decide) pt_76 rfl
  | 77, _, _ => exact ce_MFb (is_c (by decide) (by decide) rfl) (ln_c (by decide) rfl) pt_77
  | 78, _, _ => exact ce_MFo (is_c (by decide) (by decide) rfl) (by decide) pt_78 rfl
  | 79, _, _ => exact ce_MFb (is_c (by decide) (by decide) rfl) (ln_c (by decide) rfl) pt_79
  | 80, _, _ => exact ce_MFo (is_c (by decide) (by decide) rfl) (by decide) pt_80 rfl
  | 81, _, _ => exact ce_MFi (is_c (by decide) (by decide) rfl) (ln_c (by decide) rfl) pt_81
  | 82, _, _ => exact ce_MFo (is_c (by decide) (by decide) rfl) (by decide) pt_82 rfl
  | 83, _, _ => exact ce_MFi (is_c (by decide) (by decide) rfl) (ln_c (by decide) rfl) pt_83
  | 84, _, _ => exact ce_MFo (is_c (by decide) (by decide) rfl) (by decide) pt_84 rfl
  | 85, _, _ => exact ce_MFi (is_c (by decide) (by decide) rfl) (ln_c (by decide) rfl) pt_85
  | 86, _, _ => exact ce_MFo (is_c (by decide) (by decide) rfl) (by decide) pt_86 rfl
  | 87, _, _ => exact ce_MFi (is_c (by decide) (by decide) rfl) (ln_c (by decide) rfl) pt_87
  | 88, _, _ => exact ce_MFo (is_c (by decide) (by decide) rfl) (by decide) pt_88 rfl
  | 89, _, _ => exact ce_MFi (is_c (by decide) (by decide) rfl) (ln_c (by decide) rfl) pt_89
  | 90, _, _ => exact ce_MFi (is_c (by decide) (by decide) rfl) (ln_c (by decide) rfl) pt_90
  | 91, _, _ => exact ce_MFi (is_c (by decide) (by decide) rfl) (ln_c (by decide) rfl) pt_91
  | 92, _, _ => exact ce_MFb (is_c (by decide) (by decide) rfl) (ln_c (by decide) rfl) pt_92
  | 93, _, _ => exact ce_MFb (is_c (by decide) (by decide) rfl) (ln_c (by decide) rfl) pt_93
  | (k + 94), _, h => omega
theorem ce_at {D : va_G} {H : Heap} (q : Nat) (h1 : x ≤ q) (h2 : q < x + (94 + 2 * n)) (h : va_at D vwCl (q, FT ca x n w N q) H) : va_at D vwCl (q, ce (GT ca x n w N) (MT ca x n w N) q) H := by
  by_cases c0 : q = x
  · rw [c0, ce_MFo is_0 (by decide) FT_this rfl]
    rw [c0] at h
    exact h
  by_cases c1 : q = x + 1
  · rw [c1]
    rw [c1, pt_1] at h
    rw [ce_W is_1]
    have e : vp_cell (ca 2) (n, .inr (.inr (.inr (.inr (fun j => if j < n then some (x + 2 + 2 * j) else none))))) = vp_cell (ca 2) ((GT ca x n w N).2.2.1 (x + 1), .inr (.inr (.inr (.inr (fun i => some (mR (MT ca x n w N) (x + 1) i)))))) := by
      rw [show (GT ca x n w N).2.2.1 (x + 1) = n from ln_1, vp_cell_q, vp_cell_q]
      unfold arrV
      congr 1
      apply Array.ext (by simp)
      intro i hi1 hi2
      have hi : i < n := by simpa using hi1
      simp only [Array.getElem_ofFn]
      have e2 : mR (MT ca x n w N) (x + 1) i = x + 2 + 2 * i := by
        show rOf (FT ca x n w N (x + 1)) i = _
        rw [pt_1]
        show (if i < n then some (x + 2 + 2 * i) else none).getD 0 = _
        rw [if_pos hi]
        rfl
      rw [e2, if_pos hi]
    have h' : H[x + 1]? = some (vp_cell (ca 2) (n, .inr (.inr (.inr (.inr (fun j => if j < n then some (x + 2 + 2 * j) else none)))))) := h
    rw [e] at h'
    exact h'
  by_cases c2 : q < x + (2 + 2 * n)
  · obtain ⟨i, hi, hq⟩ : ∃ i, i < n ∧ (q = x + 2 + 2 * i ∨ q = x + 2 + 2 * i + 1) := ⟨(q - x - 2) / 2, by omega, by omega⟩
    rcases hq with rfl | rfl
    · rw [ce_MFo (is_r hi) (by decide) (pt_r hi) rfl]
      exact h
    · rw [ce_MFi (is_l hi) (ln_l hi) (pt_l hi)]
      exact h
  · obtain ⟨c, hc, hc2, rfl⟩ : ∃ c, 2 ≤ c ∧ c < 94 ∧ q = x + (c + 2 * n) := ⟨q - x - 2 * n, by omega, by omega, by omega⟩
    rw [ce_c c hc hc2]
    exact h
end Pool2
