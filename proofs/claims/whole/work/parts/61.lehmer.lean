theorem lZ_eq {a b : Int} (h1 : -9223372036854775808 ≤ a) (h2 : a < 9223372036854775808) (h3 : -9223372036854775808 ≤ b) (h4 : b < 9223372036854775808) : lZ a = lZ b ↔ a = b := by
  constructor
  · intro h
    have := congrArg Int64.toInt h
    rw [lZ_toInt h1 h2, lZ_toInt h3 h4] at this
    exact this
  · intro h; rw [h]
theorem lZ_0 : (0 : Int64) = lZ 0 := rfl
theorem lZ_div {a b : Int} (ha : 0 ≤ a) (ha2 : a < 9223372036854775808) (hb : 0 < b) (hb2 : b < 9223372036854775808) : lZ a / lZ b = lZ (a / b) := by
  obtain ⟨m, rfl⟩ : ∃ m : Nat, a = m := ⟨a.toNat, by omega⟩
  obtain ⟨n, rfl⟩ : ∃ n : Nat, b = n := ⟨b.toNat, by omega⟩
  rw [← lN_lZ, ← lN_lZ, pk_lDiv (by omega) (by omega) (by omega), lN_lZ, Int.natCast_ediv]
/-- the rows of a Lehmer object -/
def LeR (M : MS) (o dv xd qd u v s t : Nat) : Prop := mR M o 1 = dv ∧ mR M dv 0 = xd ∧ mR M o 2 = qd ∧ mR M o 3 = u ∧ mR M o 4 = v ∧ mR M o 5 = s ∧ mR M o 6 = t
theorem Fr.ler {G : SH} {M N : MS} {X : List Nat} {o dv xd qd u v s t : Nat} (f : Fr G M N X) (h : LeR M o dv xd qd u v s t) : LeR N o dv xd qd u v s t := by
  have r := f.2.1
  obtain ⟨e0, e1, e2, e3, e4, e5, e6⟩ := h
  exact ⟨by rw [r]; exact e0, by rw [r]; exact e1, by rw [r]; exact e2, by rw [r]; exact e3, by rw [r]; exact e4, by rw [r]; exact e5, by rw [r]; exact e6⟩
/-- only the cofactors of o changed -/
def Jn (M N : MS) (o : Nat) : Prop := (∀ a k, mR N a k = mR M a k) ∧ (∀ a k, mI N a k = mI M a k) ∧ (∀ q, mA N q = mA M q) ∧ ∀ a k, a ≠ o → mJ N a k = mJ M a k
theorem Jn.rf {M : MS} {o : Nat} : Jn M M o := ⟨fun _ _ => rfl, fun _ _ => rfl, fun _ => rfl, fun _ _ _ => rfl⟩
theorem Jn.tr {M N P : MS} {o : Nat} (h : Jn M N o) (h2 : Jn N P o) : Jn M P o := ⟨fun a k => (h2.1 a k).trans (h.1 a k), fun a k => (h2.2.1 a k).trans (h.2.1 a k), fun q => (h2.2.2.1 q).trans (h.2.2.1 q), fun a k n => (h2.2.2.2 a k n).trans (h.2.2.2 a k n)⟩
theorem Jn.w (M : MS) (o k : Nat) (v : Int64) : Jn M (wJ M o k v) o := ⟨fun _ _ => rfl, fun _ _ => rfl, fun _ => rfl, fun a j h => by rw [mJ_wJ, if_neg (fun e => h e.1)]⟩
theorem Jn.fs {G : SH} {M N : MS} {o : Nat} {X : List Nat} (h : Jn M N o) (hX : ∀ y ∈ X, Is G 8 y) (ho : G.2.1 o ≠ 8) : Fs G M N X [o] := ⟨hX, all1 ho, fun a k _ => h.1 a k, fun a k q => h.2.2.2 a k (fun e => q (by simp [e])), fun a k _ _ => h.2.1 a k, fun q _ => h.2.2.1 q⟩
theorem s_cof_loop {G : SH} {M0 : MS} {o u v U0 V0 p : Nat} (hu : u / 2 ^ p = U0) (hv : v / 2 ^ p = V0) (hUl : U0 < 4294967296) (hVU : V0 ≤ U0) (hvu : v ≤ u) {T : Int × Int × Int × Int} {Q : MS → Prop}
    (hQ : ∀ N U V x y, Jn M0 N o → LI u v U0 V0 U V T.1 T.2.1 T.2.2.1 T.2.2.2 x y → (EM x y ≤ EM u v ∧ (T.2.1 ≠ 0 → EM x y < EM u v)) → mJ N o 7 = lZ T.1 → mJ N o 8 = lZ T.2.1 → mJ N o 9 = lZ T.2.2.1 → mJ N o 10 = lZ T.2.2.2 → Q N) :
    ∀ (n : Nat) (M : MS) (U V A B C D : Int) (x y t : Nat), Jn M0 M o → LI u v U0 V0 U V A B C D x y → (EM x y ≤ EM u v ∧ (B ≠ 0 → EM x y < EM u v)) → mJ M o 7 = lZ A → mJ M o 8 = lZ B → mJ M o 9 = lZ C → mJ M o 10 = lZ D → LC n U V A B C D = T → EM (U + A).toNat (V + C).toNat < n → t + n ≤ 10000 → w_X3_findCofactors_53 G Q n o (lZ U) (lZ V) (nI t) M
  | 0, M, U, V, A, B, C, D, x, y, t, _, _, _, _, _, _, _, _, hn, _ => absurd hn (Nat.not_lt_zero _)
  | n + 1, M, U, V, A, B, C, D, x, y, t, f1, hI, hem, e7, e8, e9, e10, hT, hn, ht => by
    obtain ⟨-, ⟨p1, p2, p3, p4⟩, -, -, -, -, -, -, ⟨t1, t2, t3, t4⟩⟩ := id hI
    rw [w_X3_findCofactors_53, e7, e8, e9, e10, lZ_add, lZ_add, lZ_add, lZ_add, lZ_0, lZ_eq (by omega) (by omega) (by omega) (by omega), lZ_eq (by omega) (by omega) (by omega) (by omega), show (1000000 : Int32) = nI 1000000 from rfl, nI_leI (by decide) (by omega)]
    rw [LC] at hT
    refine ⟨fun h => absurd h (by omega), fun _ => ⟨fun h => ?_, fun h1 => ⟨fun h2 => ?_, fun h => ?_⟩⟩⟩
    · rw [if_pos (Or.inl h)] at hT
      subst hT
      exact hQ M U V x y f1 hI hem e7 e8 e9 e10
    · refine ⟨h1, fun q eq => ⟨h2, ?_⟩⟩
      rw [lZ_div p1 (by omega) (by omega) (by omega)] at eq
      rw [lZ_div p2 (by omega) (by omega) (by omega), eq]
      have hq1 : 0 ≤ (U + A) / (V + C) := Int.ediv_nonneg p1 p3
      have hq2 : (U + A) / (V + C) ≤ U + A := Int.ediv_le_self _ p1
      have hq3 : 0 ≤ (U + B) / (V + D) := Int.ediv_nonneg p2 p4
      have hq4 : (U + B) / (V + D) ≤ U + B := Int.ediv_le_self _ p2
      rw [lZ_eq (by omega) (by omega) (by omega) (by omega)]
      refine ⟨fun hq x9 ex9 M14 e14 M15 e15 x11 ex11 M17 e17 M18 e18 x13 ex13 x6 ex6 => ?_, fun hq => ?_⟩
      · rw [if_neg (fun z => z.elim h1 (fun z => z.elim h2 (fun z => z hq)))] at hT
        obtain ⟨hI2, hy0, hlt⟩ := LI_step hu hv hUl hVU hI h1 h2 hq hvu
        have j8 : mJ M15 o 8 = lZ B := by rw [e15, mJ_wJ_k _ _ (by decide), e14, mJ_wJ_k _ _ (by decide)]; exact e8
        have j10 : mJ M15 o 10 = lZ D := by rw [e15, mJ_wJ_k _ _ (by decide), e14, mJ_wJ_k _ _ (by decide)]; exact e10
        rw [lZ_mul, lZ_sub] at ex9
        rw [j8, j10, lZ_mul, lZ_sub] at ex11
        rw [j10] at e17
        rw [lZ_mul, lZ_sub] at ex13
        have f2 : Jn M0 M18 o := by
          refine f1.tr ?_
          rw [e18, e17, e15, e14]
          exact (((Jn.w _ _ _ _).tr (Jn.w _ _ _ _)).tr (Jn.w _ _ _ _)).tr (Jn.w _ _ _ _)
        have k7 : mJ M18 o 7 = lZ C := by rw [e18, mJ_wJ_k _ _ (by decide), e17, mJ_wJ_k _ _ (by decide), e15, mJ_wJ_k _ _ (by decide), e14, mJ_wJ_s]
        have k8 : mJ M18 o 8 = lZ D := by rw [e18, mJ_wJ_k _ _ (by decide), e17, mJ_wJ_s]
        have k9 : mJ M18 o 9 = lZ (A - (U + A) / (V + C) * C) := by rw [e18, mJ_wJ_k _ _ (by decide), e17, mJ_wJ_k _ _ (by decide), e15, mJ_wJ_s]; exact ex9
        have k10 : mJ M18 o 10 = lZ (B - (U + A) / (V + C) * D) := by rw [e18, mJ_wJ_s]; exact ex11
        have hem2 : EM y (x % y) ≤ EM u v ∧ (D ≠ 0 → EM y (x % y) < EM u v) := ⟨Nat.le_trans (Nat.le_of_lt (EM_lt hy0)) hem.1, fun _ => Nat.lt_of_lt_of_le (EM_lt hy0) hem.1⟩
        have hmod : (U - (U + A) / (V + C) * V) + (A - (U + A) / (V + C) * C) = (U + A) % (V + C) := by
          have := Int.mul_ediv_add_emod (U + A) (V + C)
          generalize (U + A) / (V + C) = q at *
          have e : (U - q * V) + (A - q * C) = (U + A) - (V + C) * q := by grind
          omega
        have hEM2 : EM (V + C).toNat ((U - (U + A) / (V + C) * V) + (A - (U + A) / (V + C) * C)).toNat < EM (U + A).toNat (V + C).toNat := by
          rw [hmod]
          have hc : ((U + A) % (V + C)).toNat = (U + A).toNat % (V + C).toNat := by
            have a1 : ((U + A).toNat : Int) = U + A := Int.toNat_of_nonneg p1
            have a2 : ((V + C).toNat : Int) = V + C := Int.toNat_of_nonneg p3
            have a3 : (((U + A).toNat % (V + C).toNat : Nat) : Int) = (U + A) % (V + C) := by rw [Int.natCast_emod, a1, a2]
            omega
          rw [hc]
          exact EM_lt (by omega)
        rw [ex13, ex6, nI_1]
        exact s_cof_loop hu hv hUl hVU hvu hQ n M18 V _ C D _ _ y (x % y) (t + 1) f2 hI2 hem2 k7 k8 k9 k10 hT (by omega) (by omega)
      · rw [if_pos (Or.inr (Or.inr hq))] at hT
        subst hT
        exact hQ M U V x y f1 hI hem e7 e8 e9 e10
    · rw [if_pos (Or.inr (Or.inl h))] at hT
      subst hT
      exact hQ M U V x y f1 hI hem e7 e8 e9 e10
/-- the cofactors of u and v -/
def LCF (u v : Nat) : Int × Int × Int × Int := LC 200 (u / 2 ^ (nl 2 u - 32) : Nat) (v / 2 ^ (nl 2 u - 32) : Nat) 1 0 0 1
theorem top_bits {u v : Nat} (hu : 32 ≤ nl 2 u) (hvu : v ≤ u) : u / 2 ^ (nl 2 u - 32) < 4294967296 ∧ v / 2 ^ (nl 2 u - 32) ≤ u / 2 ^ (nl 2 u - 32) := by
  have h1 := (nl_le (B := 2) (by decide) (nl 2 u) u).mp (Nat.le_refl _)
  refine ⟨?_, Nat.div_le_div_right hvu⟩
  rw [Nat.div_lt_iff_lt_mul (Nat.pow_pos (by decide))]
  have : 4294967296 * 2 ^ (nl 2 u - 32) = 2 ^ nl 2 u := by
    show 2 ^ 32 * 2 ^ (nl 2 u - 32) = _
    rw [← Nat.pow_add]
    congr 1
    omega
  omega
theorem s_findCofactors {G : SH} {M : MS} {o dv xd qd u v s t pu pv c : Nat} (hO : Ok G M) (hR : LeR M o dv xd qd u v s t) (iu : Is G 8 u) (iv : Is G 8 v) (wu : Wh G M u pu false) (wv : Wh G M v pv false) (hb : 33 ≤ nl 2 pu) (hvu : pv ≤ pu) (cu : nl BB pu ≤ c) (hc : c < 100) {Q : MS → Prop}
    (hQ : ∀ N U V x y, Jn M N o → LI pu pv (pu / 2 ^ (nl 2 pu - 32)) (pv / 2 ^ (nl 2 pu - 32)) U V (LCF pu pv).1 (LCF pu pv).2.1 (LCF pu pv).2.2.1 (LCF pu pv).2.2.2 x y → (EM x y ≤ EM pu pv ∧ ((LCF pu pv).2.1 ≠ 0 → EM x y < EM pu pv)) → mJ N o 7 = lZ (LCF pu pv).1 → mJ N o 8 = lZ (LCF pu pv).2.1 → mJ N o 9 = lZ (LCF pu pv).2.2.1 → mJ N o 10 = lZ (LCF pu pv).2.2.2 → Q N) : w_X3_findCofactors G o M Q := by
  unfold w_X3_findCofactors
  have hbl := nl2_le cu
  have tb := top_bits (u := pu) (v := pv) (by omega) hvu
  rw [hR.2.2.2.1]
  refine s_bits hO iu wu ?_
  intro x1 ex1
  rw [show (32 : Int32) = nI 32 from rfl, pk_sub (by omega)] at ex1
  rw [hR.2.2.2.1]
  refine s_window hO iu wu ex1 (by omega) ?_
  rw [hR.2.2.2.2.1]
  refine s_window hO iv wv ex1 (by omega) ?_
  intro M8 e8 M9 e9 M10 e10 M11 e11
  refine ⟨200, ?_⟩
  have f1 : Jn M M11 o := by
    rw [e11, e10, e9, e8]
    exact (((Jn.w _ _ _ _).tr (Jn.w _ _ _ _)).tr (Jn.w _ _ _ _)).tr (Jn.w _ _ _ _)
  rw [Nat.mod_eq_of_lt (a := pu / 2 ^ (nl 2 pu - 32)) tb.1, Nat.mod_eq_of_lt (a := pv / 2 ^ (nl 2 pu - 32)) (Nat.lt_of_le_of_lt tb.2 tb.1), lN_lZ, lN_lZ, ← nI_0]
  have k7 : mJ M11 o 7 = lZ 1 := by rw [e11, mJ_wJ_k _ _ (by decide), e10, mJ_wJ_k _ _ (by decide), e9, mJ_wJ_k _ _ (by decide), e8, mJ_wJ_s]; rfl
  have k8 : mJ M11 o 8 = lZ 0 := by rw [e11, mJ_wJ_k _ _ (by decide), e10, mJ_wJ_k _ _ (by decide), e9, mJ_wJ_s]; rfl
  have k9 : mJ M11 o 9 = lZ 0 := by rw [e11, mJ_wJ_k _ _ (by decide), e10, mJ_wJ_s]; rfl
  have k10 : mJ M11 o 10 = lZ 1 := by rw [e11, mJ_wJ_s]; rfl
  have hem : EM (((pu / 2 ^ (nl 2 pu - 32) : Nat) : Int) + 1).toNat (((pv / 2 ^ (nl 2 pu - 32) : Nat) : Int) + 0).toNat < 200 := by
    generalize pu / 2 ^ (nl 2 pu - 32) = a1 at tb ⊢
    generalize pv / 2 ^ (nl 2 pu - 32) = b1 at tb ⊢
    have b2 : BB ^ 2 = 18446744073709551616 := rfl
    have h1 : ((a1 : Int) + 1).toNat < BB ^ 2 := by rw [b2]; omega
    have h2 : ((b1 : Int) + 0).toNat < BB ^ 2 := by rw [b2, Int.add_zero, Int.toNat_natCast]; omega
    have := EM_le ((nl_le BB1 2 _).mpr h1) ((nl_le BB1 2 _).mpr h2)
    omega
  exact s_cof_loop (M0 := M) (T := LCF pu pv) rfl rfl tb.1 tb.2 hvu hQ 200 M11 _ _ 1 0 0 1 pu pv 0 f1 (LI_start tb.2 tb.1) ⟨Nat.le_refl _, fun h => absurd rfl h⟩ k7 k8 k9 k10 rfl hem (by decide)
