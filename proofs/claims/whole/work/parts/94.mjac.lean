/-! Jacobi's symbol of the reference -/
theorem and7i {n : Nat} (h : n < 2147483648) : nI n &&& (7 : Int32) = nI (n % 8) := pk_andN (by omega) 3 rfl
theorem and3i {n : Nat} (h : n < 2147483648) : nI n &&& (3 : Int32) = nI (n % 4) := pk_andN (by omega) 2 rfl
theorem tz_bit {u k : Nat} (hu : 0 < u) (hk : k ≤ tz u) : u / 2 ^ k % 2 = 1 ↔ k = tz u := by
  have h := tz_div hu
  constructor
  · intro hb
    rcases Nat.lt_or_ge k (tz u) with q | q
    · have h2 := (tz_dvd hu).mp (show k + 1 ≤ tz u by omega)
      have e := Nat.mod_pow_succ (x := u) (b := 2) (k := k)
      have hp : 0 < 2 ^ k := Nat.pow_pos (by decide)
      rw [h2, hb] at e
      omega
    · omega
  · intro e
    rw [e]; exact h.2
theorem k_jac_low {G : SH} {M : MS} {K : KV} {f : Nat → Int} {u : Nat} {v3 : Int32} (hI : KI G M K f) (f20 : f 20 = (u : Int)) (hu : 0 < u) (hz : tz u < 100000) {K72 : Nat → Int32 → MS → Prop} {Q : Int32 → MS → Prop} (hfin : vp_in (5460 : Int32) (G.2.2.1 (mR M (kO K) 0)) ∧ (∀ x5 : Int32, x5 = (mA M (mR M (kO K) 0) (5460 : Int32).toNatClampNeg) &&& 7 → ((¬ (nI (tz u) &&& 1) = (1 : Int32) → w_X11_jacobi_138 G K72 Q (kO K) v3 (nI (tz u)) M) ∧ ((nI (tz u) &&& 1) = (1 : Int32) → ((x5 = (3 : Int32) → w_X11_jacobi_135 G K72 Q (kO K) v3 (nI (tz u)) M) ∧ (¬ x5 = (3 : Int32) → ((¬ x5 = (5 : Int32) → w_X11_jacobi_138 G K72 Q (kO K) v3 (nI (tz u)) M) ∧ (x5 = (5 : Int32) → w_X11_jacobi_135 G K72 Q (kO K) v3 (nI (tz u)) M)))))))) : ∀ (t k : Nat), k + t = tz u → w_X11_jacobi_85 G K72 Q (t + 1) (kO K) v3 (nI k) M
  | 0, k, hk => by
    obtain rfl : k = tz u := by omega
    rw [w_X11_jacobi_85]
    refine k_bit (a := 20) hI (by decide) (by omega) ?_
    rw [f20, Int.natAbs_natCast, if_pos ((tz_bit hu (Nat.le_refl _)).mpr rfl)]
    exact ⟨fun _ => hfin, fun q => absurd q (by decide)⟩
  | t + 1, k, hk => by
    rw [w_X11_jacobi_85]
    refine k_bit (a := 20) hI (by decide) (by omega) ?_
    rw [f20, Int.natAbs_natCast, if_neg (fun z => by have := (tz_bit hu (by omega)).mp z; omega), nI_1]
    refine ⟨fun q => absurd rfl q, fun _ x ex => ?_⟩
    rw [ex]
    exact k_jac_low hI f20 hu hz hfin t (k + 1) (by omega)
theorem k_jac_loop {G : SH} {M0 : MS} {L : LV} {nn w : Nat} {s : ST} {T : Int32} {Q : Int32 → MS → Prop} (hQ : OQ G M0 L nn w (s, T) Q) : ∀ (n : Nat) (M : MS) (f : Nat → Int) (u v : Nat) (v3 : Int32), KE G M0 M L nn w s f → f 20 = (u : Int) → f 21 = (v : Int) → 0 < v → nl HB u ≤ 80 → nl HB v ≤ 80 → JS u v v3 = T → EM v u < n → w_X11_jacobi_72 G Q n (kO L.1) v3 M
  | 0, M, f, u, v, v3, _, _, _, _, _, _, _, hn => absurd hn (Nat.not_lt_zero _)
  | n + 1, M, f, u, v, v3, h, f20, f21, hv, nu, nv, hT, hn => by
    obtain ⟨⟨e0, e1, e2⟩, ⟨g0, g1, g2⟩, -⟩ := id h.ki.1
    have s20 := h.ki.2 20 (by decide)
    have s21 := h.ki.2 21 (by decide)
    rw [f20] at s20
    rw [f21] at s21
    have m20 := s20.1.1
    have m21 := s21.1.1
    rw [Int.natAbs_natCast] at m20 m21
    have v20 := vp_in_nI (n := 20) (N := 40) (by decide) (by decide)
    have v21 := vp_in_nI (n := 21) (N := 40) (by decide) (by decide)
    have w20 := vp_in_nI (n := 5200) (N := 10400) (by decide) (by decide)
    have w21 := vp_in_nI (n := 5460) (N := 10400) (by decide) (by decide)
    have lo21 : mA M (kH L.1) (5460 : Int32).toNatClampNeg = nI (v % 65536) := Sl_low s21 hv
    rw [w_X11_jacobi_72, e1, g1, e0, g0, show (20 : Int32).toNatClampNeg = 20 from rfl, show (21 : Int32).toNatClampNeg = 21 from rfl, m20, m21, lo21, nI_le0 (by omega), nlH0, show (1 : Int32) = nI 1 from rfl, nI_eq (by omega) (by decide), nI_eq (by omega) (by decide)]
    refine ⟨v20, fun hz => ⟨v21, fun q => ?_, fun q => ⟨w21, fun q2 => ?_, fun q2 => ?_⟩⟩, fun hz => ⟨tz u + 1, ?_⟩⟩
    · subst hz
      rw [JS_0, if_neg (fun e => q (one_many.mpr e).1)] at hT
      subst hT
      exact h.same hQ
    · subst hz
      rw [JS_0, if_neg (fun e => q2 (one_many.mpr e).2)] at hT
      subst hT
      exact h.same hQ
    · subst hz
      rw [JS_0, if_pos (one_many.mp ⟨q, q2⟩)] at hT
      subst hT
      exact h.same hQ
    · have hu : 0 < u := by omega
      have htz : tz u ≤ 32 * 40 := tz_lt (nlHB.mp nu)
      rw [JS_s hz] at hT
      have hdv := tz_div hu
      have hle : u / 2 ^ tz u ≤ u := Nat.div_le_self _ _
      have hEM := EM_mono (u := u) (u' := u / 2 ^ tz u) (v := v) hle
      have hu'0 : 0 < u / 2 ^ tz u := by
        have h3 := hdv.2
        rcases Nat.eq_zero_or_pos (u / 2 ^ tz u) with e | e
        · rw [e] at h3
          exact absurd h3 (by decide)
        · exact e
      have hEM2 := EM_lt (u := v) hu'0
      have nu' : nl HB (u / 2 ^ tz u) ≤ 80 := Nat.le_trans (nl_mono HB1 hle) nu
      have go : ∀ c : Int32, JS (v % (u / 2 ^ tz u)) (u / 2 ^ tz u) (if u / 2 ^ tz u % 4 = 3 ∧ v % 4 = 3 then -c else c) = T → w_X11_jacobi_138 G (w_X11_jacobi_72 G Q n) Q (kO L.1) c (nI (tz u)) M := by
        intro c hc
        unfold w_X11_jacobi_138
        refine k_halved (d := 19) (a := 20) h.ki (by decide) (by decide) (by decide) (e := tz u) (by omega) rfl (fun N1 f1 h1 => ?_)
        rw [f20, Int.natAbs_natCast, decide_eq_false (show ¬ (u : Int) < 0 by omega)] at h1
        have h1 : KI G N1 L.1 (setK f 19 ((u / 2 ^ tz u : Nat) : Int)) := h1
        refine k_copy (d := 20) (a := 19) h1 (by decide) (by decide) (fun N2 f2 h2 => ?_)
        generalize hu' : u / 2 ^ tz u = u' at *
        have c20 : setK (setK f 19 (u' : Int)) 20 (setK f 19 (u' : Int) 19) 20 = (u' : Int) := rfl
        have c21 : setK (setK f 19 (u' : Int)) 20 (setK f 19 (u' : Int) 19) 21 = (v : Int) := f21
        have t20 := h2.2 20 (by decide)
        have t21 := h2.2 21 (by decide)
        rw [c20] at t20
        rw [c21] at t21
        have l20 : mA N2 (kH L.1) (5200 : Int32).toNatClampNeg = nI (u' % 65536) := Sl_low t20 hu'0
        have l21 : mA N2 (kH L.1) (5460 : Int32).toNatClampNeg = nI (v % 65536) := Sl_low t21 hv
        have last : ∀ c' : Int32, JS (v % u') u' c' = T → w_X11_jacobi_187 G (w_X11_jacobi_72 G Q n) Q (kO L.1) c' N2 := by
          intro c' hc'
          unfold w_X11_jacobi_187
          refine k_quotient (q := 17) (m := 18) (a := 21) (b := 20) h2 (by decide) (by decide) (by decide) (by decide) (by decide) (by decide) (by decide) (by rw [c20]; omega) (by rw [c21, Int.natAbs_natCast]; omega) (fun N3 f3 h3 => ?_)
          rw [c20, c21, Int.natAbs_natCast, Int.natAbs_natCast] at h3
          refine k_copy (d := 21) (a := 20) h3 (by decide) (by decide) (fun N4 f4 h4 => ?_)
          refine k_copy (d := 20) (a := 18) h4 (by decide) (by decide) (fun N5 f5 h5 => ?_)
          have h6 := h.up ((((f1.tr f2).tr f3).tr f4).tr f5) h5 (fun i hi => by rw [setK_n _ _ (by omega), setK_n _ _ (by omega), setK_n _ _ (by omega), setK_n _ _ (by omega), setK_n _ _ (by omega), setK_n _ _ (by omega)])
          exact k_jac_loop hQ n N5 _ (v % u') u' c' h6 rfl rfl hu'0 (Nat.le_trans (nl_mono HB1 (Nat.le_of_lt (Nat.mod_lt _ hu'0))) nu') nu' hc' (by omega)
        rw [h2.1.1.1, g0, l20, l21, and3i (by omega), and3i (by omega), show (3 : Int32) = nI 3 from rfl, nI_eq (by omega) (by decide), nI_eq (by omega) (by decide)]
        refine ⟨w20, fun q => last c ?_, fun q => ⟨w21, fun q2 => last c ?_, fun q2 x ex => ?_⟩⟩
        · rw [if_neg (by omega)] at hc; exact hc
        · rw [if_neg (by omega)] at hc; exact hc
        · rw [ex]
          refine last _ ?_
          rw [if_pos (by omega)] at hc; exact hc
      rw [← nI_0]
      refine k_jac_low h.ki f20 hu (by omega) ?_ _ 0 (by omega)
      rw [e0, g0, lo21, and7i (by omega), and1 (by omega), show (1 : Int32) = nI 1 from rfl, nI_eq (by omega) (by decide)]
      refine ⟨w21, fun x ex => ?_⟩
      rw [ex, show (3 : Int32) = nI 3 from rfl, show (5 : Int32) = nI 5 from rfl, nI_eq (by omega) (by decide), nI_eq (by omega) (by decide)]
      refine ⟨fun q => go v3 ?_, fun q => ⟨fun q2 => ?_, fun q2 => ⟨fun q3 => go v3 ?_, fun q3 => ?_⟩⟩⟩
      · rw [if_neg (show ¬ (tz u % 2 = 1 ∧ (v % 8 = 3 ∨ v % 8 = 5)) from fun z => q z.1)] at hT
        exact hT
      · unfold w_X11_jacobi_135
        intro y ey
        rw [ey]
        refine go _ ?_
        rw [if_pos (show tz u % 2 = 1 ∧ (v % 8 = 3 ∨ v % 8 = 5) from ⟨q, Or.inl (by omega)⟩)] at hT
        exact hT
      · rw [if_neg (show ¬ (tz u % 2 = 1 ∧ (v % 8 = 3 ∨ v % 8 = 5)) from fun z => by omega)] at hT
        exact hT
      · unfold w_X11_jacobi_135
        intro y ey
        rw [ey]
        refine go _ ?_
        rw [if_pos (show tz u % 2 = 1 ∧ (v % 8 = 3 ∨ v % 8 = 5) from ⟨q, Or.inr (by omega)⟩)] at hT
        exact hT
theorem iS_lt1 {z : Int} : iS z < (1 : Int32) ↔ ¬ 0 < z := by
  rw [← iS_ge1]
  exact Int32.not_le.symm
theorem k_jac {G : SH} {M : MS} {L : LV} {n w : Nat} {s : ST} {a m : Int32} (h : KJ G M L n w s) {Q : Int32 → MS → Prop} (hQ : OQ G M L n w (oJac n s a m) Q) : w_X11_jacobi G (kO L.1) a m M Q := by
  unfold w_X11_jacobi
  intro M1 e1
  obtain ⟨f, h1⟩ := h.go e1
  have hn := h1.n16
  unfold oJac at hQ
  refine k_noA h1 (fun i hi ei => k_noB h1 (fun j hj ej => ?_) (fun z => ?_)) (fun z => ?_)
  · subst ei ej
    rw [if_pos ⟨isR_nI (by omega) hi, isR_nI (by omega) hj⟩, ix_nI (by omega), ix_nI (by omega), ← h1.rg hi, ← h1.rg hj] at hQ
    obtain ⟨⟨e0, e1, e2⟩, ⟨g0, g1, g2⟩, -⟩ := id h1.ki.1
    have ni := h1.nh hi
    have nj := h1.nh hj
    rw [e2, g2, cl (by omega), (h1.ki.2 j (by omega)).1.2.1, iS_lt1]
    refine ⟨vp_in_nI (by omega) (by decide), fun hp => ?_, fun hp => ?_⟩
    · rw [if_pos (Or.inl hp)] at hQ
      exact h1.same hQ
    · have hp : 0 < f j := by omega
      rw [← nI_0]
      refine k_bit h1.ki (by omega) (by decide) ?_
      rw [Nat.pow_zero, Nat.div_one]
      by_cases b : (f j).natAbs % 2 = 1
      · rw [if_neg (fun z => by rcases z with z | z; exact z hp; exact z b)] at hQ
        rw [if_pos b]
        refine ⟨fun _ => ?_, fun q => absurd q (by decide)⟩
        refine k_copy h1.ki (d := 21) (by decide) (by omega) (fun N f2 h2 => ?_)
        have c21 : setK f 21 (f j) 21 = f j := setK_s _ _ _
        have ci : setK f 21 (f j) i = f i := setK_n _ _ (by omega)
        refine k_divided (q := 17) (m := 18) (b := 21) h2 (by decide) (by decide) (by omega) (by decide) (by decide) (by decide) (by decide) (by decide) (by decide) (by decide) (by rw [c21]; omega) (by rw [ci]; omega) (fun N2 g f3 h3 q1 q2 q3 => ?_)
        rw [c21, ci] at q2
        refine k_copy h3 (d := 20) (a := 18) (by decide) (by decide) (fun N3 f4 h4 => ⟨EM (f j).natAbs (modN (f i).natAbs (decide (f i < 0)) (f j).natAbs) + 1, ?_⟩)
        have hp2 : 0 < (f j).natAbs := by omega
        have hml := modN_lt (va := (f i).natAbs) (sa := decide (f i < 0)) hp2
        have h5 := h1.up ((f2.tr f3).tr f4) h4 (fun x hx => by rw [setK_n _ _ (by omega), q3 x (by omega) (by omega) (by omega), setK_n _ _ (by omega)])
        refine k_jac_loop hQ _ N3 _ (modN (f i).natAbs (decide (f i < 0)) (f j).natAbs) (f j).natAbs 1 h5 (by rw [setK_s]; exact q2) ?_ hp2 (Nat.le_trans (nl_mono HB1 (Nat.le_of_lt hml)) nj) nj rfl (Nat.lt_succ_self _)
        rw [setK_n _ _ (by decide), q3 21 (by decide) (by decide) (by decide), setK_s]
        omega
      · rw [if_pos (Or.inr b)] at hQ
        rw [if_neg b]
        exact ⟨fun q => absurd rfl q, fun _ => h1.same hQ⟩
  · rw [if_neg (fun q => z q.2)] at hQ
    exact h1.same hQ
  · rw [if_neg (fun q => z q.1)] at hQ
    exact h1.same hQ
