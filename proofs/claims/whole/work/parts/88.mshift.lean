/-! shift, greatest divisors of the reference -/
theorem k_sh197 {G : SH} {M0 M : MS} {L : LV} {n w d e : Nat} {s : ST} {g : Nat → Int} {v : Int} {v6 : Int32} (h : KE G M0 M L n w s g) (hd : d < n) (hg : g 19 = sg (v.natAbs / 2 ^ e) (decide (v < 0))) (h6 : v6 = if v.natAbs % 2 ^ e ≠ 0 then 1 else 0) (hv : nl HB v.natAbs ≤ 80) {Q : Int32 → MS → Prop} (hQ : OQ G M0 L n w (oPut w s d (HV v e)) Q) : w_X11_shift_197 G Q (kO L.1) (nI d) (iS v) v6 M := by
  unfold w_X11_shift_197
  unfold HV at hQ
  have hle : v.natAbs / 2 ^ e ≤ v.natAbs := Nat.div_le_self _ _
  rw [iS_ge0]
  by_cases c : v < 0 ∧ v.natAbs % 2 ^ e ≠ 0
  · rw [if_pos c] at hQ
    rw [if_pos c.2] at h6
    subst h6
    refine ⟨fun z => absurd z (by omega), fun _ => ⟨fun z => absurd z (by decide), fun _ => ?_⟩⟩
    refine k_small h.ki (d := 16) (by decide) (c := 1) (by decide) rfl (fun N f1 h1 => ?_)
    have h2 := h.up1 f1 h1 (by decide)
    have q1 : setK g 16 ((1 : Nat) : Int) 16 = 1 := setK_s _ _ _
    have q2 : setK g 16 ((1 : Nat) : Int) 19 = sg (v.natAbs / 2 ^ e) (decide (v < 0)) := by rw [setK_n _ _ (by decide)]; exact hg
    have n1 : nl HB 1 ≤ 1 := (nl_le HB1 1 1).mpr (by decide)
    have n2 := nl_mono HB1 hle
    refine k_sum (d := 19) (a := 19) (b := 16) (-1) h1 (by decide) (by decide) (by decide) (Or.inr ⟨by rw [q1], rfl⟩) (by rw [q2, sg_abs]; omega) (by rw [q1]; show nl HB 1 ≤ 258; omega) (fun P f2 h3 => ?_)
    refine k_put (h2.up1 f2 h3 (by decide)) hd (a := 19) (by decide) rfl ?_ hQ
    rw [setK_s, q2]
    unfold sg
    rw [decide_eq_true c.1, if_pos rfl, if_pos rfl]
    generalize v.natAbs / 2 ^ e = x
    omega
  · rw [if_neg c, Nat.add_zero] at hQ
    have fin := k_put h hd (a := 19) (i := 19) (by decide) rfl hg hQ
    refine ⟨fun _ => fin, fun z => ⟨fun _ => fin, fun z2 => ?_⟩⟩
    rw [h6, if_neg (fun q => c ⟨by omega, q⟩)] at z2
    exact absurd rfl z2
theorem k_sh_loop {G : SH} {M : MS} {L : LV} {a low : Nat} {g : Nat → Int} {v1 v3 v4 v5 : Int32} (hI : KI G M L.1 g) (ha : a < 40) (hlow : low < 100000) {Q : Int32 → MS → Prop} (hfin : ∀ v6 : Int32, v6 = (if (g a).natAbs % 2 ^ low ≠ 0 then 1 else 0) → ((v5 = 0 → (w_X11_halved G (kO L.1) (19 : Int32) (nI a) (-v3) M (fun (M8 : MS) => w_X11_shift_197 G Q (kO L.1) v1 v4 v6 M8))) ∧ (¬ v5 = 0 → (w_X11_small G (kO L.1) (19 : Int32) (0 : Int32) M (fun (M14 : MS) => w_X11_shift_197 G Q (kO L.1) v1 v4 v6 M14))))) : ∀ (t k : Nat) (v6 : Int32), k + t = low → v6 = (if (g a).natAbs % 2 ^ k ≠ 0 then 1 else 0) → w_X11_shift_138 G Q (t + 1) (kO L.1) v1 (nI a) v3 v4 v5 v6 (nI low) (nI k) M
  | 0, k, v6, hk, h6 => by
    obtain rfl : k = low := by omega
    rw [w_X11_shift_138, nI_leI (by omega) (by omega)]
    exact ⟨fun _ => hfin v6 h6, fun q => absurd (Nat.le_refl _) q⟩
  | t + 1, k, v6, hk, h6 => by
    rw [w_X11_shift_138, nI_leI (by omega) (by omega), nI_1]
    have hm := Nat.mod_pow_succ (x := (g a).natAbs) (b := 2) (k := k)
    have hp : 0 < 2 ^ k := Nat.pow_pos (by decide)
    refine ⟨fun q => absurd q (by omega), fun _ => ⟨fun q x ex => ?_, fun q => ?_⟩⟩
    · rw [ex]
      have c : (g a).natAbs % 2 ^ k ≠ 0 := fun z => q (by rw [h6, if_neg (fun y => y z)])
      exact k_sh_loop hI ha hlow hfin t (k + 1) 1 (by omega) (by rw [if_pos (by omega)])
    · have c : (g a).natAbs % 2 ^ k = 0 := by
        by_cases z : (g a).natAbs % 2 ^ k = 0
        · exact z
        · rw [h6, if_pos z] at q
          exact absurd q (by decide)
      refine k_bit hI ha (by omega) ?_
      by_cases b : (g a).natAbs / 2 ^ k % 2 = 1
      · rw [if_pos b]
        refine ⟨fun z => absurd z (by decide), fun _ x ex => ?_⟩
        rw [ex]
        exact k_sh_loop hI ha hlow hfin t (k + 1) 1 (by omega) (by rw [hm, b, if_pos (by omega)])
      · rw [if_neg b]
        refine ⟨fun _ x ex => ?_, fun z => absurd rfl z⟩
        rw [ex]
        exact k_sh_loop hI ha hlow hfin t (k + 1) 0 (by omega) (by rw [hm, c, show (g a).natAbs / 2 ^ k % 2 = 0 by omega, if_neg (by simp)])
theorem neg_i {k : Int32} (h : k < 0) (hm : ¬ k = -2147483648) : -k = nI (-k.toInt).toNat ∧ (-k.toInt).toNat < 2147483648 := by
  have b1 := Int32.le_toInt k
  rw [fa_lt] at h
  have e0 : (0 : Int32).toInt = 0 := rfl
  have hne : k.toInt ≠ -2147483648 := fun e => hm (Int32.toInt_inj.mp e)
  refine ⟨?_, by omega⟩
  apply Int32.toInt_inj.mp
  rw [fb_negI hne, nI_toInt (by omega)]
  omega
theorem lt_pow_nl {v e : Nat} (h : nl 2 v ≤ e) : v < 2 ^ e := (nl_le (by decide) e v).mp h
theorem k_shift {G : SH} {M : MS} {L : LV} {n w : Nat} {s : ST} {d a k : Int32} (h : KJ G M L n w s) {Q : Int32 → MS → Prop} (hQ : OQ G M L n w (oShift n w s d a k) Q) : w_X11_shift G (kO L.1) d a k M Q := by
  unfold w_X11_shift
  intro M1 e1
  obtain ⟨f, h1⟩ := h.go e1
  have hn := h1.n16
  have hw := h1.w40
  unfold oShift at hQ
  refine k_noA h1 (fun i hi ei => k_noB h1 (fun j hj ej => ?_) (fun z => ?_)) (fun z => ?_)
  · subst ei ej
    rw [if_pos ⟨isR_nI (by omega) hi, isR_nI (by omega) hj⟩, ix_nI (by omega), ix_nI (by omega), ← h1.rg hj] at hQ
    obtain ⟨⟨e0, e1, e2⟩, ⟨g0, g1, g2⟩, -⟩ := id h1.ki.1
    have vj := vp_in_nI (n := j) (N := 40) (by omega) (by decide)
    have nj := h1.nh hj
    have nb : nl 2 (f j).natAbs ≤ 1280 := by
      rw [nl_le (by decide)]
      have := (nl_le HB1 80 (f j).natAbs).mp nj
      rw [HBp] at this
      exact this
    rw [e2, g2, cl (by omega), (h1.ki.2 j (by omega)).1.2.1, iS_eq0]
    refine ⟨vj, fun hz => ⟨fun hk => ⟨vj, fun x ex => ?_⟩, fun hk => ?_⟩, fun hz => ?_⟩
    · subst ex
      rw [if_pos hk] at hQ
      have hk2 := hk
      rw [fa_lt] at hk2
      have hk3 : k.toInt < 0 := hk2
      have b1 := Int32.le_toInt k
      generalize hee : (-k.toInt).toNat = e at hQ
      have all : nl 2 (f j).natAbs ≤ e → w_X11_shift_108 G Q (kO L.1) (nI i) (nI j) k (iS (f j)) M1 := by
        intro hb
        unfold w_X11_shift_108 w_X11_shift_113
        refine ⟨fun z => absurd z (by decide), fun _ => ?_⟩
        refine k_bits h1.ki (by omega) ⟨nl 2 (f j).natAbs + 1, ?_⟩
        rw [← nI_0]
        refine k_sh_loop h1.ki (by omega) (by omega) (fun v6 h6 => ⟨fun z => absurd z (by decide), fun _ => ?_⟩) _ 0 (nI 0) (by omega) (by rw [Nat.pow_zero, Nat.mod_one]; rfl)
        refine k_small h1.ki (d := 19) (by decide) (c := 0) (by decide) rfl (fun N f2 h2 => ?_)
        have l1 := lt_pow_nl hb
        have l2 := lt_pow_nl (Nat.le_refl (nl 2 (f j).natAbs))
        refine k_sh197 (e := e) (v := f j) (h1.up1 f2 h2 (by decide)) hi ?_ ?_ nj hQ
        · rw [setK_s, Nat.div_eq_of_lt l1]
          unfold sg
          split <;> rfl
        · rw [h6, Nat.mod_eq_of_lt l1, Nat.mod_eq_of_lt l2]
      refine ⟨fun hm => all (by rw [hm] at hee; have : (-(-2147483648 : Int32).toInt).toNat = 2147483648 := rfl; omega), fun hm => ?_⟩
      refine k_bits h1.ki (by omega) ?_
      obtain ⟨en, el⟩ := neg_i hk hm
      rw [hee] at en el
      rw [en, nI_ltI el (by omega)]
      refine ⟨fun hb => ?_, fun hb => all (by omega)⟩
      unfold w_X11_shift_113
      refine ⟨fun _ x ex => ⟨e + 1, ?_⟩, fun z => absurd rfl z⟩
      rw [ex, en, ← nI_0]
      refine k_sh_loop h1.ki (by omega) (by omega) (fun v6 h6 => ⟨fun _ => ?_, fun z => absurd rfl z⟩) _ 0 (nI 0) (by omega) (by rw [Nat.pow_zero, Nat.mod_one]; rfl)
      refine k_halved h1.ki (d := 19) (by decide) (by omega) (by omega) (e := e) (by omega) en (fun N f2 h2 => ?_)
      exact k_sh197 (e := e) (v := f j) (h1.up1 f2 h2 (by decide)) hi (setK_s _ _ _) h6 nj hQ
    · rw [if_neg hk, if_neg hz] at hQ
      obtain ⟨e, he, rfl⟩ := nI_of hk
      rw [ix_nI he] at hQ
      refine k_bits h1.ki (by omega) ?_
      rw [h1.2.1.2.2.1.2.1, nI_l (by omega), nI_l (by omega), nI_l (by omega), lN_add, show (32 : Int64) = lN 32 from rfl, lN_mul, pk_lLE (by omega) (by omega)]
      refine ⟨fun q => ?_, fun q => ?_⟩
      · rw [if_neg (by omega)] at hQ
        refine k_doubled h1.ki (d := 19) (by decide) (by omega) (by omega) (e := e) (by omega) (by omega) rfl (fun N f2 h2 => ?_)
        exact k_put (h1.up1 f2 h2 (by decide)) hi (a := 19) (by decide) rfl (setK_s _ _ _) hQ
      · rw [if_pos (by omega)] at hQ
        exact h1.same hQ
    · have e : (if k < 0 then oPut w s i (HV (f j) (-k.toInt).toNat) else if f j = 0 then (setR s i 0, (0 : Int32)) else if 32 * w < nl 2 (f j).natAbs + ix k then (s, 1) else oPut w s i (f j * ((2 ^ ix k : Nat) : Int))) = (setR s i 0, (0 : Int32)) := by
        by_cases c : k < 0
        · rw [if_pos c, hz]
          have e0 : HV 0 (-k.toInt).toNat = 0 := by
            unfold HV
            rw [if_neg (by omega), show (0 : Int).natAbs = 0 from rfl, Nat.zero_div]
            rfl
          rw [e0]
          exact oPut_fit (by rw [show (0 : Int).natAbs = 0 from rfl, nl_0]; exact Nat.zero_le _)
        · rw [if_neg c, if_pos hz]
      rw [e] at hQ
      refine k_small h1.ki (by omega) (c := 0) (by decide) rfl (fun N f2 h2 => ?_)
      exact h1.set f2 h2 hi (setK_s _ _ _) (fun i _ e => setK_n _ _ e) (by rw [show (((0 : Nat) : Int)).natAbs = 0 from rfl, nl_0]; exact Nat.zero_le _) hQ
  · rw [if_neg (fun q => z q.2)] at hQ
    exact h1.same hQ
  · rw [if_neg (fun q => z q.1)] at hQ
    exact h1.same hQ
theorem setK_ss (f : Nat → Int) (d : Nat) (x y : Int) : setK (setK f d x) d y = setK f d y := funext fun i => by
  unfold setK
  by_cases h : i = d
  · rw [if_pos h, if_pos h]
  · rw [if_neg h, if_neg h, if_neg h]
theorem k_sized {G : SH} {M : MS} {K : KV} {d a : Nat} {f : Nat → Int} (hI : KI G M K f) (hd' : d < 40) (ha : a < 40) {Q : MS → Prop} (hQ : ∀ N, KF K M N → KI G N K (setK f d ((f a).natAbs : Int)) → Q N) : w_X11_sized G (kO K) (nI d) (nI a) M Q := by
  unfold w_X11_sized
  refine k_copy hI hd' ha (fun N f1 h1 => ?_)
  obtain ⟨⟨e0, e1, e2⟩, ⟨g0, g1, g2⟩, -⟩ := id h1.1
  have sd := (h1.2 d hd').1
  rw [setK_s] at sd
  have fin : ∀ (i : Int32), i = iS ((f a).natAbs : Int) → ∀ P : MS, P = wA N (kS K) (upd (mA N (kS K)) d i) → Q P := by
    intro i hi P eP
    have h2 := h1.sg hd' (z := ((f a).natAbs : Int)) (i := i) (by rw [setK_s, Int.natAbs_natCast]) hi
    rw [← eP, setK_ss] at h2
    exact hQ P (f1.tr (by rw [eP]; exact KF.wS _)) h2
  have s3 := sd.2.2
  rw [e1, g1, e2, g2, cl (by omega), sd.1, nI_eq0 (by omega), nlH0]
  have vd := vp_in_nI (n := d) (N := 40) hd' (by decide)
  refine ⟨vd, fun q => ⟨vd, fun P eP => fin 1 (iS_nat (by omega)) P eP⟩, fun q => ⟨vd, fun P eP => fin 0 ?_ P eP⟩⟩
  rw [q]
  rfl
theorem setK_2 (f : Nat → Int) {d e : Nat} (x y : Int) (h : d ≠ e) : setK (setK f d x) e y d = x := by rw [setK_n _ _ h, setK_s]
/-- a step of Euclid's way on the rows 20, 21 -/
theorem k_euc {G : SH} {M : MS} {K : KV} {f : Nat → Int} {u v : Nat} (hI : KI G M K f) (hu : f 20 = (u : Int)) (hv : f 21 = (v : Int)) (hv0 : v ≠ 0) (nu : nl HB u ≤ 258) {Q : MS → Prop} (hQ : ∀ (N : MS) (g : Nat → Int), KF K M N → KI G N K g → g 17 = ((u / v : Nat) : Int) → g 20 = (v : Int) → g 21 = ((u % v : Nat) : Int) → (∀ r, r ≠ 17 → r ≠ 18 → r ≠ 20 → r ≠ 21 → g r = f r) → Q N) : w_X11_quotient G (kO K) (17 : Int32) (18 : Int32) (20 : Int32) (21 : Int32) M (fun (M2 : MS) => (w_X11_copy G (kO K) (20 : Int32) (21 : Int32) M2 (fun (M3 : MS) => (w_X11_copy G (kO K) (21 : Int32) (18 : Int32) M3 (fun (M4 : MS) => Q M4))))) := by
  refine k_quotient (q := 17) (m := 18) (a := 20) (b := 21) hI (by decide) (by decide) (by decide) (by decide) (by decide) (by decide) (by decide) (by rw [hv]; omega) (by rw [hu, Int.natAbs_natCast]; exact nu) (fun N1 f1 h1 => ?_)
  rw [hu, hv, Int.natAbs_natCast, Int.natAbs_natCast] at h1
  refine k_copy (d := 20) (a := 21) h1 (by decide) (by decide) (fun N2 f2 h2 => ?_)
  refine k_copy (d := 21) (a := 18) h2 (by decide) (by decide) (fun N3 f3 h3 => ?_)
  refine hQ N3 _ ((f1.tr f2).tr f3) h3 rfl ?_ rfl (fun r a b c d => ?_)
  · show f 21 = _
    exact hv
  · rw [setK_n _ _ d, setK_n _ _ c, setK_n _ _ b, setK_n _ _ a]
theorem k_divisor_loop {G : SH} {K : KV} {c : Nat} {Q : MS → Prop} : ∀ (n : Nat) (M : MS) (f : Nat → Int) (u v : Nat), KI G M K f → f 20 = (u : Int) → f 21 = (v : Int) → nl HB u ≤ 258 → nl HB v ≤ 258 → EM u v < n → Nat.gcd u v = c → (∀ (N : MS) (g : Nat → Int), KF K M N → KI G N K g → g 20 = (c : Int) → (∀ r, r ≠ 17 → r ≠ 18 → r ≠ 20 → r ≠ 21 → g r = f r) → Q N) → w_X11_divisor_0 G Q n (kO K) M
  | 0, M, f, u, v, _, _, _, _, _, h, _, _ => absurd h (Nat.not_lt_zero _)
  | n + 1, M, f, u, v, hI, hu, hv, nu, nv, hn, hc, hQ => by
    obtain ⟨⟨e0, e1, e2⟩, ⟨g0, g1, g2⟩, -⟩ := id hI.1
    have s21 := (hI.2 21 (by decide)).1
    rw [hv, Int.natAbs_natCast] at s21
    rw [w_X11_divisor_0, e1, g1, show (21 : Int32).toNatClampNeg = 21 from rfl, s21.1, nI_le0 (by omega), nlH0]
    refine ⟨vp_in_nI (n := 21) (by decide) (by decide), fun q => ?_, fun q => ?_⟩
    · rw [q, Nat.gcd_zero_right] at hc
      exact hQ M f KF.rf hI (by rw [hu, hc]) (fun _ _ _ _ _ => rfl)
    · refine k_euc hI hu hv q nu (fun N g f1 h1 q1 q2 q3 q4 => ?_)
      have hEM := EM_lt (u := u) (show 0 < v by omega)
      refine k_divisor_loop n N g v (u % v) h1 q2 q3 nv (Nat.le_trans (nl_mono HB1 (Nat.le_of_lt (Nat.mod_lt _ (by omega)))) nv) (by omega) ?_ (fun P g' f2 h2 r1 r2 => hQ P g' (f1.tr f2) h2 r1 (fun r a b c d => (r2 r a b c d).trans (q4 r a b c d)))
      rw [← hc, Nat.gcd_comm u v, Nat.gcd_rec v u, Nat.gcd_comm]
theorem k_gcd {G : SH} {M : MS} {L : LV} {n w : Nat} {s : ST} {d a b : Int32} (h : KJ G M L n w s) {Q : Int32 → MS → Prop} (hQ : OQ G M L n w (oGcd n s d a b) Q) : w_X11_simple G (kO L.1) d a b M Q := by
  unfold w_X11_simple
  intro M1 e1
  obtain ⟨f, h1⟩ := h.go e1
  have hn := h1.n16
  unfold oGcd at hQ
  refine k_noA h1 (fun i hi ei => k_noA h1 (fun j hj ej => k_noB h1 (fun k hk ek => ?_) (fun z => ?_)) (fun z => ?_)) (fun z => ?_)
  · subst ei ej ek
    rw [if_pos ⟨isR_nI (by omega) hi, isR_nI (by omega) hj, isR_nI (by omega) hk⟩, ix_nI (by omega), ix_nI (by omega), ix_nI (by omega), ← h1.rg hj, ← h1.rg hk] at hQ
    have b1 := h1.nh hj
    have b2 := h1.nh hk
    refine k_sized (d := 20) h1.ki (by decide) (by omega) (fun N1 f1 h2 => ?_)
    refine k_sized (d := 21) h2 (by decide) (by omega) (fun N2 f2 h3 => ?_)
    have e2 : setK f 20 ((f j).natAbs : Int) k = f k := setK_n _ _ (by omega)
    rw [e2] at h3
    unfold w_X11_divisor
    refine ⟨_, k_divisor_loop _ N2 _ (f j).natAbs (f k).natAbs h3 rfl rfl (by omega) (by omega) (Nat.lt_succ_self _) rfl (fun N3 g f3 h4 q1 q2 => ?_)⟩
    refine k_copy (a := 20) h4 (by omega) (by decide) (fun N4 f4 h5 => ?_)
    refine h1.set (((f1.tr f2).tr f3).tr f4) h5 hi (by rw [setK_s]; exact q1) (fun x hx e => ?_) ?_ hQ
    · rw [setK_n _ _ e, q2 x (by omega) (by omega) (by omega) (by omega), setK_n _ _ (by omega), setK_n _ _ (by omega)]
    · rw [Int.natAbs_natCast]
      refine nl_gcd ?_ ?_
      · rw [h1.rg hj]; exact h1.2.2.2.2.2 j hj
      · rw [h1.rg hk]; exact h1.2.2.2.2.2 k hk
  · rw [if_neg (fun q => z q.2.2)] at hQ
    exact h1.same hQ
  · rw [if_neg (fun q => z q.2.1)] at hQ
    exact h1.same hQ
  · rw [if_neg (fun q => z q.1)] at hQ
    exact h1.same hQ
