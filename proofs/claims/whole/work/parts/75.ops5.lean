/-! power, roots, Jacobi -/
def oPow (n : Nat) (s : ST) (d a e m : Int32) : ST × Int32 :=
  if (isR n d ∧ isR n a) ∧ (isR n e ∧ isR n m) then
    (if s.1 (ix e) < 0 ∨ ¬ 0 < s.1 (ix m) then (s, 2)
     else (setR s (ix d) (modN (s.1 (ix a)).natAbs (decide (s.1 (ix a) < 0)) (s.1 (ix m)).natAbs ^ (s.1 (ix e)).natAbs % (s.1 (ix m)).natAbs : Nat), 0))
  else (s, 3)
theorem az_no {z : Int} (h : ¬ 0 < z) : (decide (0 < z.natAbs) && !decide (z < 0)) = false := by
  by_cases q : z < 0
  · rw [decide_eq_true q]; simp
  · rw [decide_eq_false (show ¬ 0 < z.natAbs by omega)]; rfl
theorem az_yes {z : Int} (h : 0 < z) : (decide (0 < z.natAbs) && !decide (z < 0)) = true := by
  rw [decide_eq_true (show 0 < z.natAbs by omega), decide_eq_false (show ¬ z < 0 by omega)]; rfl
theorem m_pow {G : SH} {M0 M : MS} {E : EV} {s : ST} {d a e m : Int32} (hE : SE G E) (h : MI G M0 M E s) {Q : Int32 → MS → Prop} (hQ : ∀ N, MI G M0 N E (oPow (en E) s d a e m).1 → Q (oPow (en E) s d a e m).2 N) : w_X10_power G (eA E 0) d a e m M Q := by
  unfold w_X10_power
  have hn := hE.n31
  unfold oPow at hQ
  refine m_are2 hE h (fun i j hi hj ei ej => ⟨fun z => absurd z (by decide), fun _ => ?_⟩) (fun z => ⟨fun _ => ?_, fun z2 => absurd rfl z2⟩)
  · refine m_are2 hE h (fun k l hk hl ek el => ⟨fun _ => ?_, fun z => absurd z (by decide)⟩) (fun z => ⟨fun z2 => absurd rfl z2, fun _ => ?_⟩)
    · subst ei ej ek el
      rw [if_pos ⟨⟨isR_nI hn hi, isR_nI hn hj⟩, isR_nI hn hk, isR_nI hn hl⟩, ix_nI (by omega), ix_nI (by omega), ix_nI (by omega), ix_nI (by omega)] at hQ
      refine ⟨h.vp hE hk, ?_⟩
      have nj := h.nl hj
      have nk := h.nl hk
      have nL := h.nl hl
      have hw1 := hE.1.2.2.1
      have hw40 := hE.1.2.2.2
      rw [cl (by omega), cl (by omega), cl (by omega), h.rg hk, h.rg hl, (h.w hk).2.2.2]
      by_cases hek : s.1 k < 0
      · rw [if_pos (Or.inl hek)] at hQ
        rw [decide_eq_true hek]
        exact ⟨fun _ => hQ M h, fun z => absurd z (by decide)⟩
      · rw [decide_eq_false hek]
        refine ⟨fun z => absurd rfl z, fun _ => ⟨h.vp hE hl, ?_⟩⟩
        refine s_isAboveZero h.1.1 (hE.r8 hl) (h.w hl) ?_
        by_cases hpos : 0 < s.1 l
        · rw [if_neg (fun q => by rcases q with q | q; exact hek q; exact q hpos)] at hQ
          rw [az_yes hpos]
          refine ⟨fun _ => ⟨h.vp hE hj, h.vp hE hk, h.vp hE hl, ?_⟩, fun z => absurd z (by decide)⟩
          rw [h.rg hj, h.rg hk, h.rg hl, h.f 6]
          have hp2 : 0 < (s.1 l).natAbs := by omega
          have wl := h.w hl
          rw [decide_eq_false (show ¬ s.1 l < 0 by omega)] at wl
          obtain ⟨u, v, w, hR6, hm6, hnd6⟩ := h.2.2.1 6 (by decide) (by decide)
          refine s_raise (c := ew E) (rm := 2 * ew E + 2) (hE.X8 (c := 6) (by decide) (by decide)) h.1.1 hR6 hm6 hnd6 (h.rX (by decide) (by decide)) (hE.r8 hj) (hE.r8 hk) (hE.r8 hl) (hE.rX hj (by decide) (by decide)) (hE.rX hk (by decide) (by decide)) (hE.rX hl (by decide) (by decide)) (h.w hj) (h.w hk) wl hp2 nj nk nL hw1 (by omega) (by omega) (fun N f1 w1 => ?_)
          have h1 := h.fr hE f1 (hE.Xs (by decide) (by decide))
          refine m_put hE h1 hi rfl (hE.X8 (c := 6) (by decide) (by decide) _ (hm6 _ (by simp))) w1.z0 ?_
          rw [oPut_fit (by rw [Int.natAbs_natCast]; exact Nat.le_trans (nl_mono BB1 (Nat.le_of_lt (Nat.mod_lt _ hp2))) nL)]
          exact hQ
        · rw [if_pos (Or.inr hpos)] at hQ
          rw [az_no hpos]
          exact ⟨fun z => absurd rfl z, fun _ => hQ M h⟩
    · rw [if_neg (fun q => z q.2)] at hQ
      exact hQ M h
  · rw [if_neg (fun q => z q.1)] at hQ
    exact hQ M h
noncomputable def RT (a k : Nat) : Nat := if h : 0 < k then Classical.choose (root_ex a h) else 0
theorem RT_spec (a : Nat) {k : Nat} (h : 0 < k) : RT a k ^ k ≤ a ∧ a < (RT a k + 1) ^ k := by
  unfold RT
  rw [dif_pos h]
  exact Classical.choose_spec (root_ex a h)
theorem self_pow {r k : Nat} (h : 0 < k) : r ≤ r ^ k := by
  obtain ⟨K, rfl⟩ : ∃ K, k = K + 1 := ⟨k - 1, by omega⟩
  rcases Nat.eq_zero_or_pos r with e | e
  · rw [e]; exact Nat.zero_le _
  · rw [Nat.pow_succ]
    exact Nat.le_mul_of_pos_left r (Nat.pow_pos e)
theorem RT_le (a : Nat) {k : Nat} (h : 0 < k) : RT a k ≤ a := Nat.le_trans (self_pow h) (RT_spec a h).1
theorem m_rootf {G : SH} {M0 M : MS} {E : EV} {s : ST} {j k : Nat} {c : Int32} (hE : SE G E) (h : MI G M0 M E s) (hj : j < en E) (hs : ¬ s.1 j < 0) (hk : k < 2147483648) (hk0 : 0 < k) (hc : c = nI k) {Q : Nat → MS → Prop} (hQ : ∀ N x, MI G M0 N E s → x ∈ eX E 7 → Wh G N x (RT (s.1 j).natAbs k) false → Q x N) : w_X6_find G (eA E 7) (eR E j) c M Q := by
  have nj := h.nl hj
  have hw1 := hE.1.2.2.1
  have hw40 := hE.1.2.2.2
  have wj := h.w hj
  rw [decide_eq_false hs] at wj
  obtain ⟨gs, nx, hR, hm, hnd⟩ := h.2.2.1 7 (by decide) (by decide)
  have hsp := RT_spec (s.1 j).natAbs hk0
  refine s_rootFind (c := ew E) (rm := 2 * ew E + 2) (r := RT (s.1 j).natAbs k) (hE.X8 (c := 7) (by decide) (by decide)) (hE.o8 (by decide)) (hE.ne (by decide) (by decide) (by decide)) h.1.1 hR hm hnd (h.rX (by decide) (by decide)) hE.i14 (hE.xX hE.t14 (by decide) (by decide) (by decide)) h.on (hE.r8 hj) (hE.rX hj (by decide) (by decide)) wj hc hk hk0 nj hw1 (by omega) (by omega) (by omega) hsp.1 hsp.2 (fun N gs' nx' f1 hR' hm' hnd' w1 => ?_)
  have h1 := h.scr hE f1 (hE.Xs (by decide) (by decide)) (all1 ⟨7, by decide, by decide, rfl, gs', nx', hR', hm', hnd'⟩)
  exact hQ N gs' h1 (hm' gs' (by simp)) w1
noncomputable def oRoot (n : Nat) (s : ST) (d a k : Int32) : ST × Int32 := if isR n d ∧ isR n a then (if s.1 (ix a) < 0 ∨ ¬ (1 : Int32) ≤ k then (s, 2) else (setR s (ix d) (RT (s.1 (ix a)).natAbs (ix k) : Nat), 0)) else (s, 3)
theorem one_le {k : Int32} (h : (1 : Int32) ≤ k) : ∃ e, e < 2147483648 ∧ 0 < e ∧ k = nI e := by
  have zk : ¬ k < 0 := by
    rw [Int32.lt_iff_toInt_lt]
    rw [Int32.le_iff_toInt_le] at h
    have e1 : (1 : Int32).toInt = 1 := rfl
    have e0 : (0 : Int32).toInt = 0 := rfl
    omega
  obtain ⟨e, he, rfl⟩ := nI_of zk
  refine ⟨e, he, ?_, rfl⟩
  have : nI 1 ≤ nI e := h
  rw [nI_leI (by decide) he] at this
  omega
theorem m_root {G : SH} {M0 M : MS} {E : EV} {s : ST} {d a k : Int32} (hE : SE G E) (h : MI G M0 M E s) {Q : Int32 → MS → Prop} (hQ : ∀ N, MI G M0 N E (oRoot (en E) s d a k).1 → Q (oRoot (en E) s d a k).2 N) : w_X10_root G (eA E 0) d a k M Q := by
  unfold w_X10_root
  have hn := hE.n31
  unfold oRoot at hQ
  refine m_are2 hE h (fun i j hi hj ei ej => ⟨fun _ => ⟨by rw [ej]; exact h.vp hE hj, ?_⟩, fun z => absurd z (by decide)⟩) (fun z => ⟨fun z2 => absurd rfl z2, fun _ => ?_⟩)
  · subst ei ej
    rw [if_pos ⟨isR_nI hn hi, isR_nI hn hj⟩, ix_nI (by omega), ix_nI (by omega)] at hQ
    rw [cl (by omega), h.rg hj, (h.w hj).2.2.2]
    by_cases hs : s.1 j < 0
    · rw [if_pos (Or.inl hs)] at hQ
      rw [decide_eq_true hs]
      exact ⟨fun _ => hQ M h, fun z => absurd z (by decide)⟩
    · rw [decide_eq_false hs]
      refine ⟨fun z => absurd rfl z, fun _ => ⟨fun hk => ⟨h.vp hE hj, ?_⟩, fun hk => ?_⟩⟩
      · rw [if_neg (fun q => by rcases q with q | q; exact hs q; exact q hk)] at hQ
        obtain ⟨e, he, he0, rfl⟩ := one_le hk
        rw [ix_nI he] at hQ
        rw [h.f 7]
        refine m_rootf hE h hj hs he he0 rfl (fun N x h1 hx w1 => ?_)
        refine m_put hE h1 hi rfl (hE.X8 (c := 7) (by decide) (by decide) x hx) w1.z0 ?_
        rw [oPut_fit (by rw [Int.natAbs_natCast]; exact Nat.le_trans (nl_mono BB1 (RT_le _ he0)) (h.nl hj))]
        exact hQ
      · rw [if_pos (Or.inr hk)] at hQ
        exact hQ M h
  · rw [if_neg z] at hQ
    exact hQ M h
theorem m_isqrt {G : SH} {M0 M : MS} {E : EV} {s : ST} {d a : Int32} (hE : SE G E) (h : MI G M0 M E s) {Q : Int32 → MS → Prop} (hQ : ∀ N, MI G M0 N E (oRoot (en E) s d a 2).1 → Q (oRoot (en E) s d a 2).2 N) : w_X10_isqrt G (eA E 0) d a M Q := by
  unfold w_X10_isqrt
  have hn := hE.n31
  unfold oRoot at hQ
  refine m_are2 hE h (fun i j hi hj ei ej => ⟨fun _ => ⟨by rw [ej]; exact h.vp hE hj, ?_⟩, fun z => absurd z (by decide)⟩) (fun z => ⟨fun z2 => absurd rfl z2, fun _ => ?_⟩)
  · subst ei ej
    rw [if_pos ⟨isR_nI hn hi, isR_nI hn hj⟩, ix_nI (by omega), ix_nI (by omega)] at hQ
    rw [cl (by omega), h.rg hj, (h.w hj).2.2.2]
    by_cases hs : s.1 j < 0
    · rw [if_pos (Or.inl hs)] at hQ
      rw [decide_eq_true hs]
      exact ⟨fun z => absurd z (by decide), fun _ => hQ M h⟩
    · rw [decide_eq_false hs]
      refine ⟨fun _ => ⟨h.vp hE hj, ?_⟩, fun z => absurd rfl z⟩
      rw [if_neg (fun q => by rcases q with q | q; exact hs q; exact q (by decide))] at hQ
      have e2 : ix 2 = 2 := rfl
      rw [e2] at hQ
      rw [h.f 7]
      refine m_rootf hE h hj hs (k := 2) (by decide) (by decide) rfl (fun N x h1 hx w1 => ?_)
      refine m_put hE h1 hi rfl (hE.X8 (c := 7) (by decide) (by decide) x hx) w1.z0 ?_
      rw [oPut_fit (by rw [Int.natAbs_natCast]; exact Nat.le_trans (nl_mono BB1 (RT_le _ (by decide))) (h.nl hj))]
      exact hQ
  · rw [if_neg z] at hQ
    exact hQ M h
noncomputable def oIsq (n : Nat) (s : ST) (a : Int32) : ST × Int32 := if isR n a then (if s.1 (ix a) < 0 then (s, 0) else (s, if RT (s.1 (ix a)).natAbs 2 * RT (s.1 (ix a)).natAbs 2 = (s.1 (ix a)).natAbs then 1 else 0)) else (s, 3)
theorem cmp_eq0 {a b : Nat} : cmpN a b = 0 ↔ a = b := by
  unfold cmpN
  by_cases q1 : b < a
  · rw [if_pos q1]
    exact ⟨fun z => absurd z (by decide), fun z => by omega⟩
  · rw [if_neg q1]
    by_cases q2 : a = b
    · rw [if_pos q2]
      exact ⟨fun _ => q2, fun _ => rfl⟩
    · rw [if_neg q2]
      exact ⟨fun z => absurd z (by decide), fun z => absurd z q2⟩
theorem m_isq {G : SH} {M0 M : MS} {E : EV} {s : ST} {a : Int32} (hE : SE G E) (h : MI G M0 M E s) {Q : Int32 → MS → Prop} (hQ : ∀ N, MI G M0 N E (oIsq (en E) s a).1 → Q (oIsq (en E) s a).2 N) : w_X10_isSquare G (eA E 0) a M Q := by
  unfold w_X10_isSquare
  have hn := hE.n31
  unfold oIsq at hQ
  refine m_isR hE h (fun j hj ej => ⟨fun _ => ⟨by rw [ej]; exact h.vp hE hj, ?_⟩, fun z => absurd z (by decide)⟩) (fun z => ⟨fun z2 => absurd rfl z2, fun _ => ?_⟩)
  · subst ej
    rw [if_pos (isR_nI hn hj), ix_nI (by omega)] at hQ
    rw [cl (by omega), h.rg hj, (h.w hj).2.2.2]
    by_cases hs : s.1 j < 0
    · rw [if_pos hs] at hQ
      rw [decide_eq_true hs]
      exact ⟨fun z => absurd z (by decide), fun _ => hQ M h⟩
    · rw [decide_eq_false hs]
      refine ⟨fun _ => ?_, fun z => absurd rfl z⟩
      rw [if_neg hs] at hQ
      rw [h.f 7]
      have nj := h.nl hj
      have hRl := Nat.le_trans (nl_mono BB1 (RT_le (s.1 j).natAbs (k := 2) (by decide))) nj
      refine m_rootf hE h hj hs (k := 2) (by decide) (by decide) rfl (fun N x h1 hx w1 => ?_)
      have ix8 := hE.X8 (c := 7) (by decide) (by decide) x hx
      have xne : x ≠ eA E 10 := fun e => by
        have := hE.xX hE.t10 (c := 7) (by decide) (by decide) (by decide)
        rw [← e] at this
        exact this hx
      rw [h1.f 10]
      refine s_product h1.1.1 hE.i10 ix8 ix8 xne xne w1 w1 (by rw [h1.r10]; omega) (fun P f2 w2 => ?_)
      have h2 := h1.fr hE f2 (all1 hE.s10)
      rw [h2.f 10]
      refine s_order h2.1.1 hE.i10 (hE.r8 hj) w2 (h2.w hj) ?_
      rw [cmp_eq0]
      refine ⟨fun q => ?_, fun q => ?_⟩
      · rw [if_neg q] at hQ
        exact hQ P h2
      · rw [if_pos q] at hQ
        exact hQ P h2
  · rw [if_neg z] at hQ
    exact hQ M h
def oJac (n : Nat) (s : ST) (a m : Int32) : ST × Int32 := if isR n a ∧ isR n m then (if ¬ 0 < s.1 (ix m) ∨ (s.1 (ix m)).natAbs % 2 ≠ 1 then (s, 2) else (s, JS (modN (s.1 (ix a)).natAbs (decide (s.1 (ix a) < 0)) (s.1 (ix m)).natAbs) (s.1 (ix m)).natAbs 1)) else (s, 3)
theorem m_jac {G : SH} {M0 M : MS} {E : EV} {s : ST} {a m : Int32} (hE : SE G E) (h : MI G M0 M E s) {Q : Int32 → MS → Prop} (hQ : ∀ N, MI G M0 N E (oJac (en E) s a m).1 → Q (oJac (en E) s a m).2 N) : w_X10_jacobi G (eA E 0) a m M Q := by
  unfold w_X10_jacobi
  have hn := hE.n31
  unfold oJac at hQ
  refine m_are2 hE h (fun i j hi hj ei ej => ⟨fun _ => ⟨by rw [ej]; exact h.vp hE hj, ?_⟩, fun z => absurd z (by decide)⟩) (fun z => ⟨fun z2 => absurd rfl z2, fun _ => ?_⟩)
  · subst ei ej
    rw [if_pos ⟨isR_nI hn hi, isR_nI hn hj⟩, ix_nI (by omega), ix_nI (by omega)] at hQ
    rw [cl (by omega), cl (by omega), h.rg hj]
    have ni := h.nl hi
    have nj := h.nl hj
    have hw1 := hE.1.2.2.1
    have hw40 := hE.1.2.2.2
    refine s_isAboveZero h.1.1 (hE.r8 hj) (h.w hj) ?_
    by_cases hpos : 0 < s.1 j
    · rw [az_yes hpos]
      refine ⟨fun z => absurd z (by decide), fun _ => ?_⟩
      refine s_isOdd h.1.1 (hE.r8 hj) (h.w hj) ?_
      by_cases ho : (s.1 j).natAbs % 2 = 1
      · rw [if_neg (fun q => by rcases q with q | q; exact q hpos; exact q ho)] at hQ
        rw [if_pos ho]
        refine ⟨fun _ => ⟨h.vp hE hi, ?_⟩, fun z => absurd z (by decide)⟩
        rw [h.rg hi, h.f 6]
        have wj := h.w hj
        rw [decide_eq_false (show ¬ s.1 j < 0 by omega)] at wj
        obtain ⟨u, v, w, hR6, hm6, hnd6⟩ := h.2.2.1 6 (by decide) (by decide)
        refine s_symbol (c := ew E) (rm := 2 * ew E + 2) (hE.X8 (c := 6) (by decide) (by decide)) h.1.1 (hE.o8 (by decide)) (hE.ne (by decide) (by decide) (by decide)) hR6 hm6 hnd6 (h.rX (by decide) (by decide)) (hE.r8 hi) (hE.r8 hj) (hE.rX hi (by decide) (by decide)) (hE.rX hj (by decide) (by decide)) (h.w hi) wj (by omega) ni nj (by omega) (by omega) (fun N u' v' w' f1 hR' hm' hnd' => ?_)
        have h1 := h.scr hE f1 (hE.Xs (by decide) (by decide)) (all1 ⟨6, by decide, by decide, rfl, u', v', w', hR', hm', hnd'⟩)
        exact hQ N h1
      · rw [if_pos (Or.inr ho)] at hQ
        rw [if_neg ho]
        exact ⟨fun z => absurd rfl z, fun _ => hQ M h⟩
    · rw [if_pos (Or.inl hpos)] at hQ
      rw [az_no hpos]
      exact ⟨fun _ => hQ M h, fun z => absurd rfl z⟩
  · rw [if_neg z] at hQ
    exact hQ M h
