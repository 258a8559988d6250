/-! divide, shift, compare -/
theorem MI.one {G : SH} {M0 M : MS} {E : EV} {s : ST} (h : MI G M0 M E s) : Wh G M (eA E 12) 1 false := h.1.2.2.2.2.2.2.1.1
theorem MI.on {G : SH} {M0 M : MS} {E : EV} {s : ST} (h : MI G M0 M E s) : Wh G M (eA E 14) 1 false := h.1.2.2.2.2.2.2.1.2
/-- the quotient's size -/
def DQ (x y : Int) : Nat := x.natAbs / y.natAbs + (if x < 0 ∧ x.natAbs % y.natAbs ≠ 0 then 1 else 0)
def oDiv (n w : Nat) (s : ST) (q m a b : Int32) : ST × Int32 :=
  if (isR n q ∧ isR n m) ∧ (isR n a ∧ isR n b) ∧ q ≠ m then
    (if s.1 (ix b) = 0 then (s, 2)
     else if nl BB (DQ (s.1 (ix a)) (s.1 (ix b))) ≤ w then (setR (setR s (ix q) (sg (DQ (s.1 (ix a)) (s.1 (ix b))) (decide (s.1 (ix a) < 0) != decide (s.1 (ix b) < 0)))) (ix m) (modN (s.1 (ix a)).natAbs (decide (s.1 (ix a) < 0)) (s.1 (ix b)).natAbs : Nat), 0) else (s, 1))
  else (s, 3)
theorem m_div_end {G : SH} {M0 M : MS} {E : EV} {s : ST} {q m i j D R : Nat} {b : Bool} {c : Int32} (hE : SE G E) (h : MI G M0 M E s) (hq : q < en E) (hm : m < en E) (hc : c = if b then 1 else 0) (w1 : Wh G M (eA E 10) D false) (w2 : Wh G M (eA E 11) R false) (hR : nl BB R ≤ ew E) {Q : Int32 → MS → Prop}
    (hQ : ∀ N, MI G M0 N E (if nl BB D ≤ ew E then (setR (setR s q (sg D b)) m (R : Int), (0 : Int32)) else (s, 1)).1 → Q (if nl BB D ≤ ew E then (setR (setR s q (sg D b)) m (R : Int), (0 : Int32)) else (s, 1)).2 N) : w_X10_divide_140 G Q (eA E 0) (nI q) (nI m) c (eA E 10) M := by
  unfold w_X10_divide_140
  have hO := h.1.1
  have hn := hE.n31
  have hw40 := hE.1.2.2.2
  refine s_takeSign hO hE.i10 w1 hc (fun M12 f12 w12 => ?_)
  have h12 := h.fr hE f12 (all1 hE.s10)
  have w2' := f12.wh hO hE.i11 (ni1 (tne hE.t11 hE.t10)) w2
  have hO12 := h12.1.1
  have hD := w12.1
  rw [h12.r10] at hD
  rw [h12.f 10, h12.f 11, w12.2.1, w2'.2.1, h12.1.2.2.1, nI_ltI (by omega) (by omega), nI_leI (by omega) (by omega), cl (by omega), h12.rg hq]
  refine ⟨fun z => ?_, fun z => ⟨fun _ => ⟨h12.vp hE hq, ?_⟩, fun z2 => absurd hR z2⟩⟩
  · rw [if_neg (by omega)] at hQ
    exact hQ M12 h12
  · rw [if_pos (by omega)] at hQ
    refine s_copy hO12 (hE.r8 hq) hE.i10 w12 (by rw [h12.1.2.2.2.2.1 q hq]; omega) (fun M18 f18 w18 => ?_)
    have h18 := h12.put hE hq f18 (w18.z rfl)
    have hO18 := h18.1.1
    refine ⟨h18.vp hE hm, ?_⟩
    rw [cl (by omega), h18.rg hm, h18.f 11]
    have w11 := f18.wh hO12 hE.i11 (ni1 (hE.ner hq hE.t11).symm) w2'
    refine s_copy hO18 (hE.r8 hm) hE.i11 w11 (by rw [h18.1.2.2.2.2.1 m hm]; omega) (fun M22 f22 w22 => ?_)
    exact hQ M22 (h18.put hE hm f22 w22.z0)
theorem m_div {G : SH} {M0 M : MS} {E : EV} {s : ST} {q m a b : Int32} (hE : SE G E) (h : MI G M0 M E s) {Q : Int32 → MS → Prop} (hQ : ∀ N, MI G M0 N E (oDiv (en E) (ew E) s q m a b).1 → Q (oDiv (en E) (ew E) s q m a b).2 N) : w_X10_divide G (eA E 0) q m a b M Q := by
  unfold w_X10_divide
  have hn := hE.n31
  unfold oDiv at hQ
  refine m_are2 hE h (fun i1 i2 h1 h2 e1 e2 => ⟨fun z => absurd z (by decide), fun _ => ?_⟩) (fun z => ⟨fun _ => ?_, fun z2 => absurd rfl z2⟩)
  · refine m_are2 hE h (fun i j hi hj ei ej => ⟨fun z => absurd z (by decide), fun _ => ⟨fun hne => ?_, fun he => ?_⟩⟩) (fun z => ⟨fun _ => ?_, fun z2 => absurd rfl z2⟩)
    · subst e1 e2 ei ej
      rw [if_pos ⟨⟨isR_nI hn h1, isR_nI hn h2⟩, ⟨isR_nI hn hi, isR_nI hn hj⟩, hne⟩, ix_nI (by omega), ix_nI (by omega), ix_nI (by omega), ix_nI (by omega)] at hQ
      refine ⟨h.vp hE hi, h.vp hE hj, ?_⟩
      have ni := h.nl hi
      have nj := h.nl hj
      have hw40 := hE.1.2.2.2
      rw [cl (by omega), cl (by omega), h.rg hi, h.rg hj, (h.w hj).2.1, nI_eq0 (by omega), nl_v0]
      refine ⟨fun z => ?_, fun z => ?_⟩
      · have hy : 0 < (s.1 j).natAbs := by omega
        rw [if_neg (by omega)] at hQ
        rw [h.f 2, h.f 10, h.f 11]
        have r13 := h.rX (c := 3) (by decide) (by decide)
        obtain ⟨u, v, w', -, m13, -⟩ := h.2.2.1 3 (by decide) (by decide)
        refine s_split h.1.1 hE.i10 hE.i11 hE.i13 (hE.r8 hi) (hE.r8 hj) h.1.2.2.2.2.2.2.2.1 (tne hE.t10 hE.t11) (tne hE.t13 hE.t10) (tne hE.t13 hE.t11) (hE.ner hi hE.t13).symm (hE.ner hj hE.t13).symm (hE.ner hi hE.t10) (hE.ner hi hE.t11) (hE.ner hj hE.t10) (hE.ner hj hE.t11) (h.w hi) (h.w hj) hy (by rw [h.r10]; omega) (by rw [h.r11]; omega) (by rw [r13 _ m13]; omega) (fun M10 f10 wq wr => ?_)
        have h10 := h.fr hE f10 (all3 hE.s10 hE.s11 hE.s13)
        have hO10 := h10.1.1
        have hR : nl BB (modN (s.1 i).natAbs (decide (s.1 i < 0)) (s.1 j).natAbs) ≤ ew E := Nat.le_trans (nl_mono BB1 (Nat.le_of_lt (modN_lt hy))) nj
        have tail : ∀ (M' : MS), MI G M0 M' E s → Wh G M' (eA E 10) (DQ (s.1 i) (s.1 j)) false → Wh G M' (eA E 11) (modN (s.1 i).natAbs (decide (s.1 i < 0)) (s.1 j).natAbs) false → w_X10_divide_118 G Q (eA E 0) (nI i1) (nI i2) (eR E i) (eR E j) M' := by
          intro M' h' wD wM
          unfold w_X10_divide_118
          rw [(h'.w hi).2.2.2, (h'.w hj).2.2.2, h'.f 10]
          have go : ∀ (c : Int32) (b : Bool), c = (if b then 1 else 0) → b = (decide (s.1 i < 0) != decide (s.1 j < 0)) → w_X10_divide_140 G Q (eA E 0) (nI i1) (nI i2) c (eA E 10) M' := by
            intro c b hc hb
            refine m_div_end (i := i) (j := j) hE h' h1 h2 hc wD wM hR ?_
            rw [hb]
            exact hQ
          generalize decide (s.1 i < 0) = p at *
          generalize decide (s.1 j < 0) = q at *
          refine ⟨fun z => go 0 false rfl ?_, fun z => go 1 true rfl ?_⟩
          · cases p <;> cases q <;> first | rfl | exact absurd z (by decide)
          · cases p <;> cases q <;> first | rfl | exact absurd rfl z
        have hrl := wr.1
        rw [h10.r11] at hrl
        have hql := wq.1
        rw [h10.r10] at hql
        rw [(h10.w hi).2.2.2, h10.f 11, wr.2.1, nI_le0 (by omega), nl_v0]
        by_cases c : s.1 i < 0
        · rw [decide_eq_true c]
          refine ⟨fun z => absurd z (by decide), fun _ => ⟨fun z2 => tail M10 h10 ?_ ?_, fun z2 => ?_⟩⟩
          · have e : DQ (s.1 i) (s.1 j) = (s.1 i).natAbs / (s.1 j).natAbs := by unfold DQ; rw [if_neg (fun q => q.2 z2)]; rfl
            rw [e]; exact wq
          · have e : modN (s.1 i).natAbs (decide (s.1 i < 0)) (s.1 j).natAbs = (s.1 i).natAbs % (s.1 j).natAbs := by unfold modN; rw [if_neg (fun q => q.2 z2)]
            rw [e]; exact wr
          · rw [h10.f 10, h10.f 12]
            have n1 : nl BB ((s.1 i).natAbs / (s.1 j).natAbs) ≤ ew E := Nat.le_trans (nl_mono BB1 (Nat.div_le_self _ _)) ni
            have o1 : nl BB 1 ≤ 1 := nl_le1.mpr (by decide)
            have hw1 := hE.1.2.2.1
            refine s_sum hO10 hE.i10 hE.i10 hE.i12 wq h10.one (by rw [h10.r10]; omega) (by rw [h10.r10]; omega) (fun M27 f27 w27 => ?_)
            have h27 := h10.fr hE f27 (all1 hE.s10)
            have wr27 := f27.wh hO10 hE.i11 (ni1 (tne hE.t11 hE.t10)) wr
            rw [h27.f 11]
            have hml := Nat.mod_lt (s.1 i).natAbs hy
            refine s_diff h27.1.1 hE.i11 (hE.r8 hj) hE.i11 (h27.w hj) wr27 (by omega) (by rw [h27.r11]; omega) (fun M30 f30 w30 => ?_)
            have h30 := h27.fr hE f30 (all1 hE.s11)
            refine tail M30 h30 ?_ ?_
            · have e : DQ (s.1 i) (s.1 j) = (s.1 i).natAbs / (s.1 j).natAbs + 1 := by unfold DQ; rw [if_pos ⟨c, z2⟩]
              rw [e]; exact f30.wh h27.1.1 hE.i10 (ni1 (tne hE.t10 hE.t11)) w27
            · have e : modN (s.1 i).natAbs (decide (s.1 i < 0)) (s.1 j).natAbs = (s.1 j).natAbs - (s.1 i).natAbs % (s.1 j).natAbs := by unfold modN; rw [if_pos ⟨decide_eq_true c, z2⟩]
              rw [e]; exact w30
        · rw [decide_eq_false c]
          refine ⟨fun _ => tail M10 h10 ?_ ?_, fun z => absurd rfl z⟩
          · have e : DQ (s.1 i) (s.1 j) = (s.1 i).natAbs / (s.1 j).natAbs := by unfold DQ; rw [if_neg (fun q => c q.1)]; rfl
            rw [e]; exact wq
          · have e : modN (s.1 i).natAbs (decide (s.1 i < 0)) (s.1 j).natAbs = (s.1 i).natAbs % (s.1 j).natAbs := by unfold modN; rw [decide_eq_false c]; rw [if_neg (fun q => absurd q.1 (by decide))]
            rw [e]; exact wr
      · rw [if_pos (by omega)] at hQ
        exact hQ M h
    · rw [if_neg (fun q => q.2.2 he)] at hQ
      exact hQ M h
    · rw [if_neg (fun q => z q.2.1)] at hQ
      exact hQ M h
  · rw [if_neg (fun q => z q.1)] at hQ
    exact hQ M h
def oCmp (n : Nat) (s : ST) (a b : Int32) : ST × Int32 := if isR n a ∧ isR n b then (s, if s.1 (ix a) < s.1 (ix b) then -1 else if s.1 (ix a) = s.1 (ix b) then 0 else 1) else (s, 3)
theorem m_cmp {G : SH} {M0 M : MS} {E : EV} {s : ST} {a b : Int32} (hE : SE G E) (h : MI G M0 M E s) {Q : Int32 → MS → Prop} (hQ : ∀ N, MI G M0 N E (oCmp (en E) s a b).1 → Q (oCmp (en E) s a b).2 N) : w_X10_compare G (eA E 0) a b M Q := by
  unfold w_X10_compare
  have hn := hE.n31
  unfold oCmp at hQ
  refine m_are2 hE h (fun i j hi hj ei ej => ⟨fun _ => ⟨by rw [ei]; exact h.vp hE hi, by rw [ej]; exact h.vp hE hj, ?_⟩, fun z => absurd z (by decide)⟩) (fun z => ⟨fun z2 => absurd rfl z2, fun _ => ?_⟩)
  · subst ei ej
    rw [if_pos ⟨isR_nI hn hi, isR_nI hn hj⟩, ix_nI (by omega), ix_nI (by omega)] at hQ
    have hQ2 := hQ M h
    have wi := h.w hi
    have wj := h.w hj
    rw [cl (by omega), cl (by omega), h.rg hi, h.rg hj, wi.2.2.2, wj.2.2.2]
    generalize s.1 i = x at *
    generalize s.1 j = y at *
    have same : decide (x < 0) = decide (y < 0) → w_X7_order G (eR E i) (eR E j) M (fun (r6 : Int32) (M6 : MS) => (((mI M6 (eR E i) 2) = 0 → Q r6 M6) ∧ (¬ (mI M6 (eR E i) 2) = 0 → Q (-r6) M6))) := by
      intro hs
      refine s_order h.1.1 (hE.r8 hi) (hE.r8 hj) wi wj ?_
      rw [wi.2.2.2]
      by_cases cx : x < 0
      · have cy : y < 0 := by rw [decide_eq_true cx] at hs; exact of_decide_eq_true hs.symm
        rw [decide_eq_true cx]
        refine ⟨fun z => absurd z (by decide), fun _ => ?_⟩
        have e : -(cmpN x.natAbs y.natAbs) = (if x < y then -1 else if x = y then 0 else 1 : Int32) := by
          unfold cmpN
          by_cases c1 : y.natAbs < x.natAbs
          · rw [if_pos c1, if_pos (by omega)]
          · rw [if_neg c1]
            by_cases c2 : x.natAbs = y.natAbs
            · rw [if_pos c2, if_neg (by omega), if_pos (by omega)]; decide
            · rw [if_neg c2, if_neg (by omega), if_neg (by omega)]; decide
        rw [e]
        exact hQ2
      · have cy : ¬ y < 0 := by rw [decide_eq_false cx] at hs; exact of_decide_eq_false hs.symm
        rw [decide_eq_false cx]
        refine ⟨fun _ => ?_, fun z => absurd rfl z⟩
        have e : cmpN x.natAbs y.natAbs = (if x < y then -1 else if x = y then 0 else 1 : Int32) := by
          unfold cmpN
          by_cases c1 : y.natAbs < x.natAbs
          · rw [if_pos c1, if_neg (by omega), if_neg (by omega)]
          · rw [if_neg c1]
            by_cases c2 : x.natAbs = y.natAbs
            · rw [if_pos c2, if_neg (by omega), if_pos (by omega)]
            · rw [if_neg c2, if_pos (by omega)]
        rw [e]
        exact hQ2
    refine ⟨fun z => same ?_, fun z => ⟨fun z2 => ?_, fun z2 => ?_⟩⟩
    · generalize decide (x < 0) = p at *
      generalize decide (y < 0) = q at *
      cases p <;> cases q <;> first | rfl | exact absurd z (by decide)
    · have cx : ¬ x < 0 := fun c => by rw [decide_eq_true c] at z2; exact absurd z2 (by decide)
      have cy : y < 0 := by
        rcases Int.lt_or_le y 0 with c | c
        · exact c
        · refine absurd ?_ z
          rw [decide_eq_false cx, decide_eq_false (by omega)]
      rw [if_neg (by omega), if_neg (by omega)] at hQ2
      exact hQ2
    · have cx : x < 0 := by
        rcases Int.lt_or_le x 0 with c | c
        · exact c
        · refine absurd ?_ z2
          rw [decide_eq_false (by omega)]
          rfl
      have cy : ¬ y < 0 := fun c => z (by rw [decide_eq_true cx, decide_eq_true c])
      rw [if_pos (by omega)] at hQ2
      exact hQ2
  · rw [if_neg z] at hQ
    exact hQ M h
/-! shift -/
theorem tz_dvd {v e : Nat} (hv : 0 < v) : e ≤ tz v ↔ v % 2 ^ e = 0 := by
  obtain ⟨w, hw, ho⟩ := tz_spec v hv
  constructor
  · intro h
    obtain ⟨k, hk⟩ : ∃ k, tz v = e + k := ⟨tz v - e, by omega⟩
    rw [hw, hk, Nat.pow_add, Nat.mul_assoc]
    exact Nat.mul_mod_right _ _
  · intro h
    rcases Nat.lt_or_ge (tz v) e with q | q
    · obtain ⟨k, hk⟩ : ∃ k, e = tz v + (k + 1) := ⟨e - tz v - 1, by omega⟩
      rw [hk, Nat.pow_add, Nat.mod_mul] at h
      have h1 : v % 2 ^ tz v = 0 := by
        conv => lhs; lhs; rw [hw]
        exact Nat.mul_mod_right _ _
      have h2 : v / 2 ^ tz v = w := by
        conv => lhs; lhs; rw [hw]
        exact Nat.mul_div_cancel_left _ (Nat.pow_pos (by decide))
      rw [h1, h2, Nat.zero_add] at h
      have h3 : w % 2 ^ (k + 1) = 0 := by
        rcases Nat.mul_eq_zero.mp h with z | z
        · have : 0 < 2 ^ tz v := Nat.pow_pos (by decide)
          omega
        · exact z
      rw [Nat.pow_succ, Nat.mul_comm, Nat.mod_mul] at h3
      omega
    · exact q
/-- v DIV 2^e -/
def HV (v : Int) (e : Nat) : Int := sg (v.natAbs / 2 ^ e + (if v < 0 ∧ v.natAbs % 2 ^ e ≠ 0 then 1 else 0)) (decide (v < 0))
def oShift (n w : Nat) (s : ST) (d a k : Int32) : ST × Int32 :=
  if isR n d ∧ isR n a then
    (if k < 0 then oPut w s (ix d) (HV (s.1 (ix a)) (-k.toInt).toNat)
     else if s.1 (ix a) = 0 then (setR s (ix d) 0, 0)
     else if 32 * w < nl 2 (s.1 (ix a)).natAbs + ix k then (s, 1) else oPut w s (ix d) (s.1 (ix a) * (2 ^ ix k : Nat)))
  else (s, 3)
theorem neg_l {k : Int32} (h : k < 0) : -k.toInt64 = lN (-k.toInt).toNat ∧ (-k.toInt).toNat ≤ 2147483648 := by
  rw [Int32.lt_iff_toInt_lt] at h
  have e0 : (0 : Int32).toInt = 0 := rfl
  rw [e0] at h
  have lo := Int32.le_toInt k
  have e : k.toInt64 = lZ k.toInt := by
    apply Int64.toInt_inj.mp
    rw [Int32.toInt_toInt64, lZ_toInt (by omega) (by omega)]
  refine ⟨?_, by omega⟩
  rw [e, lN_lZ]
  show -(Int64.ofInt k.toInt) = Int64.ofInt _
  rw [← Int64.ofInt_neg]
  congr 1
  omega
theorem m_halve {G : SH} {M0 M : MS} {E : EV} {s : ST} {j e : Nat} {x : Int64} (hE : SE G E) (h : MI G M0 M E s) (hj : j < en E) (hx : x = lN e) (he : e ≤ 2147483648) {Q : MS → Prop} (hQ : ∀ N, MI G M0 N E s → Wh G N (eA E 10) (HV (s.1 j) e).natAbs (decide (HV (s.1 j) e < 0)) → Q N) : w_X10_halve G (eA E 0) (eR E j) x M Q := by
  unfold w_X10_halve
  have hO := h.1.1
  have nj := h.nl hj
  have n2 := nl2_le nj
  have hw40 := hE.1.2.2.2
  have hw1 := hE.1.2.2.1
  have wj := h.w hj
  refine s_bits hO (hE.r8 hj) wj ?_
  rw [hx, nI_l (by omega), pk_lLE (by omega) (by omega), lN_i]
  -- what is left when n bits are dropped
  have body : ∀ (dr : Nat) (c : Int32), dr < 1000000 → (s.1 j).natAbs / 2 ^ dr = (s.1 j).natAbs / 2 ^ e → (c = 0 ↔ (s.1 j).natAbs % 2 ^ e = 0) → w_X10_halve_45 G Q (eA E 0) (eR E j) (nI dr) c M := by
    intro dr c hdr hd hc
    unfold w_X10_halve_45
    rw [h.f 10]
    refine s_shiftDown hO hE.i10 (hE.r8 hj) wj rfl hdr (by rw [h.r10]; omega) (fun M3 f3 w3 => ?_)
    have h3 := h.fr hE f3 (all1 hE.s10)
    have hO3 := h3.1.1
    rw [(h3.w hj).2.2.2, h3.f 10]
    rw [hd] at w3
    have fin : ∀ (M' : MS) (D : Nat), MI G M0 M' E s → Wh G M' (eA E 10) D false → HV (s.1 j) e = sg D (decide (s.1 j < 0)) → w_X9_takeSign G (eA E 10) (if decide (s.1 j < 0) then 1 else 0) M' (fun (M5 : MS) => Q M5) := by
      intro M' D h' wD eD
      refine s_takeSign h'.1.1 hE.i10 wD rfl (fun M5 f5 w5 => ?_)
      exact hQ M5 (h'.fr hE f5 (all1 hE.s10)) (w5.z eD)
    by_cases cn : s.1 j < 0
    · rw [decide_eq_true cn] at fin ⊢
      refine ⟨fun z => absurd z (by decide), fun _ => ⟨fun z => fin M3 _ h3 w3 ?_, fun z => ?_⟩⟩
      · unfold HV
        rw [decide_eq_true cn, if_neg (fun q => q.2 (hc.mp z)), Nat.add_zero]
      · rw [h3.f 12]
        have n4 : nl BB ((s.1 j).natAbs / 2 ^ e) ≤ ew E := Nat.le_trans (nl_mono BB1 (Nat.div_le_self _ _)) nj
        have o1 : nl BB 1 ≤ 1 := nl_le1.mpr (by decide)
        refine s_sum hO3 hE.i10 hE.i10 hE.i12 w3 h3.one (by rw [h3.r10]; omega) (by rw [h3.r10]; omega) (fun M11 f11 w11 => ?_)
        have h11 := h3.fr hE f11 (all1 hE.s10)
        have w2 := (h11.w hj).2.2.2
        rw [decide_eq_true cn] at w2
        rw [w2, h11.f 10]
        refine fin M11 _ h11 w11 ?_
        unfold HV
        rw [decide_eq_true cn, if_pos ⟨cn, fun q => z (hc.mpr q)⟩]
    · rw [decide_eq_false cn] at fin ⊢
      refine ⟨fun _ => fin M3 _ h3 w3 ?_, fun z => absurd rfl z⟩
      unfold HV
      rw [decide_eq_false cn, if_neg (fun q => cn q.1), Nat.add_zero]
  have mid : ∀ (dr : Nat), dr < 1000000 → (s.1 j).natAbs / 2 ^ dr = (s.1 j).natAbs / 2 ^ e → w_X10_halve_21 G Q (eA E 0) (eR E j) (lN e) (nI dr) M := by
    intro dr hdr hd
    unfold w_X10_halve_21 w_X10_halve_44
    rw [wj.2.1, nI_le0 (by omega), nl_v0]
    refine ⟨fun z => body dr 0 hdr hd ⟨fun _ => by rw [z, Nat.zero_mod], fun _ => rfl⟩, fun z => ?_⟩
    refine s_lowZeros hO (hE.r8 hj) wj ?_
    have ht := tz_lt nj
    have hd2 := tz_dvd (v := (s.1 j).natAbs) (e := e) (by omega)
    rw [nI_l (by omega), pk_lLE (by omega) (by omega), hd2]
    exact ⟨fun z2 => body dr 0 hdr hd ⟨fun _ => z2, fun _ => rfl⟩, fun z2 => body dr 1 hdr hd ⟨fun q => absurd q (by decide), fun q => absurd q z2⟩⟩
  refine ⟨fun z => mid e (by omega) rfl, fun z => mid _ (by omega) ?_⟩
  have b1 := (nl_le (B := 2) (by decide) (nl 2 (s.1 j).natAbs) (s.1 j).natAbs).mp (Nat.le_refl _)
  have b2 : 2 ^ nl 2 (s.1 j).natAbs ≤ 2 ^ e := Nat.pow_le_pow_right (by decide) (by omega)
  rw [Nat.div_eq_of_lt b1, Nat.div_eq_of_lt (Nat.lt_of_lt_of_le b1 b2)]
theorem m_shift {G : SH} {M0 M : MS} {E : EV} {s : ST} {d a k : Int32} (hE : SE G E) (h : MI G M0 M E s) {Q : Int32 → MS → Prop} (hQ : ∀ N, MI G M0 N E (oShift (en E) (ew E) s d a k).1 → Q (oShift (en E) (ew E) s d a k).2 N) : w_X10_shift G (eA E 0) d a k M Q := by
  unfold w_X10_shift
  have hn := hE.n31
  unfold oShift at hQ
  refine m_are2 hE h (fun i j hi hj ei ej => ⟨fun _ => ⟨by rw [ej]; exact h.vp hE hj, ?_⟩, fun z => absurd z (by decide)⟩) (fun z => ⟨fun z2 => absurd rfl z2, fun _ => ?_⟩)
  · subst ei ej
    rw [if_pos ⟨isR_nI hn hi, isR_nI hn hj⟩, ix_nI (by omega), ix_nI (by omega)] at hQ
    rw [cl (by omega), h.rg hj]
    have wj := h.w hj
    have nj := h.nl hj
    have n2 := nl2_le nj
    have hw40 := hE.1.2.2.2
    refine ⟨fun z => ?_, fun z => ?_⟩
    · have zk : ¬ k < 0 := by
        rw [Int32.lt_iff_toInt_lt]
        rw [Int32.le_iff_toInt_le] at z
        omega
      obtain ⟨e, he, rfl⟩ := nI_of zk
      rw [if_neg zk, ix_nI he] at hQ
      rw [wj.2.1, nI_le0 (by omega), nl_v0]
      have go : ∀ (c : Nat), c < 2147483648 → nl BB (s.1 j).natAbs + c / 32 ≤ 2 * ew E + 1 → (∀ N, MI G M0 N E (oPut (ew E) s i (s.1 j * (2 ^ c : Nat))).1 → Q (oPut (ew E) s i (s.1 j * (2 ^ c : Nat))).2 N) → w_X10_shift_93 G Q (eA E 0) (nI i) (eR E j) (nI c) (eR E j) (mR M (eA E 0) 10) M := by
        intro c hc hr hQ3
        unfold w_X10_shift_93
        rw [h.f 10]
        refine s_shiftUp h.1.1 hE.i10 (hE.r8 hj) wj rfl hc (by rw [h.r10]; omega) (fun M5 f5 _ w5 => ?_)
        have h5 := h.fr hE f5 (all1 hE.s10)
        rw [h5.f 10, (h5.w hj).2.2.2]
        refine s_takeSign h5.1.1 hE.i10 w5 rfl (fun M7 f7 w7 => ?_)
        have h7 := h5.fr hE f7 (all1 hE.s10)
        rw [h7.f 10]
        refine m_put hE h7 hi rfl hE.i10 (w7.z ?_) hQ3
        have := sg_mul (s.1 j) ((2 ^ c : Nat) : Int) (decide (s.1 j < 0)) (by
          have : decide (((2 ^ c : Nat) : Int) < 0) = false := decide_eq_false (Int.not_lt.mpr (Int.natCast_nonneg _))
          rw [this]
          cases decide (s.1 j < 0) <;> rfl)
        rw [Int.natAbs_natCast] at this
        exact this
      refine ⟨fun z0 => ?_, fun z0 => ?_⟩
      · unfold w_X10_shift_74
        have e0 : s.1 j = 0 := by omega
        rw [if_pos e0] at hQ
        rw [wj.2.1, nI_le0 (by omega), nl_v0]
        refine ⟨fun _ => ?_, fun q => absurd z0 q⟩
        rw [← nI_0]
        refine go 0 (by decide) (by omega) ?_
        have e1 : oPut (ew E) s i (s.1 j * (2 ^ 0 : Nat)) = (setR s i 0, 0) := by
          unfold oPut
          rw [e0, Int.zero_mul, Int.natAbs_zero, nl_0, if_pos (Nat.zero_le _)]
        rw [e1]
        exact hQ
      · rw [if_neg (by omega)] at hQ
        refine s_bits h.1.1 (hE.r8 hj) wj ?_
        rw [h.1.2.2.1, nI_l (by omega), nI_l (by omega), nI_l (by omega), lN_add, show (32 : Int64) = lN 32 from rfl, lN_mul, pk_lLE (by omega) (by omega)]
        refine ⟨fun q => ?_, fun q => ?_⟩
        · rw [if_neg (by omega)] at hQ
          unfold w_X10_shift_74
          rw [wj.2.1, nI_le0 (by omega), nl_v0]
          exact ⟨fun q2 => absurd q2 z0, fun _ => go e he (by omega) hQ⟩
        · rw [if_pos (by omega)] at hQ
          exact hQ M h
    · have zk : k < 0 := by
        rw [Int32.lt_iff_toInt_lt]
        rw [Int32.le_iff_toInt_le] at z
        omega
      rw [if_pos zk] at hQ
      have ne := neg_l zk
      refine m_halve hE h hj ne.1 ne.2 (fun M11 h11 w11 => ?_)
      rw [h11.f 10]
      exact m_put hE h11 hi rfl hE.i10 w11 hQ
  · rw [if_neg z] at hQ
    exact hQ M h
