/-! THE CALLS, as the mill answers them -/
abbrev isR (n : Nat) (d : Int32) : Prop := ¬ d < 0 ∧ ¬ nI n ≤ d
abbrev ix (d : Int32) : Nat := d.toNatClampNeg
theorem isR_of {n : Nat} {d : Int32} (hn : n < 2147483648) (h : isR n d) : ∃ k, k < n ∧ d = nI k := by
  rcases pk_ix d hn with q | q | q
  · exact absurd q h.1
  · exact absurd q h.2
  · exact q
theorem isR_nI {n k : Nat} (hn : n < 2147483648) (h : k < n) : isR n (nI k) := ⟨nI_lt0 (by omega), by rw [nI_leI hn (by omega)]; omega⟩
theorem ix_nI {k : Nat} (h : k < 2147483648) : ix (nI k) = k := cl h
theorem sg_v (v : Int) : sg v.natAbs (decide (v < 0)) = v := by
  unfold sg
  by_cases c : v < 0
  · rw [decide_eq_true c, if_pos rfl]; omega
  · rw [decide_eq_false c, if_neg (by decide)]; omega
theorem sg_abs (n : Nat) (b : Bool) : (sg n b).natAbs = n := by
  unfold sg
  cases b <;> simp
theorem sg_neg (n : Nat) (b : Bool) : decide (sg n b < 0) = (b && decide (0 < n)) := by
  unfold sg
  cases b <;> simp <;> omega
theorem Wh.z {G : SH} {M : MS} {x n : Nat} {b : Bool} (h : Wh G M x n (b && decide (0 < n))) {z : Int} (hz : z = sg n b) : Wh G M x z.natAbs (decide (z < 0)) := by
  rw [hz, sg_abs, sg_neg]; exact h
theorem Wh.z0 {G : SH} {M : MS} {x n : Nat} (h : Wh G M x n false) : Wh G M x ((n : Int)).natAbs (decide ((n : Int) < 0)) := by
  have e : decide ((n : Int) < 0) = false := by simp
  rw [e, Int.natAbs_natCast]; exact h
theorem MI.rg {G : SH} {M0 M : MS} {E : EV} {s : ST} (h : MI G M0 M E s) {i : Nat} (hi : i < en E) : mR M (mR M (eA E 0) 1) i = eR E i := by rw [h.1.2.1 1 (by decide) (by decide)]; exact h.1.2.2.2.1 i hi
theorem MI.f {G : SH} {M0 M : MS} {E : EV} {s : ST} (h : MI G M0 M E s) (k : Nat) (h1 : 1 ≤ k := by decide) (h2 : k ≤ 12 := by decide) : mR M (eA E 0) k = eA E k := h.1.2.1 k h1 h2
theorem MI.len {G : SH} {M0 M : MS} {E : EV} {s : ST} (hE : SE G E) (h : MI G M0 M E s) : G.2.2.1 (mR M (eA E 0) 1) = en E := by rw [h.f 1]; exact hE.2.2.2.2.2.1.1
theorem MI.vp {G : SH} {M0 M : MS} {E : EV} {s : ST} (hE : SE G E) (h : MI G M0 M E s) {i : Nat} (hi : i < en E) : vp_in (nI i) (G.2.2.1 (mR M (eA E 0) 1)) := by
  rw [h.len hE]
  have := hE.1.2.1
  exact vp_in_nI hi (by omega)
theorem MI.w {G : SH} {M0 M : MS} {E : EV} {s : ST} (h : MI G M0 M E s) {i : Nat} (hi : i < en E) : Wh G M (eR E i) (s.1 i).natAbs (decide (s.1 i < 0)) := h.2.1 i hi
theorem MI.nl {G : SH} {M0 M : MS} {E : EV} {s : ST} (h : MI G M0 M E s) {i : Nat} (hi : i < en E) : nl BB (s.1 i).natAbs ≤ ew E := by
  have := (h.2.1 i hi).1
  rw [h.1.2.2.2.2.1 i hi] at this
  exact this
theorem SE.r8 {G : SH} {E : EV} (hE : SE G E) {i : Nat} (hi : i < en E) : Is G 8 (eR E i) := hE.2.2.1.1 i hi
theorem SE.n31 {G : SH} {E : EV} (hE : SE G E) : en E < 2147483648 := by have := hE.1.2.1; omega
/-- a row by its tag is no register -/
theorem SE.ner {G : SH} {E : EV} (hE : SE G E) {i y t : Nat} (hi : i < en E) (hy : eT E y = t) (ht : t ≠ 100 := by decide) : eR E i ≠ y := fun e => by
  have := hE.2.2.2.2.1.1 i hi
  rw [e, hy] at this
  exact ht this
theorem SE.rX {G : SH} {E : EV} (hE : SE G E) {i c : Nat} (hi : i < en E) (h3 : 3 ≤ c) (h7 : c ≤ 7) : eR E i ∉ eX E c := fun z => (hE.sX h3 h7 z).1 (hE.2.2.2.2.1.1 i hi)
theorem SE.i10 {G : SH} {E : EV} (hE : SE G E) : Is G 8 (eA E 10) := hE.2.2.1.2.1.1
theorem SE.i11 {G : SH} {E : EV} (hE : SE G E) : Is G 8 (eA E 11) := hE.2.2.1.2.1.2.1
theorem SE.i12 {G : SH} {E : EV} (hE : SE G E) : Is G 8 (eA E 12) := hE.2.2.1.2.1.2.2.1
theorem SE.i13 {G : SH} {E : EV} (hE : SE G E) : Is G 8 (eA E 13) := hE.2.2.1.2.1.2.2.2.1
theorem SE.i14 {G : SH} {E : EV} (hE : SE G E) : Is G 8 (eA E 14) := hE.2.2.1.2.1.2.2.2.2.1
theorem SE.i17 {G : SH} {E : EV} (hE : SE G E) : Is G 8 (eA E 17) := hE.2.2.1.2.1.2.2.2.2.2
theorem SE.t10 {G : SH} {E : EV} (hE : SE G E) : eT E (eA E 10) = 10 := hE.2.2.2.2.1.2.1.1
theorem SE.t11 {G : SH} {E : EV} (hE : SE G E) : eT E (eA E 11) = 11 := hE.2.2.2.2.1.2.1.2.1
theorem SE.t12 {G : SH} {E : EV} (hE : SE G E) : eT E (eA E 12) = 12 := hE.2.2.2.2.1.2.1.2.2.1
theorem SE.t13 {G : SH} {E : EV} (hE : SE G E) : eT E (eA E 13) = 13 := hE.2.2.2.2.1.2.1.2.2.2.1
theorem SE.t14 {G : SH} {E : EV} (hE : SE G E) : eT E (eA E 14) = 14 := hE.2.2.2.2.1.2.1.2.2.2.2.1
theorem SE.t17 {G : SH} {E : EV} (hE : SE G E) : eT E (eA E 17) = 17 := hE.2.2.2.2.1.2.1.2.2.2.2.2
theorem tne {E : EV} {x y a b : Nat} (hx : eT E x = a) (hy : eT E y = b) (h : a ≠ b := by decide) : x ≠ y := fun e => h (by rw [← hx, ← hy, e])
theorem SE.s10 {G : SH} {E : EV} (hE : SE G E) : sct E (eA E 10) := by have := hE.t10; unfold sct; omega
theorem SE.s11 {G : SH} {E : EV} (hE : SE G E) : sct E (eA E 11) := by have := hE.t11; unfold sct; omega
theorem SE.s13 {G : SH} {E : EV} (hE : SE G E) : sct E (eA E 13) := by have := hE.t13; unfold sct; omega
theorem SE.xX {G : SH} {E : EV} (hE : SE G E) {c y t : Nat} (hy : eT E y = t) (h3 : 3 ≤ c) (h7 : c ≤ 7) (h : t ≠ c) (h13 : t ≠ 13 := by decide) : y ∉ eX E c := fun z => by
  rcases hE.2.2.2.2.1.2.2 c y h3 h7 z with e | e
  · rw [e, hE.t13] at hy
    exact h13 hy.symm
  · rw [hy] at e
    exact h e
theorem MI.r10 {G : SH} {M0 M : MS} {E : EV} {s : ST} (h : MI G M0 M E s) : rmw G M (eA E 10) = 2 * ew E + 2 := h.1.2.2.2.2.2.1.2.1
theorem MI.r11 {G : SH} {M0 M : MS} {E : EV} {s : ST} (h : MI G M0 M E s) : rmw G M (eA E 11) = 2 * ew E + 2 := h.1.2.2.2.2.2.1.2.2.1
theorem MI.rX {G : SH} {M0 M : MS} {E : EV} {s : ST} (h : MI G M0 M E s) {c : Nat} (h3 : 3 ≤ c) (h7 : c ≤ 7) : ∀ y ∈ eX E c, rmw G M y = 2 * ew E + 2 := fun y hy => h.1.2.2.2.2.2.1.1 c y h3 h7 hy
theorem m_isR {G : SH} {M0 M : MS} {E : EV} {s : ST} {d : Int32} (hE : SE G E) (h : MI G M0 M E s) {Q : Int32 → MS → Prop} (h1 : ∀ i, i < en E → d = nI i → Q 1 M) (h0 : ¬ isR (en E) d → Q 0 M) : w_X10_isRegister G (eA E 0) d M Q := by
  unfold w_X10_isRegister
  rw [h.len hE]
  refine ⟨fun z => h0 (fun q => q.1 z), fun z => ⟨fun z2 => h0 (fun q => q.2 z2), fun z2 => ?_⟩⟩
  obtain ⟨k, hk, e⟩ := isR_of hE.n31 ⟨z, z2⟩
  exact h1 k hk e
theorem m_are2 {G : SH} {M0 M : MS} {E : EV} {s : ST} {a b : Int32} (hE : SE G E) (h : MI G M0 M E s) {Q : Int32 → MS → Prop} (h1 : ∀ i j, i < en E → j < en E → a = nI i → b = nI j → Q 1 M) (h0 : ¬ (isR (en E) a ∧ isR (en E) b) → Q 0 M) : w_X10_areRegisters G (eA E 0) a b M Q := by
  unfold w_X10_areRegisters
  refine m_isR hE h (fun i hi ei => ⟨fun z => absurd z (by decide), fun _ => ?_⟩) (fun z => ⟨fun _ => h0 (fun q => z q.1), fun z2 => absurd rfl z2⟩)
  refine m_isR hE h (fun j hj ej => ⟨fun z => absurd z (by decide), fun _ => h1 i j hi hj ei ej⟩) (fun z => ⟨fun _ => h0 (fun q => z q.2), fun z2 => absurd rfl z2⟩)
theorem m_are3 {G : SH} {M0 M : MS} {E : EV} {s : ST} {a b c : Int32} (hE : SE G E) (h : MI G M0 M E s) {Q : Int32 → MS → Prop} (h1 : ∀ i j k, i < en E → j < en E → k < en E → a = nI i → b = nI j → c = nI k → Q 1 M) (h0 : ¬ (isR (en E) a ∧ isR (en E) b ∧ isR (en E) c) → Q 0 M) : w_X10_areRegisters_ G (eA E 0) a b c M Q := by
  unfold w_X10_areRegisters_
  refine m_isR hE h (fun i hi ei => ⟨fun z => absurd z (by decide), fun _ => ?_⟩) (fun z => ⟨fun _ => h0 (fun q => z q.1), fun z2 => absurd rfl z2⟩)
  refine m_isR hE h (fun j hj ej => ⟨fun z => absurd z (by decide), fun _ => ?_⟩) (fun z => ⟨fun _ => h0 (fun q => z q.2.1), fun z2 => absurd rfl z2⟩)
  refine m_isR hE h (fun k hk ek => ⟨fun z => absurd z (by decide), fun _ => h1 i j k hi hj hk ei ej ek⟩) (fun z => ⟨fun _ => h0 (fun q => z q.2.2), fun z2 => absurd rfl z2⟩)
/-- a number into a register, if it has room -/
def oPut (w : Nat) (s : ST) (d : Nat) (z : Int) : ST × Int32 := if nl BB z.natAbs ≤ w then (setR s d z, 0) else (s, 1)
theorem m_put {G : SH} {M0 M : MS} {E : EV} {s : ST} {i x : Nat} {d : Int32} {z : Int} (hE : SE G E) (h : MI G M0 M E s) (hi : i < en E) (hd : d = nI i) (hx : Is G 8 x) (wx : Wh G M x z.natAbs (decide (z < 0))) {Q : Int32 → MS → Prop} (hQ : ∀ N, MI G M0 N E (oPut (ew E) s i z).1 → Q (oPut (ew E) s i z).2 N) : w_X10_put G (eA E 0) d x M Q := by
  unfold w_X10_put
  have hO := h.1.1
  have hr := hO.1 x hx
  have hw := wx.1
  have hw40 := hE.1.2.2.2
  have hn := hE.n31
  rw [wx.2.1, h.1.2.2.1, nI_leI (by omega) (by omega), hd, cl (by omega), h.rg hi]
  unfold oPut at hQ
  refine ⟨fun q => ⟨h.vp hE hi, ?_⟩, fun q => ?_⟩
  · rw [if_pos q] at hQ
    refine s_copy hO (hE.r8 hi) hx wx (by rw [h.1.2.2.2.2.1 i hi]; exact q) (fun N f1 w1 => ?_)
    exact hQ N (h.put hE hi f1 w1)
  · rw [if_neg q] at hQ
    exact hQ M h
def oPush (n w : Nat) (s : ST) (r l : Int32) : ST × Int32 := if isR n r then oPut w s (ix r) (sg ((s.1 (ix r)).natAbs * BB + u32 l) (decide (s.1 (ix r) < 0))) else (s, 3)
theorem nl_mulBB (v : Nat) : nl BB (v * BB) ≤ nl BB v + 1 := by
  rw [nl_le BB1, Nat.pow_succ]
  have := (nl_le BB1 (nl BB v) v).mp (Nat.le_refl _)
  exact Nat.mul_lt_mul_of_pos_right this (by decide)
theorem m_push {G : SH} {M0 M : MS} {E : EV} {s : ST} {r l : Int32} (hE : SE G E) (h : MI G M0 M E s) {Q : Int32 → MS → Prop} (hQ : ∀ N, MI G M0 N E (oPush (en E) (ew E) s r l).1 → Q (oPush (en E) (ew E) s r l).2 N) : w_X10_pushLimb G (eA E 0) r l M Q := by
  unfold w_X10_pushLimb
  have hn := hE.n31
  have hw1 := hE.1.2.2.1
  refine m_isR hE h (fun i hi ei => ⟨fun _ => ?_, fun z => absurd z (by decide)⟩) (fun z => ⟨fun z2 => absurd rfl z2, fun _ => ?_⟩)
  · subst ei
    have e : oPush (en E) (ew E) s (nI i) l = oPut (ew E) s i (sg ((s.1 i).natAbs * BB + u32 l) (decide (s.1 i < 0))) := by
      unfold oPush
      rw [if_pos (isR_nI hn hi), ix_nI (by omega)]
    rw [e] at hQ
    refine ⟨h.vp hE hi, ?_⟩
    have hO := h.1.1
    have wv := h.w hi
    have nv := h.nl hi
    rw [cl (by omega), h.rg hi, h.f 10]
    refine s_shiftUp (n := 32) hO hE.i10 (hE.r8 hi) wv rfl (by decide) (by rw [h.r10]; omega) (fun M5 f5 _ w5 => ?_)
    have h5 := h.fr hE f5 (all1 hE.s10)
    have hO5 := h5.1.1
    rw [h5.f 11]
    refine s_become hO5 hE.i11 (fun M7 f7 w7 => ?_)
    have h7 := h5.fr hE f7 (all1 hE.s11)
    have hO7 := h7.1.1
    have w57 := f7.wh hO5 hE.i10 (ni1 (tne hE.t10 hE.t11)) w5
    rw [h7.f 10, h7.f 11]
    have n1 := nl_mulBB (s.1 i).natAbs
    have n2 : nl BB (u32 l) ≤ 1 := nl_le1.mpr (u32_lt l)
    have e32 : (s.1 i).natAbs * 2 ^ 32 = (s.1 i).natAbs * BB := rfl
    rw [e32] at w57
    refine s_sum hO7 hE.i10 hE.i10 hE.i11 w57 w7 (by rw [h7.r10]; omega) (by rw [h7.r10]; omega) (fun M11 f11 w11 => ?_)
    have h11 := h7.fr hE f11 (all1 hE.s10)
    have hO11 := h11.1.1
    rw [h11.f 10, (h11.w hi).2.2.2]
    refine s_takeSign hO11 hE.i10 w11 rfl (fun M13 f13 w13 => ?_)
    have h13 := h11.fr hE f13 (all1 hE.s10)
    rw [h13.f 10]
    exact m_put hE h13 hi rfl hE.i10 (w13.z rfl) hQ
  · unfold oPush at hQ
    rw [if_neg z] at hQ
    exact hQ M h
def oClear (n : Nat) (s : ST) (r : Int32) : ST × Int32 := if isR n r then (setR s (ix r) 0, 1) else (s, 0)
theorem m_clear {G : SH} {M0 M : MS} {E : EV} {s : ST} {r : Int32} (hE : SE G E) (h : MI G M0 M E s) {Q : Int32 → MS → Prop} (hQ : ∀ N, MI G M0 N E (oClear (en E) s r).1 → Q (oClear (en E) s r).2 N) : w_X10_clear G (eA E 0) r M Q := by
  unfold w_X10_clear
  have hn := hE.n31
  unfold oClear at hQ
  refine m_isR hE h (fun i hi ei => ⟨fun _ => ⟨by rw [ei]; exact h.vp hE hi, ?_⟩, fun z => absurd z (by decide)⟩) (fun z => ⟨fun z2 => absurd rfl z2, fun _ => ?_⟩)
  · subst ei
    rw [if_pos (isR_nI hn hi), ix_nI (by omega)] at hQ
    rw [cl (by omega), h.rg hi]
    refine s_become h.1.1 (hE.r8 hi) (fun N f1 w1 => ?_)
    exact hQ N (h.put hE hi f1 (z := 0) (by rw [u32_0] at w1; exact w1))
  · rw [if_neg z] at hQ
    exact hQ M h
def oNeg (n w : Nat) (s : ST) (d a : Int32) : ST × Int32 := if isR n d ∧ isR n a then oPut w s (ix d) (-(s.1 (ix a))) else (s, 3)
theorem m_neg {G : SH} {M0 M : MS} {E : EV} {s : ST} {d a : Int32} (hE : SE G E) (h : MI G M0 M E s) {Q : Int32 → MS → Prop} (hQ : ∀ N, MI G M0 N E (oNeg (en E) (ew E) s d a).1 → Q (oNeg (en E) (ew E) s d a).2 N) : w_X10_negate G (eA E 0) d a M Q := by
  unfold w_X10_negate
  have hn := hE.n31
  unfold oNeg at hQ
  refine m_are2 hE h (fun i j hi hj ei ej => ⟨fun _ => ⟨by rw [ej]; exact h.vp hE hj, ?_⟩, fun z => absurd z (by decide)⟩) (fun z => ⟨fun z2 => absurd rfl z2, fun _ => ?_⟩)
  · subst ei ej
    rw [if_pos ⟨isR_nI hn hi, isR_nI hn hj⟩, ix_nI (by omega), ix_nI (by omega)] at hQ
    rw [cl (by omega), h.rg hj, h.f 10]
    have nv := h.nl hj
    refine s_copy h.1.1 hE.i10 (hE.r8 hj) (h.w hj) (by rw [h.r10]; omega) (fun M5 f5 w5 => ?_)
    have h5 := h.fr hE f5 (all1 hE.s10)
    have hO5 := h5.1.1
    refine ⟨h5.vp hE hj, ?_⟩
    rw [h5.rg hj, (h5.w hj).2.2.2, h5.f 10]
    have go : ∀ (c : Int32) (b : Bool), c = (if b then 1 else 0) → b = !decide (s.1 j < 0) → w_X9_takeSign G (eA E 10) c M5 (fun (M9 : MS) => (w_X10_put G (eA E 0) (nI i) (mR M9 (eA E 0) 10) M9 (fun (r11 : Int32) (M11 : MS) => Q r11 M11))) := by
      intro c b hc hb
      refine s_takeSign hO5 hE.i10 w5 hc (fun M9 f9 w9 => ?_)
      have h9 := h5.fr hE f9 (all1 hE.s10)
      rw [h9.f 10]
      refine m_put hE h9 hi rfl hE.i10 (w9.z ?_) hQ
      rw [hb]
      unfold sg
      by_cases q : s.1 j < 0
      · rw [decide_eq_true q]; simp; omega
      · rw [decide_eq_false q]; simp; omega
    by_cases q : s.1 j < 0
    · rw [decide_eq_true q] at go ⊢
      exact ⟨fun _ => go 0 false rfl rfl, fun z => absurd z (by decide)⟩
    · rw [decide_eq_false q] at go ⊢
      exact ⟨fun z => absurd rfl z, fun _ => go 1 true rfl rfl⟩
  · rw [if_neg z] at hQ
    exact hQ M h
def oAdd (n w : Nat) (s : ST) (d a b : Int32) : ST × Int32 := if isR n d ∧ isR n a ∧ isR n b then oPut w s (ix d) (s.1 (ix a) + s.1 (ix b)) else (s, 3)
theorem m_sum {G : SH} {M0 M : MS} {E : EV} {s : ST} {i j k : Nat} {c : Int32} {tb : Bool} (hE : SE G E) (h : MI G M0 M E s) (hi : i < en E) (hj : j < en E) (hk : k < en E) (hc : c = if tb then 1 else 0) {Q : Int32 → MS → Prop} (hQ : ∀ N, MI G M0 N E (oPut (ew E) s i (s.1 j + sg (s.1 k).natAbs tb)).1 → Q (oPut (ew E) s i (s.1 j + sg (s.1 k).natAbs tb)).2 N) : w_X7_signedSum G (eA E 10) (eR E j) (eR E k) c M (fun (M9 : MS) => (w_X10_put G (eA E 0) (nI i) (mR M9 (eA E 0) 10) M9 (fun (r11 : Int32) (M11 : MS) => Q r11 M11))) := by
  have n1 := h.nl hj
  have n2 := h.nl hk
  refine s_signedSum h.1.1 hE.i10 (hE.r8 hj) (hE.r8 hk) (h.w hj) (h.w hk) hc (by rw [h.r10]; omega) (by rw [h.r10]; omega) (fun N f1 w1 => ?_)
  have h1 := h.fr hE f1 (all1 hE.s10)
  rw [sg_v] at w1
  rw [h1.f 10]
  exact m_put hE h1 hi rfl hE.i10 w1 hQ
theorem m_add {G : SH} {M0 M : MS} {E : EV} {s : ST} {d a b : Int32} (hE : SE G E) (h : MI G M0 M E s) {Q : Int32 → MS → Prop} (hQ : ∀ N, MI G M0 N E (oAdd (en E) (ew E) s d a b).1 → Q (oAdd (en E) (ew E) s d a b).2 N) : w_X10_add G (eA E 0) d a b M Q := by
  unfold w_X10_add
  have hn := hE.n31
  unfold oAdd at hQ
  refine m_are3 hE h (fun i j k hi hj hk ei ej ek => ⟨fun _ => ⟨by rw [ej]; exact h.vp hE hj, by rw [ek]; exact h.vp hE hk, by rw [ek]; exact h.vp hE hk, ?_⟩, fun z => absurd z (by decide)⟩) (fun z => ⟨fun z2 => absurd rfl z2, fun _ => ?_⟩)
  · subst ei ej ek
    rw [if_pos ⟨isR_nI hn hi, isR_nI hn hj, isR_nI hn hk⟩, ix_nI (by omega), ix_nI (by omega), ix_nI (by omega)] at hQ
    rw [cl (by omega), cl (by omega), h.rg hj, h.rg hk, h.f 10, (h.w hk).2.2.2]
    exact m_sum hE h hi hj hk rfl (by rw [sg_v]; exact hQ)
  · rw [if_neg z] at hQ
    exact hQ M h
def oSub (n w : Nat) (s : ST) (d a b : Int32) : ST × Int32 := if isR n d ∧ isR n a ∧ isR n b then oPut w s (ix d) (s.1 (ix a) - s.1 (ix b)) else (s, 3)
theorem m_sub {G : SH} {M0 M : MS} {E : EV} {s : ST} {d a b : Int32} (hE : SE G E) (h : MI G M0 M E s) {Q : Int32 → MS → Prop} (hQ : ∀ N, MI G M0 N E (oSub (en E) (ew E) s d a b).1 → Q (oSub (en E) (ew E) s d a b).2 N) : w_X10_subtract G (eA E 0) d a b M Q := by
  unfold w_X10_subtract
  have hn := hE.n31
  unfold oSub at hQ
  refine m_are3 hE h (fun i j k hi hj hk ei ej ek => ⟨fun _ => ⟨by rw [ej]; exact h.vp hE hj, by rw [ek]; exact h.vp hE hk, by rw [ek]; exact h.vp hE hk, ?_⟩, fun z => absurd z (by decide)⟩) (fun z => ⟨fun z2 => absurd rfl z2, fun _ => ?_⟩)
  · subst ei ej ek
    rw [if_pos ⟨isR_nI hn hi, isR_nI hn hj, isR_nI hn hk⟩, ix_nI (by omega), ix_nI (by omega), ix_nI (by omega)] at hQ
    rw [cl (by omega), cl (by omega), h.rg hj, h.rg hk, h.f 10, (h.w hk).2.2.2]
    by_cases q : s.1 k < 0
    · rw [decide_eq_true q]
      refine ⟨fun _ => m_sum hE h hi hj hk (tb := false) rfl ?_, fun z => absurd z (by decide)⟩
      have e : s.1 j + sg (s.1 k).natAbs false = s.1 j - s.1 k := by unfold sg; simp; omega
      rw [e]; exact hQ
    · rw [decide_eq_false q]
      refine ⟨fun z => absurd rfl z, fun _ => m_sum hE h hi hj hk (tb := true) rfl ?_⟩
      have e : s.1 j + sg (s.1 k).natAbs true = s.1 j - s.1 k := by unfold sg; simp; omega
      rw [e]; exact hQ
  · rw [if_neg z] at hQ
    exact hQ M h
def oMul (n w : Nat) (s : ST) (d a b : Int32) : ST × Int32 := if isR n d ∧ isR n a ∧ isR n b then oPut w s (ix d) (s.1 (ix a) * s.1 (ix b)) else (s, 3)
theorem sg_mul (x y : Int) (b : Bool) (hb : b = (decide (x < 0) != decide (y < 0))) : x * y = sg (x.natAbs * y.natAbs) b := by
  rw [hb]
  unfold sg
  by_cases hx : x < 0
  · obtain ⟨p, rfl⟩ : ∃ p : Nat, x = -(p : Int) := ⟨x.natAbs, by omega⟩
    by_cases hy : y < 0
    · obtain ⟨q, rfl⟩ : ∃ q : Nat, y = -(q : Int) := ⟨y.natAbs, by omega⟩
      rw [decide_eq_true hx, decide_eq_true hy]
      simp
      exact Int.neg_mul_neg _ _
    · obtain ⟨q, rfl⟩ : ∃ q : Nat, y = (q : Int) := ⟨y.natAbs, by omega⟩
      rw [decide_eq_true hx, decide_eq_false hy]
      simp
      exact Int.neg_mul _ _
  · obtain ⟨p, rfl⟩ : ∃ p : Nat, x = (p : Int) := ⟨x.natAbs, by omega⟩
    by_cases hy : y < 0
    · obtain ⟨q, rfl⟩ : ∃ q : Nat, y = -(q : Int) := ⟨y.natAbs, by omega⟩
      rw [decide_eq_false hx, decide_eq_true hy]
      simp
      exact Int.mul_neg _ _
    · obtain ⟨q, rfl⟩ : ∃ q : Nat, y = (q : Int) := ⟨y.natAbs, by omega⟩
      rw [decide_eq_false hx, decide_eq_false hy]
      simp
theorem m_mul {G : SH} {M0 M : MS} {E : EV} {s : ST} {d a b : Int32} (hE : SE G E) (h : MI G M0 M E s) {Q : Int32 → MS → Prop} (hQ : ∀ N, MI G M0 N E (oMul (en E) (ew E) s d a b).1 → Q (oMul (en E) (ew E) s d a b).2 N) : w_X10_multiply G (eA E 0) d a b M Q := by
  unfold w_X10_multiply
  have hn := hE.n31
  unfold oMul at hQ
  refine m_are3 hE h (fun i j k hi hj hk ei ej ek => ⟨fun _ => ⟨by rw [ej]; exact h.vp hE hj, by rw [ek]; exact h.vp hE hk, ?_⟩, fun z => absurd z (by decide)⟩) (fun z => ⟨fun z2 => absurd rfl z2, fun _ => ?_⟩)
  · subst ei ej ek
    rw [if_pos ⟨isR_nI hn hi, isR_nI hn hj, isR_nI hn hk⟩, ix_nI (by omega), ix_nI (by omega), ix_nI (by omega)] at hQ
    rw [cl (by omega), cl (by omega), h.rg hj, h.rg hk, h.f 10]
    have n1 := h.nl hj
    have n2 := h.nl hk
    refine s_product h.1.1 hE.i10 (hE.r8 hj) (hE.r8 hk) (hE.ner hj hE.t10) (hE.ner hk hE.t10) (h.w hj) (h.w hk) (by rw [h.r10]; omega) (fun M7 f7 w7 => ?_)
    have h7 := h.fr hE f7 (all1 hE.s10)
    have hO7 := h7.1.1
    refine ⟨h7.vp hE hj, h7.vp hE hk, ?_⟩
    rw [h7.rg hj, h7.rg hk, (h7.w hj).2.2.2, (h7.w hk).2.2.2, h7.f 10]
    have go : ∀ (c : Int32) (b : Bool), c = (if b then 1 else 0) → b = (decide (s.1 j < 0) != decide (s.1 k < 0)) → w_X9_takeSign G (eA E 10) c M7 (fun (M9 : MS) => (w_X10_put G (eA E 0) (nI i) (mR M9 (eA E 0) 10) M9 (fun (r11 : Int32) (M11 : MS) => Q r11 M11))) := by
      intro c b hc hb
      refine s_takeSign hO7 hE.i10 w7 hc (fun M9 f9 w9 => ?_)
      have h9 := h7.fr hE f9 (all1 hE.s10)
      rw [h9.f 10]
      exact m_put hE h9 hi rfl hE.i10 (w9.z (sg_mul _ _ b hb)) hQ
    generalize decide (s.1 j < 0) = p at *
    generalize decide (s.1 k < 0) = q at *
    refine ⟨fun z => go 0 false rfl ?_, fun z => go 1 true rfl ?_⟩
    · cases p <;> cases q <;> first | rfl | exact absurd z (by decide)
    · cases p <;> cases q <;> first | rfl | exact absurd rfl z
  · rw [if_neg z] at hQ
    exact hQ M h
