/-! tape, octets -/
def oFeed (s : ST) (a b c d e : Int32) : ST × Int32 := if s.2.2.1 ≤ 980 then ((s.1, tap (tap (tap (tap (tap s.2.1 s.2.2.1 a) (s.2.2.1 + 4) b) (s.2.2.1 + 8) c) (s.2.2.1 + 12) d) (s.2.2.1 + 16) e, s.2.2.1 + 20, s.2.2.2), nI (s.2.2.1 + 20)) else (s, -1)
theorem MI.tp {G : SH} {M0 M : MS} {E : EV} {s : ST} (h : MI G M0 M E s) : Tp G M (eA E 8) (eA E 15) s.2.1 s.2.2.1 1000 := h.2.2.2.1
theorem m_feed {G : SH} {M0 M : MS} {E : EV} {s : ST} {a b c d e : Int32} (hE : SE G E) (h : MI G M0 M E s) {Q : Int32 → MS → Prop} (hQ : ∀ N, MI G M0 N E (oFeed s a b c d e).1 → Q (oFeed s a b c d e).2 N) : w_X10_feed G (eA E 0) a b c d e M Q := by
  unfold w_X10_feed
  unfold oFeed at hQ
  have t := h.tp
  have hh := t.2.2.2.1
  rw [h.f 8, t.2.2.2.2.1, show (980 : Int32) = nI 980 from rfl, nI_leI (by omega) (by decide)]
  refine ⟨fun q => ?_, fun q => ?_⟩
  · rw [if_pos q] at hQ
    refine s_append t (by omega) (hE.o8 (by decide)) (fun M1 f1 t1 => ?_)
    have h1 := h.tape hE f1 t1
    rw [h1.f 8]
    refine s_append t1 (by omega) (hE.o8 (by decide)) (fun M2 f2 t2 => ?_)
    have h2 := h1.tape hE f2 t2
    rw [h2.f 8]
    refine s_append t2 (by omega) (hE.o8 (by decide)) (fun M3 f3 t3 => ?_)
    have h3 := h2.tape hE f3 t3
    rw [h3.f 8]
    refine s_append t3 (by omega) (hE.o8 (by decide)) (fun M4 f4 t4 => ?_)
    have h4 := h3.tape hE f4 t4
    rw [h4.f 8]
    refine s_append t4 (by omega) (hE.o8 (by decide)) (fun M5 f5 t5 => ?_)
    have h5 := h4.tape hE f5 t5
    rw [h5.f 8, t5.2.2.2.2.1]
    exact hQ M5 h5
  · rw [if_neg q] at hQ
    exact hQ M h
def oEnd (s : ST) (n : Int32) : ST × Int32 := if ¬ n < 0 ∧ n ≤ nI s.2.2.1 then ((s.1, s.2.1, ix n, s.2.2.2), 1) else (s, 0)
theorem MI.cut {G : SH} {M0 M : MS} {E : EV} {s : ST} {c : Nat} {i : Int32} (hE : SE G E) (h : MI G M0 M E s) (hc : c ≤ s.2.2.1) (hi : i = nI c) : MI G M0 (wI M (eA E 8) 0 i) E (s.1, s.2.1, c, s.2.2.2) := by
  have t := h.tp
  refine h.tape hE (Fg.wI (by simp) (all1 (hE.o8 (by decide))) (by simp) 0 i) ?_
  obtain ⟨a1, a2, a3, a4, a5, a6⟩ := t
  exact ⟨a1, a2, a3, by omega, by rw [mI_wI_s]; exact hi, fun j hj => a6 j (by omega)⟩
theorem m_end {G : SH} {M0 M : MS} {E : EV} {s : ST} {n : Int32} (hE : SE G E) (h : MI G M0 M E s) {Q : Int32 → MS → Prop} (hQ : ∀ N, MI G M0 N E (oEnd s n).1 → Q (oEnd s n).2 N) : w_X10_end G (eA E 0) n M Q := by
  unfold w_X10_end
  unfold oEnd at hQ
  have t := h.tp
  have hh := t.2.2.2.1
  rw [h.f 8, t.2.2.2.2.1]
  refine ⟨fun z => ?_, fun z => ⟨fun z2 N eN => ?_, fun z2 => ?_⟩⟩
  · rw [if_neg (fun q => q.1 z)] at hQ
    exact hQ M h
  · rw [if_pos ⟨z, z2⟩] at hQ
    obtain ⟨c, hc, rfl⟩ := nI_of z
    rw [nI_leI hc (by omega)] at z2
    rw [ix_nI hc] at hQ
    rw [eN]
    exact hQ _ (h.cut hE z2 rfl)
  · rw [if_neg (fun q => z2 q.2)] at hQ
    exact hQ M h
theorem Wh.wo {G : SH} {M : MS} {x v a k : Nat} {b : Bool} {i : Int32} (w1 : Wh G M x v b) (hne : x ≠ a) : Wh G (wI M a k i) x v b := ⟨w1.1, by rw [mI_wI_a M _ hne]; exact w1.2.1, w1.2.2.1, by rw [mI_wI_a M _ hne]; exact w1.2.2.2⟩
noncomputable def oRead (n w : Nat) (s : ST) (r : Int32) : ST × Int32 :=
  if isR n r then
    @ite (ST × Int32) (isD s.2.1 s.2.2.1) (Classical.propDecidable _) (oPut w (s.1, s.2.1, 0, s.2.2.2) (ix r) (sg (DC s.2.1 (frm s.2.1 s.2.2.1) (s.2.2.1 - frm s.2.1 s.2.2.1)) (mns s.2.1 s.2.2.1))) ((s.1, s.2.1, 0, s.2.2.2), 2)
  else (s, 3)
theorem m_read {G : SH} {M0 M : MS} {E : EV} {s : ST} {r : Int32} (hE : SE G E) (h : MI G M0 M E s) {Q : Int32 → MS → Prop} (hQ : ∀ N, MI G M0 N E (oRead (en E) (ew E) s r).1 → Q (oRead (en E) (ew E) s r).2 N) : w_X10_read G (eA E 0) r M Q := by
  unfold w_X10_read
  have hn := hE.n31
  unfold oRead at hQ
  refine m_isR hE h (fun i hi ei => ⟨fun _ => ?_, fun z => absurd z (by decide)⟩) (fun z => ⟨fun z2 => absurd rfl z2, fun _ => ?_⟩)
  · subst ei
    rw [if_pos (isR_nI hn hi), ix_nI (by omega)] at hQ
    rw [h.f 8]
    have t := h.tp
    have hw1 := hE.1.2.2.1
    refine s_isDecimal t (fun hd => ⟨fun z => absurd z (by decide), fun _ => ?_⟩) (fun hd => ⟨fun _ => ?_, fun z => absurd rfl z⟩)
    · rw [if_pos hd] at hQ
      rw [h.f 8, h.f 10]
      refine s_parse h.1.1 hE.i10 (hE.o8 (by decide)) t (h.1.nL hE hE.i10).1 hd (w := ew E) (by rw [h.r10]; omega) h.1.2.2.1 (fun hv N f1 w1 => ⟨fun z => absurd z (by decide), fun _ => ?_⟩) (fun hv N f1 => ⟨fun _ => ?_, fun z => absurd rfl z⟩)
      · have h1 := h.fr hE f1 (all1 hE.s10)
        unfold w_X10_read_45
        intro P eP
        have h2 := h1.cut hE (c := 0) (Nat.zero_le _) (i := 0) rfl
        rw [h1.f 8] at eP
        rw [← eP] at h2
        refine ⟨fun _ => ⟨fun z => absurd z (by decide), fun _ => ?_⟩, fun z => absurd z (by decide)⟩
        rw [h2.f 10]
        have w2 := w1.wo (a := eA E 8) (k := 0) (i := 0) (fun e => hE.o8 (k := 8) (by decide) (by rw [← e]; exact hE.i10.2))
        rw [← eP] at w2
        exact m_put hE h2 hi rfl hE.i10 (w2.z rfl) hQ
      · have h1 := h.fr hE f1 (all1 hE.s10)
        unfold w_X10_read_44 w_X10_read_45
        intro P eP
        have h2 := h1.cut hE (c := 0) (Nat.zero_le _) (i := 0) rfl
        rw [h1.f 8] at eP
        rw [← eP] at h2
        refine ⟨fun _ => ⟨fun _ => ?_, fun z => absurd rfl z⟩, fun z => absurd z (by decide)⟩
        unfold oPut at hQ
        rw [sg_abs, if_neg (by omega)] at hQ
        exact hQ P h2
    · rw [if_neg hd] at hQ
      unfold w_X10_read_44 w_X10_read_45
      intro P eP
      have h2 := h.cut hE (c := 0) (Nat.zero_le _) (i := 0) rfl
      rw [h.f 8] at eP
      rw [← eP] at h2
      exact ⟨fun z => absurd rfl z, fun _ => hQ P h2⟩
  · rw [if_neg z] at hQ
    exact hQ M h
def oOct (s : ST) (k : Int32) : ST × Int32 := if ¬ k < 0 ∧ k < nI s.2.2.2.2.1 then (s, s.2.2.2.1 (ix k)) else (s, -1)
theorem m_oct {G : SH} {M0 M : MS} {E : EV} {s : ST} {k : Int32} (hE : SE G E) (h : MI G M0 M E s) {Q : Int32 → MS → Prop} (hQ : ∀ N, MI G M0 N E (oOct s k).1 → Q (oOct s k).2 N) : w_X10_octet G (eA E 0) k M Q := by
  unfold w_X10_octet
  unfold oOct at hQ
  have t := h.2.2.2.2.1.1
  have hh := t.2.2.2.1
  have hw40 := hE.1.2.2.2
  rw [h.f 9, t.2.2.2.2.1, t.1, t.2.1]
  refine ⟨fun z => ?_, fun z => ⟨fun z2 => ?_, fun z2 => ?_⟩⟩
  · rw [if_neg (fun q => q.1 z)] at hQ
    exact hQ M h
  · rw [if_pos ⟨z, z2⟩] at hQ
    obtain ⟨c, hc, rfl⟩ := nI_of z
    rw [nI_ltI hc (by omega)] at z2
    rw [ix_nI hc] at hQ
    rw [cl hc, t.2.2.2.2.2 c z2]
    exact ⟨vp_in_nI (by omega) (by omega), hQ M h⟩
  · rw [if_neg (fun q => z2 q.2)] at hQ
    exact hQ M h
