/-! steps, signs, tape of the reference -/
theorem k_last {G : SH} {M : MS} {L : LV} {n w : Nat} {s : ST} (h : KJ G M L n w s) {Q : Int32 → MS → Prop} (hQ : OQ G M L n w (s, s.2.2.2.2.2) Q) : w_X11_lastSteps G (kO L.1) M Q := by
  unfold w_X11_lastSteps
  intro M1 e1
  obtain ⟨f, h1⟩ := h.go e1
  rw [h1.2.1.2.2.1.2.2.1]
  exact h1.same hQ
/-- calls that a missing register makes throw -/
def OX (G : SH) (M0 : MS) (L : LV) (n w : Nat) (r : Int32) (o : ST × Int32) (Q : Int32 → MS → Prop) : Prop := ∀ N, KG L M0 N → KJ G N L n w o.1 → mI N (kO L.1) 5 = (if isR n r then 0 else 1) → Q o.2 N
theorem KJ.thr {G : SH} {M : MS} {L : LV} {n w : Nat} {s : ST} (h : KJ G M L n w s) (x : Int32) : KJ G (wI M (kO L.1) 5 x) L n w s := by
  obtain ⟨⟨a0, z, ⟨i1, i2, i3, i4, i5⟩, b, t, o⟩, ⟨f, hf, hr⟩, hb⟩ := h
  exact ⟨⟨a0, z, ⟨by rw [mI_wI_k M x (by decide)]; exact i1, by rw [mI_wI_k M x (by decide)]; exact i2, by rw [mI_wI_k M x (by decide)]; exact i3, by rw [mI_wI_k M x (by decide)]; exact i4, by rw [mI_wI_k M x (by decide)]; exact i5⟩, b, t, o⟩, ⟨f, hf, hr⟩, hb⟩
theorem k_lacks {G : SH} {M : MS} {L : LV} {n w : Nat} {s : ST} {r : Int32} (h : KJ G M L n w s) {Q : Int32 → MS → Prop} (h0 : ∀ i M2 f, i < n → r = nI i → KE G M M2 L n w s f → Q 0 M2) (h1 : ¬ isR n r → ∀ M2, KG L M M2 → KJ G M2 L n w s → mI M2 (kO L.1) 5 = 1 → Q 1 M2) : w_X11_lacks G (kO L.1) r M Q := by
  unfold w_X11_lacks w_X11_no
  have hn := h.1.1.2.1
  rw [h.1.2.2.1.1]
  have yes : ¬ isR n r → w_X11_lacks_14 G Q (kO L.1) 1 (kO L.1) M := fun z => by
    unfold w_X11_lacks_14
    intro M2 e2
    have e5 : mI M2 (kO L.1) 5 = 1 := by rw [e2, mI_wI_s]
    rw [e5]
    exact ⟨fun q => absurd rfl q, fun _ => h1 z M2 (by rw [e2]; exact KG.wI 5 1) (by rw [e2]; exact h.thr 1) e5⟩
  refine ⟨fun z => ⟨fun q => absurd q (by decide), fun _ => yes (fun q => q.1 z)⟩, fun z => ⟨fun z2 => ⟨fun _ => ?_, fun q => absurd rfl q⟩, fun z2 => ⟨fun q => absurd q (by decide), fun _ => yes (fun q => q.2 (Int32.not_lt.mp z2))⟩⟩⟩
  obtain ⟨k, hk, e⟩ := isR_of (n := n) (by omega) ⟨z, fun q => absurd (Int32.lt_of_lt_of_le z2 q) (Int32.lt_irrefl)⟩
  unfold w_X11_lacks_14
  intro M2 e2
  obtain ⟨f, hf⟩ := h.go e2
  rw [hf.2.2.1]
  exact ⟨fun _ => h0 k M2 f hk e hf, fun q => absurd q (by decide)⟩
theorem KE.ox {G : SH} {M0 M : MS} {L : LV} {n w i : Nat} {s : ST} {g : Nat → Int} {c : Int32} (h : KE G M0 M L n w s g) (hi : i < n) {Q : Int32 → MS → Prop} (hQ : OX G M0 L n w (nI i) (s, c) Q) : Q c M := by
  have hn := h.n16
  exact hQ M h.1 ⟨h.2.1, ⟨g, h.2.2.2.1, h.2.2.2.2.1⟩, h.2.2.2.2.2⟩ (by rw [if_pos (isR_nI (by omega) hi)]; exact h.2.2.1)
def oSgn (n : Nat) (s : ST) (r : Int32) : ST × Int32 := (s, if isR n r then iS (s.1 (ix r)) else 0)
theorem k_sgn {G : SH} {M : MS} {L : LV} {n w : Nat} {s : ST} {r : Int32} (h : KJ G M L n w s) {Q : Int32 → MS → Prop} (hQ : OX G M L n w r (oSgn n s r) Q) : w_X11_sign G (kO L.1) r M Q := by
  unfold w_X11_sign
  unfold oSgn at hQ
  refine k_lacks h (fun i M2 f hi ei hf => ⟨fun _ => ?_, fun q => absurd rfl q⟩) (fun z M2 g2 h2 t2 => ⟨fun q => absurd q (by decide), fun _ => ?_⟩)
  · subst ei
    have hn := hf.n16
    rw [if_pos (isR_nI (by omega) hi), ix_nI (by omega), ← hf.rg hi] at hQ
    rw [hf.ki.1.1.2.2, hf.ki.1.2.1.2.2, cl (by omega), (hf.ki.2 i (by omega)).1.2.1]
    exact ⟨vp_in_nI (by omega) (by decide), hf.ox hi hQ⟩
  · rw [if_neg z] at hQ
    exact hQ M2 g2 h2 (by rw [if_neg z]; exact t2)
theorem nlHB2 (v : Nat) : (nl HB v + 1) / 2 = nl BB v := by
  have h1 := (nlHB (v := v) (w := (nl HB v + 1) / 2)).mp (by omega)
  have h2 := (nlHB (v := v) (w := nl BB v)).mpr (Nat.le_refl _)
  omega
def oLen (n : Nat) (s : ST) (r : Int32) : ST × Int32 := (s, if isR n r then nI (nl BB (s.1 (ix r)).natAbs) else 0)
theorem k_len {G : SH} {M : MS} {L : LV} {n w : Nat} {s : ST} {r : Int32} (h : KJ G M L n w s) {Q : Int32 → MS → Prop} (hQ : OX G M L n w r (oLen n s r) Q) : w_X11_length G (kO L.1) r M Q := by
  unfold w_X11_length
  unfold oLen at hQ
  refine k_lacks h (fun i M2 f hi ei hf => ⟨fun _ => ?_, fun q => absurd rfl q⟩) (fun z M2 g2 h2 t2 => ⟨fun q => absurd q (by decide), fun _ => ?_⟩)
  · subst ei
    have hn := hf.n16
    have nh := hf.nh hi
    rw [if_pos (isR_nI (by omega) hi), ix_nI (by omega), ← hf.rg hi, ← nlHB2] at hQ
    rw [hf.ki.1.1.2.1, hf.ki.1.2.1.2.1, cl (by omega), (hf.ki.2 i (by omega)).1.1, nI_1, show (2 : Int32) = nI 2 from rfl, pk_div (by omega) (by decide) (by decide)]
    exact ⟨vp_in_nI (by omega) (by decide), by decide, hf.ox hi hQ⟩
  · rw [if_neg z] at hQ
    exact hQ M2 g2 h2 (by rw [if_neg z]; exact t2)
theorem lim_hl (v i : Nat) : hl v (2 * i) + hl v (2 * i + 1) * 65536 = lim v i := by
  unfold hl lim
  have e1 : HB ^ (2 * i) = BB ^ i := by rw [HBp, BBp, show 16 * (2 * i) = 32 * i by omega]
  have e2 : v / HB ^ (2 * i + 1) = v / BB ^ i / HB := by rw [Nat.pow_succ, e1, Nat.div_div_eq_div_mul]
  rw [e2, e1]
  generalize v / BB ^ i = y
  show y % 65536 + y / 65536 % 65536 * 65536 = y % 4294967296
  omega
def oLimb (n : Nat) (s : ST) (r i : Int32) : ST × Int32 := (s, if isR n r then (if i < 0 then 0 else nI (lim (s.1 (ix r)).natAbs (ix i))) else 0)
theorem k_limb {G : SH} {M : MS} {L : LV} {n w : Nat} {s : ST} {r i : Int32} (h : KJ G M L n w s) {Q : Int32 → MS → Prop} (hQ : OX G M L n w r (oLimb n s r i) Q) : w_X11_limbAt G (kO L.1) r i M Q := by
  unfold w_X11_limbAt
  unfold oLimb at hQ
  refine k_lacks h (fun j M2 f hj ej hf => ⟨fun q => absurd rfl q, fun _ => ⟨fun hi => ?_, fun hi => ?_⟩⟩) (fun z M2 g2 h2 t2 => ⟨fun _ => ?_, fun q => absurd q (by decide)⟩)
  · subst ej
    have hn := hf.n16
    rw [if_pos (isR_nI (by omega) hj), if_pos hi] at hQ
    exact hf.ox hj hQ
  · subst ej
    have hn := hf.n16
    have nh := hf.nh hj
    obtain ⟨k, hk, rfl⟩ := nI_of hi
    rw [if_pos (isR_nI (by omega) hj), if_neg hi, ix_nI hk, ix_nI (by omega), ← hf.rg hj] at hQ
    rw [show (100 : Int32) = nI 100 from rfl, nI_leI hk (by decide)]
    refine ⟨fun q => ?_, fun q => ?_⟩
    · rw [show (2 : Int32) = nI 2 from rfl, pk_mul, nI_1]
      refine k_get hf.ki.1 (by omega) ((hf.ki.2 j (by omega)).ku 0) (by omega) (Nat.zero_le _) (k_get hf.ki.1 (by omega) ((hf.ki.2 j (by omega)).ku 0) (by omega) (Nat.zero_le _) ?_)
      have l0 := hl_lt (f j).natAbs (2 * k)
      have l1 := hl_lt (f j).natAbs (2 * k + 1)
      have eor : nI (hl (f j).natAbs (2 * k)) ||| (nI (hl (f j).natAbs (2 * k + 1)) <<< ((16 : Int32) &&& 31)) = nI (lim (f j).natAbs k) := by
        rw [pk_shlN _ 16 rfl (by omega), Int32.or_comm, Nat.mul_comm, fa_or_sum _ (by omega), ← lim_hl]
        congr 1
        omega
      rw [eor]
      exact hf.ox hj hQ
    · rw [lim_big (by have := nlHB2 (f j).natAbs; omega)] at hQ
      exact hf.ox hj hQ
  · rw [if_neg z] at hQ
    exact hQ M2 g2 h2 (by rw [if_neg z]; exact t2)
theorem KI.wo {G : SH} {M : MS} {K : KV} {f : Nat → Int} {q : Nat} {g : Nat → Int32} (h : KI G M K f) (h1 : q ≠ kH K) (h2 : q ≠ kN K) (h3 : q ≠ kS K) : KI G (wA M q g) K f := by
  refine ⟨h.1, fun r hr => ?_⟩
  obtain ⟨⟨a1, a2, a3⟩, a4, a5⟩ := h.2 r hr
  have e : hd (wA M q g) K r = hd M K r := by unfold hd; rw [mA_wA_ne h1.symm]
  exact ⟨⟨by rw [mA_wA_ne h2.symm]; exact a1, by rw [mA_wA_ne h3.symm]; exact a2, a3⟩, by rw [e]; exact a4, by rw [e]; exact a5⟩
theorem KE.byte {G : SH} {M0 M : MS} {L : LV} {n w : Nat} {s : ST} {g : Nat → Int} {x j : Int32} (h : KE G M0 M L n w s g) (hh : s.2.2.1 < 1000) (hj : j = nI (s.2.2.1 + 1)) : KE G M0 (wI (wA M L.2.1 (upd (mA M L.2.1) s.2.2.1 x)) (kO L.1) 9 j) L n w (s.1, tset s.2.1 s.2.2.1 x, s.2.2.1 + 1, s.2.2.2) g := by
  obtain ⟨h1, ⟨a0, ⟨z1, z2, z3, z4, z5⟩, ⟨i1, i2, i3, i4, i5⟩, b, t, o⟩, h3, h4, h5, h6⟩ := h
  refine ⟨h1.tr ⟨fun _ _ => rfl, fun _ _ => rfl, fun a k e => by rw [mI_wI_a _ _ e]; rfl, fun q _ _ _ e _ => by rw [mA_wI, mA_wA_ne e]⟩, ⟨a0, ⟨z1, z2, z3, z4, z5⟩, ⟨by rw [mI_wI_k _ _ (by decide)]; exact i1, by rw [mI_wI_k _ _ (by decide)]; exact i2, by rw [mI_wI_k _ _ (by decide)]; exact i3, by rw [mI_wI_s]; exact hj, by rw [mI_wI_k _ _ (by decide)]; exact i5⟩, ⟨by show s.2.2.1 + 1 ≤ 1000; omega, b.2⟩, fun i hi => ?_, fun i hi => ?_⟩, by rw [mI_wI_k _ _ (by decide)]; exact h3, KI.wo h4 z3.1 z3.2.1 z3.2.2, h5, h6⟩
  · show mA (wI (wA M L.2.1 _) _ _ _) L.2.1 i = if i = s.2.2.1 then x else s.2.1 i
    rw [mA_wI, mA_wA]
    by_cases e : i = s.2.2.1
    · rw [if_pos e, e, updS]
    · rw [if_neg e, updN e]
      exact t i (by have : i < s.2.2.1 + 1 := hi; omega)
  · rw [mA_wI, mA_wA_ne z5.symm]
    exact o i hi
theorem byt_eq (v : Int32) : ∀ k, k ≤ 24 → (v >>> (nI k &&& 31)).toInt8.toInt32 = byt v (nI k) := by
  intro k hk
  unfold byt
  have e : (v >>> (nI k &&& 31)) &&& 255 = ((v.toUInt32 >>> ((nI k).toUInt32 &&& Int32.toUInt32 31)).toInt32) &&& 255 := by
    apply b_ext
    intro i hi
    rw [b_and, b_and, b_255]
    by_cases c : i < 8
    · rw [b_sshr k (by omega) v hi, b_ushr k (by omega) v i, if_pos (by omega)]
    · rw [decide_eq_false c, Bool.and_false, Bool.and_false]
  rw [← fa_byte_low, e, fa_byte_low]
theorem k_four {G : SH} {M0 M : MS} {L : LV} {n w : Nat} {s : ST} {g : Nat → Int} {v : Int32} (h : KE G M0 M L n w s g) (hh : s.2.2.1 + 4 ≤ 1000) {Q : MS → Prop} (hQ : ∀ N, KE G M0 N L n w (s.1, tap s.2.1 s.2.2.1 v, s.2.2.1 + 4, s.2.2.2) g → Q N) : w_X11_four G (kO L.1) v M Q := by
  unfold w_X11_four
  refine ⟨5, ?_⟩
  have step : ∀ (k m : Nat) (M : MS) (s : ST) (kk : Int32), KE G M0 M L n w s g → s.2.2.1 < 1000 → kk = nI k → k ≤ 24 → (∀ N x2, x2 = nI k + (-8) → KE G M0 N L n w (s.1, tset s.2.1 s.2.2.1 (byt v (nI k)), s.2.2.1 + 1, s.2.2.2) g → w_X11_four_3 G Q m (kO L.1) v x2 N) → w_X11_four_3 G Q (m + 1) (kO L.1) v kk M := by
    intro k m M s kk h hh hkk hk hN
    subst hkk
    obtain ⟨-, ⟨a0, ⟨⟨z1, z2⟩, ⟨y1, y2⟩, -⟩, ⟨i1, i2, i3, i4, i5⟩, -⟩, -⟩ := id h
    rw [w_X11_four_3, z1, y1, i4]
    refine ⟨fun q => absurd q (nI_lt0 (by omega)), fun _ => ⟨vp_in_nI hh (by decide), fun M2 e2 M3 e3 x2 ex => ?_⟩⟩
    rw [cl (by omega), byt_eq v k hk, show (byt v (nI k)).toInt8.toInt32 = byt v (nI k) from i8i8 _] at e2
    have i9 : mI M2 (kO L.1) 9 = nI s.2.2.1 := by rw [e2, mI_wA]; exact i4
    rw [i9, nI_1, e2] at e3
    have hb := h.byte (x := byt v (nI k)) hh (j := nI (s.2.2.1 + 1)) rfl
    rw [← e3] at hb
    exact hN M3 x2 ex hb
  refine step 24 4 M s 24 h (by omega) rfl (by decide) (fun N1 x1 e1 h1 => ?_)
  refine step 16 3 N1 _ x1 h1 (by show s.2.2.1 + 1 < 1000; omega) (by rw [e1]; decide) (by decide) (fun N2 x2 e2 h2 => ?_)
  refine step 8 2 N2 _ x2 h2 (by show s.2.2.1 + 1 + 1 < 1000; omega) (by rw [e2]; decide) (by decide) (fun N3 x3 e3 h3 => ?_)
  refine step 0 1 N3 _ x3 h3 (by show s.2.2.1 + 1 + 1 + 1 < 1000; omega) (by rw [e3]; decide) (by decide) (fun N4 x4 e4 h4 => ?_)
  rw [w_X11_four_3]
  refine ⟨fun _ => hQ N4 h4, fun q => absurd (by rw [e4]; decide) q⟩
theorem k_feed {G : SH} {M : MS} {L : LV} {n w : Nat} {s : ST} {a b c d e : Int32} (h : KJ G M L n w s) {Q : Int32 → MS → Prop} (hQ : OQ G M L n w (oFeed s a b c d e) Q) : w_X11_feed G (kO L.1) a b c d e M Q := by
  unfold w_X11_feed
  intro M1 e1
  obtain ⟨f, h1⟩ := h.go e1
  unfold oFeed at hQ
  have hb := h1.2.1.2.2.2.1.1
  rw [h1.2.1.2.2.1.2.2.2.1, show (20 : Int32) = nI 20 from rfl, nI_add, show (1000 : Int32) = nI 1000 from rfl, nI_leI (by omega) (by decide)]
  refine ⟨fun q => ?_, fun q => ?_⟩
  · rw [if_pos (by omega)] at hQ
    refine k_four h1 (by omega) (fun N1 h2 => ?_)
    refine k_four h2 (by show s.2.2.1 + 4 + 4 ≤ 1000; omega) (fun N2 h3 => ?_)
    refine k_four h3 (by show s.2.2.1 + 4 + 4 + 4 ≤ 1000; omega) (fun N3 h4 => ?_)
    refine k_four h4 (by show s.2.2.1 + 4 + 4 + 4 + 4 ≤ 1000; omega) (fun N4 h5 => ?_)
    refine k_four h5 (by show s.2.2.1 + 4 + 4 + 4 + 4 + 4 ≤ 1000; omega) (fun N5 h6 => ?_)
    have e9 : mI N5 (kO L.1) 9 = nI (s.2.2.1 + 20) := h6.2.1.2.2.1.2.2.2.1
    rw [e9]
    exact h6.same hQ
  · rw [if_neg (by omega)] at hQ
    exact h1.same hQ
theorem KE.cut {G : SH} {M0 M : MS} {L : LV} {n w c : Nat} {s : ST} {g : Nat → Int} {i : Int32} (h : KE G M0 M L n w s g) (hc : c ≤ s.2.2.1) (hi : i = nI c) : KE G M0 (wI M (kO L.1) 9 i) L n w (s.1, s.2.1, c, s.2.2.2) g := by
  obtain ⟨h1, ⟨a0, z, ⟨i1, i2, i3, i4, i5⟩, b, t, o⟩, h3, h4, h5, h6⟩ := h
  exact ⟨h1.tr (KG.wI 9 i), ⟨a0, z, ⟨by rw [mI_wI_k M _ (by decide)]; exact i1, by rw [mI_wI_k M _ (by decide)]; exact i2, by rw [mI_wI_k M _ (by decide)]; exact i3, by rw [mI_wI_s]; exact hi, by rw [mI_wI_k M _ (by decide)]; exact i5⟩, ⟨by show c ≤ 1000; omega, b.2⟩, fun j hj => t j (by have : j < c := hj; omega), o⟩, by rw [mI_wI_k M _ (by decide)]; exact h3, h4, h5, h6⟩
theorem k_end {G : SH} {M : MS} {L : LV} {n w : Nat} {s : ST} {c : Int32} (h : KJ G M L n w s) {Q : Int32 → MS → Prop} (hQ : OQ G M L n w (oEnd s c) Q) : w_X11_end G (kO L.1) c M Q := by
  unfold w_X11_end
  intro M1 e1
  obtain ⟨f, h1⟩ := h.go e1
  unfold oEnd at hQ
  have hb := h1.2.1.2.2.2.1.1
  rw [h1.2.1.2.2.1.2.2.2.1]
  refine ⟨fun z => ?_, fun z => ⟨fun z2 N eN => ?_, fun z2 => ?_⟩⟩
  · rw [if_neg (fun q => q.1 z)] at hQ
    exact h1.same hQ
  · rw [if_pos ⟨z, z2⟩] at hQ
    obtain ⟨k, hk, rfl⟩ := nI_of z
    rw [nI_leI hk (by omega)] at z2
    rw [ix_nI hk] at hQ
    have h2 := h1.cut z2 (i := nI k) rfl
    rw [← eN] at h2
    exact h2.same hQ
  · rw [if_neg (fun q => z2 q.2)] at hQ
    exact h1.same hQ
theorem k_oct {G : SH} {M : MS} {L : LV} {n w : Nat} {s : ST} {k : Int32} (h : KJ G M L n w s) {Q : Int32 → MS → Prop} (hQ : OQ G M L n w (oOct s k) Q) : w_X11_octet G (kO L.1) k M Q := by
  unfold w_X11_octet
  intro M1 e1
  obtain ⟨f, h1⟩ := h.go e1
  unfold oOct at hQ
  obtain ⟨-, ⟨a0, ⟨⟨z1, z2⟩, ⟨y1, y2⟩, -⟩, ⟨i1, i2, i3, i4, i5⟩, ⟨b1, b2⟩, t, o⟩, -⟩ := id h1
  rw [i5, z2, y2]
  refine ⟨fun z => ?_, fun z => ⟨fun z2 => ?_, fun z2 => ?_⟩⟩
  · rw [if_neg (fun q => q.1 z)] at hQ
    exact h1.same hQ
  · rw [if_neg (fun q => absurd z2 (Int32.not_le.mpr q.2))] at hQ
    exact h1.same hQ
  · have z3 := Int32.not_le.mp z2
    rw [if_pos ⟨z, z3⟩] at hQ
    obtain ⟨c, hc, rfl⟩ := nI_of z
    rw [nI_ltI hc (by omega)] at z3
    rw [ix_nI hc] at hQ
    rw [cl hc, o c z3]
    exact ⟨vp_in_nI (by omega) (by decide), h1.same hQ⟩
