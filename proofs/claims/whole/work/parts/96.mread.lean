/-! count, read of the reference -/
def oCnt (n w : Nat) (s : ST) (k : Int32) : ST × Int32 := (s, if k = 0 then nI n else if k = 1 then nI w else if k = 2 then nI s.2.2.1 else if k = 3 then nI s.2.2.2.2.1 else -1)
theorem k_cnt {G : SH} {M : MS} {L : LV} {n w : Nat} {s : ST} {k : Int32} (h : KJ G M L n w s) {Q : Int32 → MS → Prop} (hQ : OQ G M L n w (oCnt n w s k) Q) : w_X11_count G (kO L.1) k M Q := by
  unfold w_X11_count
  intro M1 e1
  obtain ⟨f, h1⟩ := h.go e1
  unfold oCnt at hQ
  obtain ⟨-, ⟨a0, z, ⟨i1, i2, i3, i4, i5⟩, -⟩, -⟩ := id h1
  rw [i1, i2, i4, i5]
  refine ⟨fun c0 => ⟨fun c1 => ⟨fun c2 => ⟨fun c3 => ?_, fun c3 => ?_⟩, fun c2 => ?_⟩, fun c1 => ?_⟩, fun c0 => ?_⟩
  · rw [if_neg c0, if_neg c1, if_neg c2, if_neg c3] at hQ
    exact h1.same hQ
  · rw [if_neg c0, if_neg c1, if_neg c2, if_pos c3] at hQ
    exact h1.same hQ
  · rw [if_neg c0, if_neg c1, if_pos c2] at hQ
    exact h1.same hQ
  · rw [if_neg c0, if_pos c1] at hQ
    exact h1.same hQ
  · rw [if_pos c0] at hQ
    exact h1.same hQ
theorem k_rd_in {G : SH} {Mi : MS} {K : KV} {g : Nat → Int} {v dg : Nat} {v1 v2 v3 v5 : Int32} (nv : nl HB v ≤ 80) (hdg : dg < 10) {K107 : Nat → Int32 → Int32 → Int32 → Int32 → Int32 → MS → Prop} {Q : Int32 → MS → Prop}
    (hC : ∀ N, KF K Mi N → KI G N K (setK g 19 ((10 * v + dg : Nat) : Int)) → w_X11_fits G (kO K) (19 : Int32) N (fun (r17 : Int32) (M17 : MS) => ((¬ r17 = 0 → (∀ x5_18 : Int32, x5_18 = v5 + 1 → K107 (kO K) v1 v2 v3 0 x5_18 M17)) ∧ (r17 = 0 → (∀ x5_19 : Int32, x5_19 = v5 + 1 → K107 (kO K) v1 v2 v3 1 x5_19 M17))))) :
    ∀ (t i : Nat) (M : MS) (cy : Nat), i + t = nl HB v → KF K Mi M → KX G M K 19 g → Ku M K 19 v i → cy < 10 → (∀ j, j < i → hd M K 19 j < HB) → vl HB (hd M K 19) i + cy * HB ^ i = 10 * (v % HB ^ i) + dg → w_X11_read_142 G K107 Q (t + 1) (kO K) v1 v2 v3 v5 (nI cy) (nI (nl HB v)) (nI i) M
  | 0, i, M, cy, hi, f1, hX, ku, hcy, hlt, hv => by
    obtain ⟨⟨e0, e1, e2⟩, ⟨g0, g1, g2⟩, n1, n2, n3⟩ := id hX.1
    obtain rfl : i = nl HB v := by omega
    have ei : (4940 : Int32) + nI (nl HB v) = nI (260 * 19 + nl HB v) := by rw [show (4940 : Int32) = nI 4940 from rfl, nI_add]
    rw [w_X11_read_142, nI_leI (by omega) (by omega), ei, e0, g0, cl (by omega), nI_1]
    refine ⟨fun _ => ⟨vp_in_nI (by omega) (by decide), fun N eN => ?_⟩, fun q => absurd (Nat.le_refl _) q⟩
    have x1 : KX G N K 19 g := by rw [eN]; exact hX.wHx (by omega) _
    have f2 : KF K M N := by rw [eN]; exact KF.wH _
    have hval : vl HB (hd N K 19) (nl HB v + 1) = 10 * v + dg := by
      rw [vl_s, eN, vlH_put (Nat.le_refl _), hd_wHs, u32_nI_lt (by omega), hv, modH_all (Nat.le_refl _)]
    have hl2 : ∀ j, j < nl HB v + 1 → hd N K 19 j < HB := by
      rw [eN]
      exact hdlt_put hlt (by rw [u32_nI_lt (by omega)]; show cy < 65536; omega)
    have nn : nl HB (10 * v + dg) ≤ nl HB v + 1 := by
      rw [nl_le HB1, ← hval]
      exact vl_lt hl2
    exact k_trim (d := 19) ((10 * v + dg : Nat) : Int) x1 (by decide) (c := nl HB v + 1) (by omega) rfl (by rw [Int.natAbs_natCast]; omega) (by rw [Int.natAbs_natCast]; exact hval) hl2 iS_nat (fun P f3 h3 => hC P ((f1.tr f2).tr f3) h3)
  | t + 1, i, M, cy, hi, f1, hX, ku, hcy, hlt, hv => by
    obtain ⟨⟨e0, e1, e2⟩, ⟨g0, g1, g2⟩, n1, n2, n3⟩ := id hX.1
    have ei : (4940 : Int32) + nI i = nI (260 * 19 + i) := by rw [show (4940 : Int32) = nI 4940 from rfl, nI_add]
    have lh := hl_lt v i
    have ed := mA_hd (ku.2.2 i (Nat.le_refl _) (by omega))
    rw [w_X11_read_142, nI_leI (by omega) (by omega), ei, e0, g0, cl (by omega), ed, show (10 : Int32) = nI 10 from rfl, pk_mul, nI_add]
    refine ⟨fun q => absurd q (by omega), fun _ => ⟨vp_in_nI (by omega) (by decide), fun y ey => ⟨vp_in_nI (by omega) (by decide), fun N eN z ez x ex => ?_⟩⟩⟩
    generalize hS : cy + 10 * hl v i = S at ey
    rw [ey, nx_mod] at eN
    rw [ey, shr16 (by omega)] at ez
    have x1 : KX G N K 19 g := by rw [eN]; exact hX.wHx (by omega) _
    have f2 : KF K M N := by rw [eN]; exact KF.wH _
    rw [ex, nI_1, ez]
    refine k_rd_in nv hdg hC t (i + 1) N (S / 65536) (by omega) (f1.tr f2) x1 (by rw [eN]; exact ku.wH hX.1 (by omega)) (by omega) ?_ ?_
    · rw [eN]
      exact hdlt_put hlt (by rw [u32_nI_lt (by omega)]; show S % 65536 < 65536; omega)
    · rw [vl_s, eN, vlH_put (Nat.le_refl _), hd_wHs, u32_nI_lt (by omega), mod_h, Nat.pow_succ]
      have hs2 : 65536 * (S / 65536) + S % 65536 = S := Nat.div_add_mod _ _
      have e : S % 65536 * HB ^ i + S / 65536 * (HB ^ i * HB) = S * HB ^ i := by
        calc S % 65536 * HB ^ i + S / 65536 * (HB ^ i * HB) = (65536 * (S / 65536) + S % 65536) * HB ^ i := by show _ + S / 65536 * (HB ^ i * 65536) = _; grind
          _ = S * HB ^ i := by rw [hs2]
      have e2 : S * HB ^ i = cy * HB ^ i + 10 * (hl v i * HB ^ i) := by rw [← hS]; grind
      omega
/-- the tape's octets, h of them -/
def Tq (M : MS) (L : LV) (tb : Nat → Int32) (h : Nat) : Prop := ∀ i, i < h → mA M L.2.1 i = tb i
theorem Tq.kf {G : SH} {M N : MS} {L : LV} {tb : Nat → Int32} {h : Nat} (t : Tq M L tb h) (hZ : KZ G M L) (f : KF L.1 M N) : Tq N L tb h := fun i hi => by
  obtain ⟨-, -, ⟨z4, z5, z6⟩, -⟩ := hZ
  rw [f.2.2.2 _ z4 z5 z6]
  exact t i hi
theorem k_r243 {G : SH} {M0 M : MS} {L : LV} {n w r V : Nat} {s : ST} {g : Nat → Int} {v3 : Int32} {m : Bool} (h : KE G M0 M L n w s g) (hr : r < n) (h19 : g 19 = (V : Int)) (hV : nl BB V ≤ w) (h3 : v3 = if m then 1 else 0) {Q : Int32 → MS → Prop} (hQ : OQ G M0 L n w (setR s r (sg V m), 0) Q) : w_X11_read_243 G Q (kO L.1) (nI r) v3 0 M := by
  unfold w_X11_read_243
  have hn := h.n16
  refine ⟨fun _ => ?_, fun q => absurd rfl q⟩
  refine k_copy h.ki (a := 19) (by omega) (by decide) (fun N f1 h1 => ?_)
  rw [h19] at h1
  cases m
  · subst h3
    refine ⟨fun _ => ?_, fun q => absurd q (by decide)⟩
    exact h.set f1 h1 hr (setK_s _ _ _) (fun i _ e => setK_n _ _ e) (by rw [Int.natAbs_natCast]; exact hV) hQ
  · subst h3
    refine ⟨fun q => absurd rfl q, fun _ => ?_⟩
    obtain ⟨⟨e0, e1, e2⟩, ⟨g0, g1, g2⟩, -⟩ := id h1.1
    have sd := (h1.2 r (by omega)).1.2.1
    rw [setK_s] at sd
    rw [e2, g2, cl (by omega), sd, iS_ng]
    have vr := vp_in_nI (n := r) (N := 40) (by omega) (by decide)
    refine ⟨vr, vr, fun P eP => ?_⟩
    have h2 := h1.sg (d := r) (by omega) (z := -(V : Int)) (i := iS (-(V : Int))) (by rw [setK_s, Int.natAbs_neg]) rfl
    rw [← eP, setK_ss] at h2
    exact h.set (f1.tr (by rw [eP]; exact KF.wS _)) h2 hr (setK_s _ _ _) (fun i _ e => setK_n _ _ e) (by rw [Int.natAbs_neg, Int.natAbs_natCast]; exact hV) hQ
theorem k_rd_loop {G : SH} {M0 : MS} {L : LV} {n w r h a : Nat} {s : ST} {tb : Nat → Int32} {v3 : Int32} {m : Bool} (hr : r < n) (hh : h ≤ 1000) (ha : a ≤ h) (h3 : v3 = if m then 1 else 0) (hD : ∀ i, a ≤ i → i < h → ¬ tb i < 48 ∧ tb i ≤ 57) {Q : Int32 → MS → Prop} (hQ : OQ G M0 L n w (oPut w s r (sg (DC tb a (h - a)) m)) Q) : ∀ (t i : Nat) (M : MS) (g : Nat → Int) (v4 : Int32), i + t = h → a ≤ i → KE G M0 M L n w s g → Tq M L tb h → g 19 = (DC tb a (i - a) : Int) → ((v4 = 0 ∧ nl BB (DC tb a (i - a)) ≤ w) ∨ (v4 = 1 ∧ ¬ nl BB (DC tb a (i - a)) ≤ w)) → w_X11_read_107 G Q (t + 1) (kO L.1) (nI r) (nI h) v3 v4 (nI i) M := by
  have over : ∀ (i : Nat) (M : MS) (g : Nat → Int), a ≤ i → i ≤ h → KE G M0 M L n w s g → ¬ nl BB (DC tb a (i - a)) ≤ w → w_X11_read_243 G Q (kO L.1) (nI r) v3 1 M := by
    intro i M g hai hih hE hbig
    unfold w_X11_read_243
    refine ⟨fun q => absurd q (by decide), fun _ => ?_⟩
    have hm := DC_mono tb a (i - a) (h - i)
    rw [show i - a + (h - i) = h - a by omega] at hm
    unfold oPut at hQ
    rw [sg_abs, if_neg (fun z => hbig (Nat.le_trans (nl_mono BB1 hm) z))] at hQ
    exact hE.same hQ
  intro t
  induction t with
  | zero =>
    intro i M g v4 hi hai hE hT h19 hf
    obtain rfl : i = h := by omega
    rw [w_X11_read_107, nI_leI (by omega) (by omega)]
    refine ⟨fun _ => ?_, fun q => absurd (Nat.le_refl _) q⟩
    rcases hf with ⟨rfl, hf⟩ | ⟨rfl, hf⟩
    · rw [oPut_fit (by rw [sg_abs]; exact hf)] at hQ
      exact k_r243 hE hr h19 hf h3 hQ
    · exact over i M g hai (Nat.le_refl _) hE hf
  | succ t ih =>
    intro i M g v4 hi hai hE hT h19 hf
    rw [w_X11_read_107, nI_leI (by omega) (by omega)]
    refine ⟨fun q => absurd q (by omega), fun _ => ?_⟩
    rcases hf with ⟨rfl, hf⟩ | ⟨rfl, hf⟩
    · refine ⟨fun q => absurd rfl q, fun _ => ?_⟩
      obtain ⟨d, hd, ed⟩ := dg_of (hD i hai (by omega)).1 (hD i hai (by omega)).2
      obtain ⟨-, ⟨a0, hZ, -⟩, -⟩ := id hE
      obtain ⟨⟨z1, z2⟩, ⟨y1, y2⟩, -⟩ := id hZ
      obtain ⟨⟨e0, e1, e2⟩, ⟨g0, g1, g2⟩, -⟩ := id hE.ki.1
      have s19 := hE.ki.2 19 (by decide)
      have m19 := s19.1.1
      have ku := s19.ku 0
      rw [h19, Int.natAbs_natCast] at m19 ku
      have hw := hE.w40
      have nv : nl HB (DC tb a (i - a)) ≤ 80 := by
        have := nlHB.mpr hf
        omega
      have e48 : nI (48 + d) - 48 = nI d := by
        rw [show (48 : Int32) = nI 48 from rfl, pk_sub (by omega)]
        congr 1
        omega
      have hDC : DC tb a (i + 1 - a) = 10 * DC tb a (i - a) + d := by
        rw [show i + 1 - a = (i - a) + 1 by omega, DC, show a + (i - a) = i by omega, ed, u32_nI_lt (by omega)]
        omega
      rw [z1, y1, cl (by omega), hT i (by omega), ed, e48, e1, g1, show (19 : Int32).toNatClampNeg = 19 from rfl, m19]
      refine ⟨vp_in_nI (by omega) (by decide), fun x ex => ⟨vp_in_nI (n := 19) (by decide) (by decide), fun y ey => ⟨nl HB (DC tb a (i - a)) + 1, ?_⟩⟩⟩
      rw [ex, ey, ← nI_0]
      refine k_rd_in (Mi := M) (g := g) nv hd (fun N f1 h1 => ?_) _ 0 M d (by omega) KF.rf (hE.ki.x 19) ku hd (fun j hj => absurd hj (Nat.not_lt_zero _)) (by rw [vl_0, Nat.pow_zero, Nat.mod_one]; omega)
      have hE1 := hE.up1 f1 h1 (by decide)
      have hT1 := hT.kf hZ f1
      have c19 : setK g 19 ((10 * DC tb a (i - a) + d : Nat) : Int) 19 = (DC tb a (i + 1 - a) : Int) := by rw [setK_s, hDC]
      refine k_fits hE1 (a := 19) (by decide) (fun q => ⟨fun _ x ex => ?_, fun z => absurd z (by decide)⟩) (fun q => ⟨fun z => absurd rfl z, fun _ x ex => ?_⟩)
      · rw [c19, Int.natAbs_natCast] at q
        rw [ex, nI_1]
        exact ih (i + 1) N _ 0 (by omega) (by omega) hE1 hT1 c19 (Or.inl ⟨rfl, q⟩)
      · rw [c19, Int.natAbs_natCast] at q
        rw [ex, nI_1]
        exact ih (i + 1) N _ 1 (by omega) (by omega) hE1 hT1 c19 (Or.inr ⟨rfl, q⟩)
    · exact ⟨fun _ => over i M g hai (by omega) hE hf, fun q => absurd q (by decide)⟩
theorem k_rd_chk {G : SH} {M0 M : MS} {L : LV} {n w r h a : Nat} {s : ST} {tb : Nat → Int32} {g : Nat → Int} {v3 : Int32} {m : Bool} (hr : r < n) (hh : h ≤ 1000) (ha : a ≤ h) (h3 : v3 = if m then 1 else 0) (h3a : v3 = nI a) (hE : KE G M0 M L n w s g) (hT : Tq M L tb h) {Q : Int32 → MS → Prop} (h1 : (∀ i, a ≤ i → i < h → ¬ tb i < 48 ∧ tb i ≤ 57) → OQ G M0 L n w (oPut w s r (sg (DC tb a (h - a)) m)) Q) (h0 : ¬ (∀ i, a ≤ i → i < h → ¬ tb i < 48 ∧ tb i ≤ 57) → OQ G M0 L n w (s, 2) Q) : ∀ (t i : Nat), i + t = h → a ≤ i → (∀ j, a ≤ j → j < i → ¬ tb j < 48 ∧ tb j ≤ 57) → w_X11_read_56 G Q (t + 1) (kO L.1) (nI r) (nI h) v3 (nI i) M
  | 0, i, hi, hai, hj => by
    obtain rfl : i = h := by omega
    rw [w_X11_read_56, nI_leI (by omega) (by omega)]
    refine ⟨fun _ => ?_, fun q => absurd (Nat.le_refl _) q⟩
    obtain ⟨-, ⟨a0, hZ, -⟩, -⟩ := id hE
    refine k_small hE.ki (d := 19) (by decide) (c := 0) (by decide) rfl (fun N f1 hN => ⟨i - a + 1, ?_⟩)
    have hw1 := a0.2.2.1
    have hE1 := hE.up1 f1 hN (by decide)
    have e : w_X11_read_107 G Q (i - a + 1) (kO L.1) (nI r) (nI i) v3 0 (nI a) N := k_rd_loop hr hh ha h3 hj (h1 hj) (i - a) a N _ 0 (by omega) (Nat.le_refl _) hE1 (hT.kf hZ f1) (by rw [setK_s, Nat.sub_self]; rfl) (Or.inl ⟨rfl, by rw [Nat.sub_self, DC, nl_0]; exact Nat.zero_le _⟩)
    rw [← h3a] at e
    exact e
  | t + 1, i, hi, hai, hj => by
    obtain ⟨-, ⟨a0, hZ, -⟩, -⟩ := id hE
    obtain ⟨⟨z1, z2⟩, ⟨y1, y2⟩, -⟩ := id hZ
    have vi := vp_in_nI (n := i) (N := 1000) (by omega) (by decide)
    rw [w_X11_read_56, nI_leI (by omega) (by omega), z1, y1, cl (by omega), hT i (by omega), nI_1]
    refine ⟨fun q => absurd q (by omega), fun _ => ⟨vi, fun q => ?_, fun q => ⟨vi, fun q2 x ex => ?_, fun q2 => ?_⟩⟩⟩
    · exact hE.same (h0 (fun z => (z i hai (by omega)).1 q))
    · rw [ex]
      refine k_rd_chk hr hh ha h3 h3a hE hT h1 h0 t (i + 1) (by omega) (by omega) (fun j h1 h2 => ?_)
      by_cases e : j = i
      · rw [e]; exact ⟨q, q2⟩
      · exact hj j h1 (by omega)
    · exact hE.same (h0 (fun z => q2 (z i hai (by omega)).2))
theorem k_read {G : SH} {M : MS} {L : LV} {n w : Nat} {s : ST} {r : Int32} (h : KJ G M L n w s) {Q : Int32 → MS → Prop} (hQ : OQ G M L n w (oRead n w s r) Q) : w_X11_read G (kO L.1) r M Q := by
  unfold w_X11_read
  intro M1 e1
  obtain ⟨f, h1⟩ := h.go e1
  have hn := h1.n16
  unfold oRead at hQ
  refine k_noB h1 (fun i hi ei => ?_) (fun z => ?_)
  · subst ei
    rw [if_pos (isR_nI (by omega) hi), ix_nI (by omega)] at hQ
    intro x2 ex2 M4 eM4
    obtain ⟨-, ⟨a0, ⟨⟨z1, z2⟩, ⟨y1, y2⟩, -⟩, ⟨i1, i2, i3, i4, i5⟩, ⟨b1, b2⟩, t, o⟩, -⟩ := id h1
    have h2 := h1.cut (Nat.zero_le _) (i := 0) rfl
    rw [← eM4] at h2
    have hT : Tq M4 L s.2.1 s.2.2.1 := fun j hj => by rw [eM4, mA_wI]; exact t j hj
    rw [i4] at ex2
    subst ex2
    have r0 : mR M4 (kO L.1) 7 = L.2.1 := by rw [eM4, mR_wI]; exact z1
    rw [r0, y1, show (0 : Int32).toNatClampNeg = 0 from rfl, nI_le0 (by omega)]
    have key : ∀ (m : Bool) (a : Nat) (v3 : Int32), m = mns s.2.1 s.2.2.1 → a = frm s.2.1 s.2.2.1 → v3 = (if m then 1 else 0) → v3 = nI a → w_X11_read_45 G Q (kO L.1) (nI i) (nI s.2.2.1) v3 M4 := by
      intro m a v3 hm ha h3 h3a
      unfold w_X11_read_45
      have hfl := frm_le s.2.1 s.2.2.1
      rw [← ha] at hfl
      rw [← hm, ← ha] at hQ
      unfold isD at hQ
      rw [← ha] at hQ
      rw [h3a, nI_eq (by omega) (by omega)]
      refine ⟨fun q => ⟨s.2.2.1 - a + 1, ?_⟩, fun q => ?_⟩
      · have := k_rd_chk (v3 := v3) (m := m) hi b1 hfl h3 h3a h2 hT (Q := Q) (fun hD => by
          rw [if_pos ⟨by omega, hD⟩] at hQ
          exact hQ) (fun hD => by
          rw [if_neg (fun z => hD z.2)] at hQ
          exact hQ) (s.2.2.1 - a) a (by omega) (Nat.le_refl _) (fun j h1 h2 => absurd h2 (by omega))
        rw [h3a] at this
        exact this
      · rw [if_neg (fun z => by omega)] at hQ
        exact h2.same hQ
    refine ⟨fun q => ?_, fun q => ⟨vp_in_nI (n := 0) (by decide) (by decide), fun q2 => ?_, fun q2 => ?_⟩⟩
    · have em : mns s.2.1 s.2.2.1 = false := by unfold mns; rw [decide_eq_false (by omega)]; rfl
      exact key false 0 0 em.symm (by unfold frm; rw [em]; rfl) rfl rfl
    · rw [hT 0 (by omega)] at q2
      have em : mns s.2.1 s.2.2.1 = false := by unfold mns; rw [decide_eq_false q2, Bool.and_false]
      exact key false 0 0 em.symm (by unfold frm; rw [em]; rfl) rfl rfl
    · rw [hT 0 (by omega)] at q2
      have em : mns s.2.1 s.2.2.1 = true := by unfold mns; rw [decide_eq_true q2, decide_eq_true (by omega)]; rfl
      exact key true 1 1 em.symm (by unfold frm; rw [em]; rfl) rfl rfl
  · rw [if_neg z] at hQ
    exact h1.same hQ
