/-! THE REFERENCE'S STATE; its calls -/
abbrev LV : Type := KV × Nat × Nat
def KZ (G : SH) (M : MS) (L : LV) : Prop := (mR M (kO L.1) 7 = L.2.1 ∧ mR M (kO L.1) 8 = L.2.2) ∧ (G.2.2.1 L.2.1 = 1000 ∧ G.2.2.1 L.2.2 = 500) ∧ (L.2.1 ≠ kH L.1 ∧ L.2.1 ≠ kN L.1 ∧ L.2.1 ≠ kS L.1) ∧ (L.2.2 ≠ kH L.1 ∧ L.2.2 ≠ kN L.1 ∧ L.2.2 ≠ kS L.1) ∧ L.2.1 ≠ L.2.2
def KR (G : SH) (M : MS) (L : LV) (n w : Nat) (s : ST) : Prop := (1 ≤ n ∧ n ≤ 16 ∧ 1 ≤ w ∧ w ≤ 40) ∧ KZ G M L ∧ (mI M (kO L.1) 3 = nI n ∧ mI M (kO L.1) 4 = nI w ∧ mI M (kO L.1) 6 = s.2.2.2.2.2 ∧ mI M (kO L.1) 9 = nI s.2.2.1 ∧ mI M (kO L.1) 10 = nI s.2.2.2.2.1) ∧ (s.2.2.1 ≤ 1000 ∧ s.2.2.2.2.1 ≤ 500) ∧ (∀ i, i < s.2.2.1 → mA M L.2.1 i = s.2.1 i) ∧ ∀ i, i < s.2.2.2.2.1 → mA M L.2.2 i = s.2.2.2.1 i
def KG (L : LV) (M N : MS) : Prop := (∀ a k, mR N a k = mR M a k) ∧ (∀ a k, mJ N a k = mJ M a k) ∧ (∀ a k, a ≠ kO L.1 → mI N a k = mI M a k) ∧ ∀ q, q ≠ kH L.1 → q ≠ kN L.1 → q ≠ kS L.1 → q ≠ L.2.1 → q ≠ L.2.2 → mA N q = mA M q
theorem KG.rf {L : LV} {M : MS} : KG L M M := ⟨fun _ _ => rfl, fun _ _ => rfl, fun _ _ _ => rfl, fun _ _ _ _ _ _ => rfl⟩
theorem KG.tr {L : LV} {M N P : MS} (h : KG L M N) (g : KG L N P) : KG L M P := ⟨fun a k => (g.1 a k).trans (h.1 a k), fun a k => (g.2.1 a k).trans (h.2.1 a k), fun a k e => (g.2.2.1 a k e).trans (h.2.2.1 a k e), fun q a b c d e => (g.2.2.2 q a b c d e).trans (h.2.2.2 q a b c d e)⟩
theorem KF.kg {L : LV} {M N : MS} (h : KF L.1 M N) : KG L M N := ⟨h.1, h.2.1, fun a k _ => h.2.2.1 a k, fun q a b c _ _ => h.2.2.2 q a b c⟩
theorem KG.wI {L : LV} {M : MS} (k : Nat) (v : Int32) : KG L M (wI M (kO L.1) k v) := ⟨fun _ _ => rfl, fun _ _ => rfl, fun _ _ e => mI_wI_a M v e, fun _ _ _ _ _ _ => rfl⟩
theorem KF.kr {G : SH} {L : LV} {M N : MS} {n w : Nat} {s : ST} (f : KF L.1 M N) (h : KR G M L n w s) : KR G N L n w s := by
  obtain ⟨a0, ⟨⟨z1, z2⟩, z3, ⟨z4, z5, z6⟩, ⟨z7, z8, z9⟩, z10⟩, ⟨i1, i2, i3, i4, i5⟩, b, t, o⟩ := h
  exact ⟨a0, ⟨⟨by rw [f.1]; exact z1, by rw [f.1]; exact z2⟩, z3, ⟨z4, z5, z6⟩, ⟨z7, z8, z9⟩, z10⟩, ⟨by rw [f.2.2.1]; exact i1, by rw [f.2.2.1]; exact i2, by rw [f.2.2.1]; exact i3, by rw [f.2.2.1]; exact i4, by rw [f.2.2.1]; exact i5⟩, b, fun i hi => by rw [f.2.2.2 _ z4 z5 z6]; exact t i hi, fun i hi => by rw [f.2.2.2 _ z7 z8 z9]; exact o i hi⟩
def KJ (G : SH) (M : MS) (L : LV) (n w : Nat) (s : ST) : Prop := KR G M L n w s ∧ (∃ f, KI G M L.1 f ∧ ∀ i, i < n → f i = s.1 i) ∧ ∀ i, i < n → nl BB (s.1 i).natAbs ≤ w
/-- within a call that began at M0 -/
def KE (G : SH) (M0 M : MS) (L : LV) (n w : Nat) (s : ST) (g : Nat → Int) : Prop := KG L M0 M ∧ KR G M L n w s ∧ mI M (kO L.1) 5 = 0 ∧ KI G M L.1 g ∧ (∀ i, i < n → g i = s.1 i) ∧ ∀ i, i < n → nl BB (s.1 i).natAbs ≤ w
def OQ (G : SH) (M0 : MS) (L : LV) (n w : Nat) (r : ST × Int32) (Q : Int32 → MS → Prop) : Prop := ∀ N, KG L M0 N → KJ G N L n w r.1 → mI N (kO L.1) 5 = 0 → Q r.2 N
theorem KJ.go {G : SH} {M M1 : MS} {L : LV} {n w : Nat} {s : ST} (h : KJ G M L n w s) (e : M1 = wI M (kO L.1) 5 0) : ∃ f, KE G M M1 L n w s f := by
  obtain ⟨⟨a0, z, ⟨i1, i2, i3, i4, i5⟩, b, t, o⟩, ⟨f, hf, hr⟩, hb⟩ := h
  subst e
  exact ⟨f, KG.wI 5 0, ⟨a0, z, ⟨by rw [mI_wI_k M 0 (by decide)]; exact i1, by rw [mI_wI_k M 0 (by decide)]; exact i2, by rw [mI_wI_k M 0 (by decide)]; exact i3, by rw [mI_wI_k M 0 (by decide)]; exact i4, by rw [mI_wI_k M 0 (by decide)]; exact i5⟩, b, t, o⟩, mI_wI_s M _ _ _, hf, hr, hb⟩
theorem KE.up {G : SH} {M0 M N : MS} {L : LV} {n w : Nat} {s : ST} {g g' : Nat → Int} (h : KE G M0 M L n w s g) (f : KF L.1 M N) (hI : KI G N L.1 g') (hg : ∀ i, i < 16 → g' i = g i) : KE G M0 N L n w s g' := by
  obtain ⟨h1, h2, h3, h4, h5, h6⟩ := h
  have hn := h2.1.2.1
  exact ⟨h1.tr f.kg, f.kr h2, by rw [f.2.2.1]; exact h3, hI, fun i hi => by rw [hg i (by omega)]; exact h5 i hi, h6⟩
theorem setK_hi {f : Nat → Int} {d : Nat} {z : Int} (hd : 16 ≤ d) : ∀ i, i < 16 → setK f d z i = f i := fun i hi => setK_n f z (by omega)
theorem KE.up1 {G : SH} {M0 M N : MS} {L : LV} {n w d : Nat} {z : Int} {s : ST} {g : Nat → Int} (h : KE G M0 M L n w s g) (f : KF L.1 M N) (hI : KI G N L.1 (setK g d z)) (hd : 16 ≤ d) : KE G M0 N L n w s (setK g d z) := h.up f hI (setK_hi hd)
theorem KE.same {G : SH} {M0 M : MS} {L : LV} {n w : Nat} {s : ST} {g : Nat → Int} {c : Int32} (h : KE G M0 M L n w s g) {Q : Int32 → MS → Prop} (hQ : OQ G M0 L n w (s, c) Q) : Q c M := hQ M h.1 ⟨h.2.1, ⟨g, h.2.2.2.1, h.2.2.2.2.1⟩, h.2.2.2.2.2⟩ h.2.2.1
theorem KE.set {G : SH} {M0 M N : MS} {L : LV} {n w d : Nat} {z : Int} {s : ST} {g g' : Nat → Int} {c : Int32} (h : KE G M0 M L n w s g) (f : KF L.1 M N) (hI : KI G N L.1 g') (hd : d < n) (hgd : g' d = z) (hg : ∀ i, i < 16 → i ≠ d → g' i = g i) (hz : nl BB z.natAbs ≤ w) {Q : Int32 → MS → Prop} (hQ : OQ G M0 L n w (setR s d z, c) Q) : Q c N := by
  obtain ⟨h1, h2, h3, h4, h5, h6⟩ := h
  have hn := h2.1.2.1
  refine hQ N (h1.tr f.kg) ⟨f.kr h2, ⟨g', hI, fun i hi => ?_⟩, fun i hi => ?_⟩ (by rw [f.2.2.1]; exact h3)
  · show g' i = if i = d then z else s.1 i
    by_cases e : i = d
    · rw [if_pos e, e]; exact hgd
    · rw [if_neg e, hg i (by omega) e]; exact h5 i hi
  · show nl BB (if i = d then z else s.1 i).natAbs ≤ w
    by_cases e : i = d
    · rw [if_pos e]; exact hz
    · rw [if_neg e]; exact h6 i hi
theorem KE.ki {G : SH} {M0 M : MS} {L : LV} {n w : Nat} {s : ST} {g : Nat → Int} (h : KE G M0 M L n w s g) : KI G M L.1 g := h.2.2.2.1
theorem KE.n16 {G : SH} {M0 M : MS} {L : LV} {n w : Nat} {s : ST} {g : Nat → Int} (h : KE G M0 M L n w s g) : n ≤ 16 := h.2.1.1.2.1
theorem KE.w40 {G : SH} {M0 M : MS} {L : LV} {n w : Nat} {s : ST} {g : Nat → Int} (h : KE G M0 M L n w s g) : w ≤ 40 := h.2.1.1.2.2.2
theorem KE.rg {G : SH} {M0 M : MS} {L : LV} {n w : Nat} {s : ST} {g : Nat → Int} (h : KE G M0 M L n w s g) {i : Nat} (hi : i < n) : g i = s.1 i := h.2.2.2.2.1 i hi
theorem nlHB {v w : Nat} : nl HB v ≤ 2 * w ↔ nl BB v ≤ w := by
  rw [nl_le HB1, nl_le BB1, HBp, BBp]
  rw [show 16 * (2 * w) = 32 * w by omega]
theorem KE.nh {G : SH} {M0 M : MS} {L : LV} {n w : Nat} {s : ST} {g : Nat → Int} (h : KE G M0 M L n w s g) {i : Nat} (hi : i < n) : nl HB (g i).natAbs ≤ 80 := by
  have h1 := h.2.2.2.2.2 i hi
  have h2 := h.w40
  rw [← h.rg hi, ← nlHB] at h1
  omega
theorem k_no {G : SH} {M0 M : MS} {L : LV} {n w : Nat} {s : ST} {g : Nat → Int} {r : Int32} (h : KE G M0 M L n w s g) {Q : Int32 → MS → Prop} (h0 : ∀ i, i < n → r = nI i → Q 0 M) (h1 : ¬ isR n r → Q 1 M) : w_X11_no G (kO L.1) r M Q := by
  unfold w_X11_no
  have hn := h.n16
  rw [h.2.1.2.2.1.1]
  refine ⟨fun z => h1 (fun q => q.1 z), fun z => ⟨fun z2 => ?_, fun z2 => h1 (fun q => q.2 (Int32.not_lt.mp z2))⟩⟩
  · obtain ⟨k, hk, e⟩ := isR_of (n := n) (by omega) ⟨z, fun q => absurd (Int32.lt_of_lt_of_le z2 q) (Int32.lt_irrefl)⟩
    exact h0 k hk e
theorem k_noA {G : SH} {M0 M : MS} {L : LV} {n w : Nat} {s : ST} {g : Nat → Int} {r : Int32} (h : KE G M0 M L n w s g) {A B : MS → Prop} (h0 : ∀ i, i < n → r = nI i → A M) (h1 : ¬ isR n r → B M) : w_X11_no G (kO L.1) r M (fun (r2 : Int32) (M2 : MS) => ((¬ r2 = 0 → B M2) ∧ (r2 = 0 → A M2))) :=
  k_no h (fun i hi e => ⟨fun z => absurd rfl z, fun _ => h0 i hi e⟩) (fun z => ⟨fun _ => h1 z, fun q => absurd q (by decide)⟩)
theorem k_noB {G : SH} {M0 M : MS} {L : LV} {n w : Nat} {s : ST} {g : Nat → Int} {r : Int32} (h : KE G M0 M L n w s g) {A B : MS → Prop} (h0 : ∀ i, i < n → r = nI i → A M) (h1 : ¬ isR n r → B M) : w_X11_no G (kO L.1) r M (fun (r2 : Int32) (M2 : MS) => ((r2 = 0 → A M2) ∧ (¬ r2 = 0 → B M2))) :=
  k_no h (fun i hi e => ⟨fun _ => h0 i hi e, fun z => absurd rfl z⟩) (fun z => ⟨fun q => absurd q (by decide), fun _ => h1 z⟩)
theorem k_fits {G : SH} {M0 M : MS} {L : LV} {n w a : Nat} {s : ST} {g : Nat → Int} (h : KE G M0 M L n w s g) (ha : a < 40) {Q : Int32 → MS → Prop} (h1 : nl BB (g a).natAbs ≤ w → Q 1 M) (h0 : ¬ nl BB (g a).natAbs ≤ w → Q 0 M) : w_X11_fits G (kO L.1) (nI a) M Q := by
  unfold w_X11_fits
  obtain ⟨⟨e0, e1, e2⟩, ⟨g0, g1, g2⟩, -⟩ := id h.ki.1
  have sa := h.ki.2 a ha
  have a3 := sa.1.2.2
  have hw := h.w40
  rw [h.2.1.2.2.1.2.1, e1, g1, cl (by omega), sa.1.1, show (2 : Int32) = nI 2 from rfl, pk_mul, nI_ltI (by omega) (by omega)]
  exact ⟨vp_in_nI ha (by decide), fun z => h0 (fun q => by rw [← nlHB] at q; omega), fun z => h1 (by rw [← nlHB]; omega)⟩
theorem k_put {G : SH} {M0 M : MS} {L : LV} {n w a d : Nat} {s : ST} {g : Nat → Int} {z : Int} {i : Int32} (h : KE G M0 M L n w s g) (hd : d < n) (ha : a < 40) (hi : i = nI a) (hz : g a = z) {Q : Int32 → MS → Prop} (hQ : OQ G M0 L n w (oPut w s d z) Q) : w_X11_put G (kO L.1) (nI d) i M Q := by
  unfold w_X11_put
  subst hi
  have hn := h.n16
  unfold oPut at hQ
  refine k_fits h ha (fun q => ⟨fun _ => ?_, fun z => absurd z (by decide)⟩) (fun q => ⟨fun z => absurd rfl z, fun _ => ?_⟩)
  · rw [hz] at q
    rw [if_pos q] at hQ
    refine k_copy h.ki (by omega) ha (fun N f1 h1 => ?_)
    exact h.set f1 h1 hd (by rw [setK_s]; exact hz) (fun i _ e => setK_n _ _ e) q hQ
  · rw [hz] at q
    rw [if_neg q] at hQ
    exact h.same hQ
theorem k_clear {G : SH} {M : MS} {L : LV} {n w : Nat} {s : ST} {r : Int32} (h : KJ G M L n w s) {Q : Int32 → MS → Prop} (hQ : OQ G M L n w (oClear n s r) Q) : w_X11_clear G (kO L.1) r M Q := by
  unfold w_X11_clear
  intro M1 e1
  obtain ⟨f, h1⟩ := h.go e1
  have hn := h1.n16
  unfold oClear at hQ
  refine k_noB h1 (fun i hi ei => ?_) (fun z => ?_)
  · subst ei
    rw [if_pos (isR_nI (by omega) hi), ix_nI (by omega)] at hQ
    refine k_small h1.ki (by omega) (c := 0) (by decide) rfl (fun N f2 h2 => ?_)
    exact h1.set f2 h2 hi (setK_s _ _ _) (fun i _ e => setK_n _ _ e) (by rw [show (((0 : Nat) : Int)).natAbs = 0 from rfl, nl_0]; exact Nat.zero_le _) hQ
  · rw [if_neg z] at hQ
    exact h1.same hQ
theorem k_neg {G : SH} {M : MS} {L : LV} {n w : Nat} {s : ST} {d a : Int32} (h : KJ G M L n w s) {Q : Int32 → MS → Prop} (hQ : OQ G M L n w (oNeg n w s d a) Q) : w_X11_negate G (kO L.1) d a M Q := by
  unfold w_X11_negate
  intro M1 e1
  obtain ⟨f, h1⟩ := h.go e1
  have hn := h1.n16
  unfold oNeg at hQ
  refine k_noA h1 (fun i hi ei => k_noB h1 (fun j hj ej => ?_) (fun z => ?_)) (fun z => ?_)
  · subst ei ej
    rw [if_pos ⟨isR_nI (by omega) hi, isR_nI (by omega) hj⟩, ix_nI (by omega), ix_nI (by omega)] at hQ
    have hb : nl BB (-(s.1 j)).natAbs ≤ w := by rw [Int.natAbs_neg]; exact h1.2.2.2.2.2 j hj
    rw [oPut_fit hb] at hQ
    refine k_copy h1.ki (by omega) (by omega) (fun N f2 h2 => ?_)
    obtain ⟨⟨e0, e1, e2⟩, ⟨g0, g1, g2⟩, -⟩ := id h2.1
    have sd := (h2.2 i (by omega)).1.2.1
    rw [setK_s] at sd
    rw [e2, g2, cl (by omega), sd]
    refine ⟨vp_in_nI (by omega) (by decide), vp_in_nI (by omega) (by decide), fun P eP => ?_⟩
    have h3 := h2.sg (by omega) (d := i) (z := -(f j)) (i := -(iS (f j))) (by rw [setK_s, Int.natAbs_neg]) (by
      have := iS_mul (f j) (-1)
      rw [Int.mul_neg, Int.mul_one] at this
      rw [← this]
      show -(iS (f j)) = iS (f j) * -1
      rw [Int32.mul_neg, Int32.mul_one])
    rw [← eP] at h3
    exact h1.set (f2.tr (by rw [eP]; exact KF.wS _)) h3 hi (by rw [setK_s, h1.rg hj]) (fun i _ e => by rw [setK_n _ _ e, setK_n _ _ e]) hb hQ
  · rw [if_neg (fun q => z q.2)] at hQ
    exact h1.same hQ
  · rw [if_neg (fun q => z q.1)] at hQ
    exact h1.same hQ
theorem k_add {G : SH} {M : MS} {L : LV} {n w : Nat} {s : ST} {d a b : Int32} (h : KJ G M L n w s) {Q : Int32 → MS → Prop} (hQ : OQ G M L n w (oAdd n w s d a b) Q) : w_X11_add G (kO L.1) d a b M Q := by
  unfold w_X11_add
  intro M1 e1
  obtain ⟨f, h1⟩ := h.go e1
  have hn := h1.n16
  unfold oAdd at hQ
  refine k_noA h1 (fun i hi ei => k_noA h1 (fun j hj ej => k_noB h1 (fun k hk ek => ?_) (fun z => ?_)) (fun z => ?_)) (fun z => ?_)
  · subst ei ej ek
    rw [if_pos ⟨isR_nI (by omega) hi, isR_nI (by omega) hj, isR_nI (by omega) hk⟩, ix_nI (by omega), ix_nI (by omega), ix_nI (by omega)] at hQ
    have b1 := h1.nh hj
    have b2 := h1.nh hk
    refine k_sum (d := 19) (f k) h1.ki (by decide) (by omega) (by omega) (Or.inl ⟨rfl, rfl⟩) (by omega) (by omega) (fun N f2 h2 => ?_)
    exact k_put (h1.up1 f2 h2 (by decide)) hi (a := 19) (by decide) rfl (by rw [setK_s, h1.rg hj, h1.rg hk]) hQ
  · rw [if_neg (fun q => z q.2.2)] at hQ
    exact h1.same hQ
  · rw [if_neg (fun q => z q.2.1)] at hQ
    exact h1.same hQ
  · rw [if_neg (fun q => z q.1)] at hQ
    exact h1.same hQ
theorem k_sub {G : SH} {M : MS} {L : LV} {n w : Nat} {s : ST} {d a b : Int32} (h : KJ G M L n w s) {Q : Int32 → MS → Prop} (hQ : OQ G M L n w (oSub n w s d a b) Q) : w_X11_subtract G (kO L.1) d a b M Q := by
  unfold w_X11_subtract
  intro M1 e1
  obtain ⟨f, h1⟩ := h.go e1
  have hn := h1.n16
  unfold oSub at hQ
  refine k_noA h1 (fun i hi ei => k_noA h1 (fun j hj ej => k_noB h1 (fun k hk ek => ?_) (fun z => ?_)) (fun z => ?_)) (fun z => ?_)
  · subst ei ej ek
    rw [if_pos ⟨isR_nI (by omega) hi, isR_nI (by omega) hj, isR_nI (by omega) hk⟩, ix_nI (by omega), ix_nI (by omega), ix_nI (by omega)] at hQ
    have b1 := h1.nh hj
    have b2 := h1.nh hk
    refine k_sum (d := 19) (-(f k)) h1.ki (by decide) (by omega) (by omega) (Or.inr ⟨rfl, rfl⟩) (by omega) (by omega) (fun N f2 h2 => ?_)
    exact k_put (h1.up1 f2 h2 (by decide)) hi (a := 19) (by decide) rfl (by rw [setK_s, h1.rg hj, h1.rg hk]; exact (Int.sub_eq_add_neg).symm) hQ
  · rw [if_neg (fun q => z q.2.2)] at hQ
    exact h1.same hQ
  · rw [if_neg (fun q => z q.2.1)] at hQ
    exact h1.same hQ
  · rw [if_neg (fun q => z q.1)] at hQ
    exact h1.same hQ
theorem k_mul {G : SH} {M : MS} {L : LV} {n w : Nat} {s : ST} {d a b : Int32} (h : KJ G M L n w s) {Q : Int32 → MS → Prop} (hQ : OQ G M L n w (oMul n w s d a b) Q) : w_X11_multiply G (kO L.1) d a b M Q := by
  unfold w_X11_multiply
  intro M1 e1
  obtain ⟨f, h1⟩ := h.go e1
  have hn := h1.n16
  unfold oMul at hQ
  refine k_noA h1 (fun i hi ei => k_noA h1 (fun j hj ej => k_noB h1 (fun k hk ek => ?_) (fun z => ?_)) (fun z => ?_)) (fun z => ?_)
  · subst ei ej ek
    rw [if_pos ⟨isR_nI (by omega) hi, isR_nI (by omega) hj, isR_nI (by omega) hk⟩, ix_nI (by omega), ix_nI (by omega), ix_nI (by omega)] at hQ
    have b1 := h1.nh hj
    have b2 := h1.nh hk
    refine k_product (d := 19) h1.ki (by decide) (by omega) (by omega) (by omega) (by omega) (by omega) (fun N f2 h2 => ?_)
    exact k_put (h1.up1 f2 h2 (by decide)) hi (a := 19) (by decide) rfl (by rw [setK_s, h1.rg hj, h1.rg hk]) hQ
  · rw [if_neg (fun q => z q.2.2)] at hQ
    exact h1.same hQ
  · rw [if_neg (fun q => z q.2.1)] at hQ
    exact h1.same hQ
  · rw [if_neg (fun q => z q.1)] at hQ
    exact h1.same hQ
