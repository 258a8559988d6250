/-! THE REFERENCE: its rows of half limbs -/
abbrev HB : Nat := 65536
theorem HB1 : 1 < HB := by decide
abbrev KV : Type := Nat × Nat × Nat × Nat
abbrev kO (K : KV) : Nat := K.1
abbrev kH (K : KV) : Nat := K.2.1
abbrev kN (K : KV) : Nat := K.2.2.1
abbrev kS (K : KV) : Nat := K.2.2.2
def hd (M : MS) (K : KV) (r : Nat) : Nat → Nat := fun k => u32 (mA M (kH K) (260 * r + k))
def iS (z : Int) : Int32 := if z < 0 then -1 else if z = 0 then 0 else 1
def KM (G : SH) (M : MS) (K : KV) : Prop := (mR M (kO K) 0 = kH K ∧ mR M (kO K) 1 = kN K ∧ mR M (kO K) 2 = kS K) ∧ (G.2.2.1 (kH K) = 10400 ∧ G.2.2.1 (kN K) = 40 ∧ G.2.2.1 (kS K) = 40) ∧ kH K ≠ kN K ∧ kH K ≠ kS K ∧ kN K ≠ kS K
def Sl (M : MS) (K : KV) (r : Nat) (z : Int) : Prop := (mA M (kN K) r = nI (nl HB z.natAbs) ∧ mA M (kS K) r = iS z ∧ nl HB z.natAbs ≤ 259) ∧ vl HB (hd M K r) (nl HB z.natAbs) = z.natAbs ∧ ∀ k, k < nl HB z.natAbs → hd M K r k < HB
def KI (G : SH) (M : MS) (K : KV) (f : Nat → Int) : Prop := KM G M K ∧ ∀ r, r < 40 → Sl M K r (f r)
/-- all rows but those of P; all but d -/
def KY (G : SH) (M : MS) (K : KV) (P : Nat → Prop) (f : Nat → Int) : Prop := KM G M K ∧ ∀ r, r < 40 → ¬ P r → Sl M K r (f r)
abbrev KX (G : SH) (M : MS) (K : KV) (d : Nat) (f : Nat → Int) : Prop := KY G M K (fun r => r = d) f
def KF (K : KV) (M N : MS) : Prop := (∀ a k, mR N a k = mR M a k) ∧ (∀ a k, mJ N a k = mJ M a k) ∧ (∀ a k, mI N a k = mI M a k) ∧ ∀ q, q ≠ kH K → q ≠ kN K → q ≠ kS K → mA N q = mA M q
theorem KF.rf {K : KV} {M : MS} : KF K M M := ⟨fun _ _ => rfl, fun _ _ => rfl, fun _ _ => rfl, fun _ _ _ _ => rfl⟩
theorem KF.tr {K : KV} {M N P : MS} (h : KF K M N) (g : KF K N P) : KF K M P := ⟨fun a k => (g.1 a k).trans (h.1 a k), fun a k => (g.2.1 a k).trans (h.2.1 a k), fun a k => (g.2.2.1 a k).trans (h.2.2.1 a k), fun q a b c => (g.2.2.2 q a b c).trans (h.2.2.2 q a b c)⟩
theorem KF.wH {K : KV} {M : MS} (g : Nat → Int32) : KF K M (wA M (kH K) g) := ⟨fun _ _ => rfl, fun _ _ => rfl, fun _ _ => rfl, fun _ a _ _ => mA_wA_ne a⟩
theorem KF.wN {K : KV} {M : MS} (g : Nat → Int32) : KF K M (wA M (kN K) g) := ⟨fun _ _ => rfl, fun _ _ => rfl, fun _ _ => rfl, fun _ _ a _ => mA_wA_ne a⟩
theorem KF.wS {K : KV} {M : MS} (g : Nat → Int32) : KF K M (wA M (kS K) g) := ⟨fun _ _ => rfl, fun _ _ => rfl, fun _ _ => rfl, fun _ _ _ a => mA_wA_ne a⟩
def setK (f : Nat → Int) (d : Nat) (z : Int) : Nat → Int := fun i => if i = d then z else f i
theorem setK_s (f : Nat → Int) (d : Nat) (z : Int) : setK f d z d = z := if_pos rfl
theorem setK_n (f : Nat → Int) {d i : Nat} (z : Int) (h : i ≠ d) : setK f d z i = f i := if_neg h
theorem KI.x {G : SH} {M : MS} {K : KV} {f : Nat → Int} (h : KI G M K f) (d : Nat) : KX G M K d f := ⟨h.1, fun r hr _ => h.2 r hr⟩
theorem KX_close {G : SH} {M : MS} {K : KV} {d : Nat} {f : Nat → Int} {z : Int} (h : KX G M K d f) (hz : Sl M K d z) : KI G M K (setK f d z) := ⟨h.1, fun r hr => by
  by_cases e : r = d
  · rw [e, setK_s]; exact hz
  · rw [setK_n f z e]; exact h.2 r hr e⟩
theorem updN {g : Nat → Int32} {i j : Nat} {x : Int32} (h : j ≠ i) : upd g i x j = g j := if_neg h
theorem updS {g : Nat → Int32} {i : Nat} {x : Int32} : upd g i x i = x := if_pos rfl
theorem hd_wH {M : MS} {K : KV} {d k r j : Nat} {x : Int32} (h : 260 * r + j ≠ 260 * d + k) : hd (wA M (kH K) (upd (mA M (kH K)) (260 * d + k) x)) K r j = hd M K r j := by
  show u32 (mA (wA M (kH K) _) (kH K) (260 * r + j)) = u32 (mA M (kH K) (260 * r + j))
  rw [mA_wA, updN h]
theorem hd_wHs {M : MS} {K : KV} {d k : Nat} {x : Int32} : hd (wA M (kH K) (upd (mA M (kH K)) (260 * d + k) x)) K d k = u32 x := by
  show u32 (mA (wA M (kH K) _) (kH K) (260 * d + k)) = u32 x
  rw [mA_wA, updS]
theorem KY.wH {G : SH} {M : MS} {K : KV} {d k : Nat} {f : Nat → Int} {P : Nat → Prop} (h : KY G M K P f) (hP : P d) (hk : k < 260) (x : Int32) : KY G (wA M (kH K) (upd (mA M (kH K)) (260 * d + k) x)) K P f := by
  obtain ⟨⟨m1, m2, n1, n2, n3⟩, hs⟩ := h
  refine ⟨⟨m1, m2, n1, n2, n3⟩, fun r hr hrp => ?_⟩
  obtain ⟨⟨a1, a2, a3⟩, a4, a5⟩ := hs r hr hrp
  have hrd : r ≠ d := fun e => hrp (by rw [e]; exact hP)
  have e : ∀ j, j < nl HB (f r).natAbs → hd (wA M (kH K) (upd (mA M (kH K)) (260 * d + k) x)) K r j = hd M K r j := fun j hj => hd_wH (by omega)
  exact ⟨⟨by rw [mA_wA_ne n1.symm]; exact a1, by rw [mA_wA_ne n2.symm]; exact a2, a3⟩, by rw [vl_congr e]; exact a4, fun j hj => by rw [e j hj]; exact a5 j hj⟩
theorem KY.wN {G : SH} {M : MS} {K : KV} {d : Nat} {f : Nat → Int} {P : Nat → Prop} (h : KY G M K P f) (hP : P d) (x : Int32) : KY G (wA M (kN K) (upd (mA M (kN K)) d x)) K P f := by
  obtain ⟨⟨m1, m2, n1, n2, n3⟩, hs⟩ := h
  refine ⟨⟨m1, m2, n1, n2, n3⟩, fun r hr hrp => ?_⟩
  obtain ⟨⟨a1, a2, a3⟩, a4, a5⟩ := hs r hr hrp
  have hrd : r ≠ d := fun e => hrp (by rw [e]; exact hP)
  have e : hd (wA M (kN K) (upd (mA M (kN K)) d x)) K r = hd M K r := by unfold hd; rw [mA_wA_ne n1]
  exact ⟨⟨by rw [mA_wA, updN hrd]; exact a1, by rw [mA_wA_ne n3.symm]; exact a2, a3⟩, by rw [e]; exact a4, by rw [e]; exact a5⟩
theorem KY.wS {G : SH} {M : MS} {K : KV} {d : Nat} {f : Nat → Int} {P : Nat → Prop} (h : KY G M K P f) (hP : P d) (x : Int32) : KY G (wA M (kS K) (upd (mA M (kS K)) d x)) K P f := by
  obtain ⟨⟨m1, m2, n1, n2, n3⟩, hs⟩ := h
  refine ⟨⟨m1, m2, n1, n2, n3⟩, fun r hr hrp => ?_⟩
  obtain ⟨⟨a1, a2, a3⟩, a4, a5⟩ := hs r hr hrp
  have hrd : r ≠ d := fun e => hrp (by rw [e]; exact hP)
  have e : hd (wA M (kS K) (upd (mA M (kS K)) d x)) K r = hd M K r := by unfold hd; rw [mA_wA_ne n2]
  exact ⟨⟨by rw [mA_wA_ne n3]; exact a1, by rw [mA_wA, updN hrd]; exact a2, a3⟩, by rw [e]; exact a4, by rw [e]; exact a5⟩
theorem KY.wHx {G : SH} {M : MS} {K : KV} {d k : Nat} {f : Nat → Int} (h : KX G M K d f) (hk : k < 260) (x : Int32) : KX G (wA M (kH K) (upd (mA M (kH K)) (260 * d + k) x)) K d f := h.wH (d := d) rfl hk x
theorem KY.wNx {G : SH} {M : MS} {K : KV} {d : Nat} {f : Nat → Int} (h : KX G M K d f) (x : Int32) : KX G (wA M (kN K) (upd (mA M (kN K)) d x)) K d f := h.wN (d := d) rfl x
theorem KY.wSx {G : SH} {M : MS} {K : KV} {d : Nat} {f : Nat → Int} (h : KX G M K d f) (x : Int32) : KX G (wA M (kS K) (upd (mA M (kS K)) d x)) K d f := h.wS (d := d) rfl x
theorem KY.close {G : SH} {M : MS} {K : KV} {d : Nat} {f : Nat → Int} {z : Int} {P : Nat → Prop} (h : KY G M K P f) (hz : Sl M K d z) : KY G M K (fun r => P r ∧ r ≠ d) (setK f d z) := ⟨h.1, fun r hr hp => by
  by_cases e : r = d
  · rw [e, setK_s]; exact hz
  · rw [setK_n f z e]; exact h.2 r hr (fun q => hp ⟨q, e⟩)⟩
/-! half limbs of a number -/
def hl (v i : Nat) : Nat := v / HB ^ i % HB
theorem hl_lt (v i : Nat) : hl v i < 65536 := Nat.mod_lt _ (by decide)
theorem hl_big {v i : Nat} (h : nl HB v ≤ i) : hl v i = 0 := by
  unfold hl
  rw [Nat.div_eq_of_lt ((nl_le HB1 i v).mp h), Nat.zero_mod]
theorem vl_hl (v : Nat) : ∀ n, vl HB (hl v) n = v % HB ^ n
  | 0 => by rw [vl_0, Nat.pow_zero, Nat.mod_one]
  | n + 1 => by
    rw [vl_s, vl_hl v n, Nat.pow_succ, Nat.mod_mul]
    unfold hl
    rw [Nat.mul_comm]
theorem mod_h (v i : Nat) : v % HB ^ (i + 1) = v % HB ^ i + hl v i * HB ^ i := by rw [← vl_hl, vl_s, vl_hl]
theorem modH_all {v n : Nat} (h : nl HB v ≤ n) : v % HB ^ n = v := Nat.mod_eq_of_lt ((nl_le HB1 n v).mp h)
theorem powHB_pos (n : Nat) : 0 < HB ^ n := Nat.pow_pos (by decide)
theorem ixH {r k : Nat} : (260 : Int32) * nI r + nI k = nI (260 * r + k) := by
  rw [show (260 : Int32) = nI 260 from rfl, ← nI_add]
  congr 1
  exact (Int32.ofNat_mul 260 r).symm
theorem ixH0 {r : Nat} : (260 : Int32) * nI r = nI (260 * r) := (Int32.ofNat_mul 260 r).symm
theorem Sl.hl {M : MS} {K : KV} {r : Nat} {z : Int} (h : Sl M K r z) {i : Nat} (hi : i < nl HB z.natAbs) : hd M K r i = hl z.natAbs i := by
  have := vl_dig (f := hd M K r) (n := nl HB z.natAbs) (i := i) (by decide) h.2.2 hi
  rw [h.2.1] at this
  exact this.symm
theorem mA_hd {M : MS} {K : KV} {r k n : Nat} (h : hd M K r k = n) : mA M (kH K) (260 * r + k) = nI n := by
  rw [← h]
  exact (nI_u32 _).symm
/-- half limbs from i on as they are in v -/
def Ku (M : MS) (K : KV) (r v i : Nat) : Prop := mA M (kN K) r = nI (nl HB v) ∧ nl HB v ≤ 259 ∧ ∀ j, i ≤ j → j < nl HB v → hd M K r j = hl v j
theorem Sl.ku {M : MS} {K : KV} {r : Nat} {z : Int} (h : Sl M K r z) (i : Nat) : Ku M K r z.natAbs i := ⟨h.1.1, h.1.2.2, fun _ _ hj => h.hl hj⟩
theorem Ku.wH {G : SH} {M : MS} {K : KV} {r v i d : Nat} {x : Int32} (h : Ku M K r v i) (hK : KM G M K) (hi : i < 260) : Ku (wA M (kH K) (upd (mA M (kH K)) (260 * d + i) x)) K r v (i + 1) := by
  obtain ⟨a1, a2, a3⟩ := h
  exact ⟨by rw [mA_wA_ne hK.2.2.1.symm]; exact a1, a2, fun j h1 h2 => by rw [hd_wH (by omega)]; exact a3 j (by omega) h2⟩
theorem k_get {G : SH} {M : MS} {K : KV} {r k v i0 : Nat} (hK : KM G M K) (hr : r < 40) (hu : Ku M K r v i0) (hk : k < 2147483648) (h0 : i0 ≤ k) {Q : Int32 → MS → Prop} (hQ : Q (nI (hl v k)) M) : w_X11_get G (kO K) (nI r) (nI k) M Q := by
  unfold w_X11_get
  obtain ⟨⟨e0, e1, e2⟩, ⟨g0, g1, g2⟩, -⟩ := hK
  have hn := hu.2.1
  rw [e1, e0, g1, g0, cl (by omega), hu.1, nI_leI (by omega) (by omega), ixH]
  refine ⟨vp_in_nI hr (by decide), fun q => ?_, fun q => ⟨vp_in_nI (by omega) (by decide), ?_⟩⟩
  · rw [hl_big q] at hQ
    exact hQ
  · rw [cl (by omega), mA_hd (hu.2.2 k h0 (by omega))]
    exact hQ
theorem Int32_neg1 (c : Nat) : nI (c + 1) + (-1) = nI c := by
  rw [← nI_pred c]
  exact (Int32.sub_eq_add_neg ..).symm
theorem iS_0 : iS 0 = 0 := rfl
theorem nlH0 {v : Nat} : nl HB v = 0 ↔ v = 0 := by
  have := nl_le HB1 0 v
  rw [Nat.pow_zero] at this
  omega
theorem k_trim32 {G : SH} {M : MS} {K : KV} {d c : Nat} {f : Nat → Int} {P : Nat → Prop} {z : Int} {s : Int32} (hX : KY G M K P f) (hP : P d) (hd' : d < 40) (hc : nl HB z.natAbs = c) (hc2 : c ≤ 259) (hv : vl HB (hd M K d) c = z.natAbs) (hl' : ∀ k, k < c → hd M K d k < HB) (hs : z ≠ 0 → s = iS z) {Q : MS → Prop} (hQ : ∀ N, KF K M N → mA N (kH K) = mA M (kH K) → KY G N K (fun r => P r ∧ r ≠ d) (setK f d z) → Q N) : w_X11_trim_32 G Q (kO K) (nI d) s (nI c) M := by
  unfold w_X11_trim_32
  obtain ⟨⟨e0, e1, e2⟩, ⟨g0, g1, g2⟩, n1, n2, n3⟩ := id hX.1
  rw [e1, g1, cl (by omega)]
  refine ⟨vp_in_nI hd' (by decide), fun N eN => ?_⟩
  have x1 : KY G N K P f := by rw [eN]; exact hX.wN hP _
  have f1 : KF K M N := by rw [eN]; exact KF.wN _
  obtain ⟨⟨e0', e1', e2'⟩, -⟩ := id x1.1
  have go : ∀ (s' : Int32), s' = iS z → ∀ P' : MS, P' = wA N (kS K) (upd (mA N (kS K)) d s') → Q P' := by
    intro s' hs' P' eP
    have x2 : KY G P' K P f := by rw [eP]; exact x1.wS hP _
    have f2 : KF K N P' := by rw [eP]; exact KF.wS _
    refine hQ P' (f1.tr f2) (by rw [eP, mA_wA_ne n2, eN, mA_wA_ne n1]) (x2.close ⟨⟨?_, ?_, by omega⟩, ?_, ?_⟩)
    · rw [eP, mA_wA_ne n3, eN, mA_wA, updS, hc]
    · rw [eP, mA_wA, updS]; exact hs'
    · have e : hd P' K d = hd M K d := by
        unfold hd
        rw [eP, mA_wA_ne n2, eN, mA_wA_ne n1]
      rw [e, hc]; exact hv
    · have e : hd P' K d = hd M K d := by
        unfold hd
        rw [eP, mA_wA_ne n2, eN, mA_wA_ne n1]
      rw [e, hc]; exact hl'
  rw [e2', g2, nI_eq0 (by omega)]
  refine ⟨fun q => ⟨vp_in_nI hd' (by decide), fun P' eP => go s (hs (fun e => q (by rw [← hc, e]; exact nl_0 HB))) P' eP⟩, fun q => ⟨vp_in_nI hd' (by decide), fun P' eP => go 0 ?_ P' eP⟩⟩
  have : z = 0 := by
    have := nlH0.mp (hc.trans q)
    omega
  rw [this]
  rfl
theorem k_trim_loop {G : SH} {M : MS} {K : KV} {d : Nat} {f : Nat → Int} {P : Nat → Prop} {z : Int} {s : Int32} (hX : KY G M K P f) (hP : P d) (hd' : d < 40) (hz : nl HB z.natAbs ≤ 259) (hs : z ≠ 0 → s = iS z) {Q : MS → Prop} (hQ : ∀ N, KF K M N → mA N (kH K) = mA M (kH K) → KY G N K (fun r => P r ∧ r ≠ d) (setK f d z) → Q N) : ∀ (c : Nat), c ≤ 260 → vl HB (hd M K d) c = z.natAbs → (∀ k, k < c → hd M K d k < HB) → w_X11_trim_3 G Q (c + 1) (kO K) (nI d) s (nI c) M
  | 0, _, hv, hl' => by
    rw [w_X11_trim_3]
    refine ⟨fun _ => k_trim32 hX hP hd' ?_ (by decide) hv hl' hs hQ, fun q => absurd (by rw [nI_0]; decide) q⟩
    rw [← hv, vl_0, nl_0]
  | c + 1, hc, hv, hl' => by
    rw [w_X11_trim_3]
    obtain ⟨⟨e0, e1, e2⟩, ⟨g0, g1, g2⟩, n1, n2, n3⟩ := id hX.1
    rw [nI_le0 (by omega), ixH, e0, g0, show 260 * d + (c + 1) = 260 * d + c + 1 from rfl, nI_pred, cl (by omega), Int32_neg1]
    refine ⟨fun q => absurd q (by omega), fun _ => ⟨vp_in_nI (by omega) (by decide), fun q => ?_, fun q x ex => ?_⟩⟩
    · have hne : hd M K d c ≠ 0 := fun e => q (by rw [mA_hd e]; rfl)
      have hn : nl HB z.natAbs = c + 1 := by
        rw [← hv]
        exact nl_eq HB1 (vl_lt hl') (Or.inr (by rw [Nat.add_sub_cancel]; exact vl_ge hne))
      exact k_trim32 hX hP hd' hn (by omega) hv hl' hs hQ
    · have e : hd M K d c = 0 := by
        show u32 _ = 0
        rw [q]; rfl
      rw [ex]
      refine k_trim_loop hX hP hd' hz hs hQ c (by omega) ?_ (fun k hk => hl' k (by omega))
      rw [vl_s, e, Nat.zero_mul, Nat.add_zero] at hv
      exact hv
theorem k_trimY {G : SH} {M : MS} {K : KV} {d c : Nat} {f : Nat → Int} {P : Nat → Prop} (z : Int) {s i : Int32} (hX : KY G M K P f) (hP : P d) (hd' : d < 40) (hc : c ≤ 260) (hi : i = nI c) (hz : nl HB z.natAbs ≤ 259) (hv : vl HB (hd M K d) c = z.natAbs) (hl' : ∀ k, k < c → hd M K d k < HB) (hs : z ≠ 0 → s = iS z) {Q : MS → Prop} (hQ : ∀ N, KF K M N → mA N (kH K) = mA M (kH K) → KY G N K (fun r => P r ∧ r ≠ d) (setK f d z) → Q N) : w_X11_trim G (kO K) (nI d) i s M Q := by
  unfold w_X11_trim
  rw [hi]
  exact ⟨c + 1, k_trim_loop hX hP hd' hz hs hQ c hc hv hl'⟩
theorem KY.ki {G : SH} {M : MS} {K : KV} {f : Nat → Int} {P : Nat → Prop} (h : KY G M K P f) (hP : ∀ r, ¬ P r) : KI G M K f := ⟨h.1, fun r hr => h.2 r hr (hP r)⟩
theorem k_trim {G : SH} {M : MS} {K : KV} {d c : Nat} {f : Nat → Int} (z : Int) {s i : Int32} (hX : KX G M K d f) (hd' : d < 40) (hc : c ≤ 260) (hi : i = nI c) (hz : nl HB z.natAbs ≤ 259) (hv : vl HB (hd M K d) c = z.natAbs) (hl' : ∀ k, k < c → hd M K d k < HB) (hs : z ≠ 0 → s = iS z) {Q : MS → Prop} (hQ : ∀ N, KF K M N → KI G N K (setK f d z) → Q N) : w_X11_trim G (kO K) (nI d) i s M Q :=
  k_trimY (P := fun r => r = d) z hX rfl hd' hc hi hz hv hl' hs (fun N f1 _ h1 => hQ N f1 (h1.ki (fun _ q => q.2 q.1)))
theorem iS_pos {z : Int} (h : 0 < z) : iS z = 1 := by
  unfold iS
  rw [if_neg (by omega), if_neg (by omega)]
theorem iS_neg {z : Int} (h : z < 0) : iS z = -1 := by
  unfold iS
  rw [if_pos h]
theorem iS_eq0 {z : Int} : iS z = 0 ↔ z = 0 := by
  unfold iS
  by_cases h : z < 0
  · rw [if_pos h]
    exact ⟨fun q => absurd q (by decide), fun q => by omega⟩
  · rw [if_neg h]
    by_cases h2 : z = 0
    · rw [if_pos h2]; exact ⟨fun _ => h2, fun _ => rfl⟩
    · rw [if_neg h2]; exact ⟨fun q => absurd q (by decide), fun q => absurd q h2⟩
theorem k_small {G : SH} {M : MS} {K : KV} {d c : Nat} {f : Nat → Int} {i : Int32} (hI : KI G M K f) (hd' : d < 40) (hc : c < HB) (hi : i = nI c) {Q : MS → Prop} (hQ : ∀ N, KF K M N → KI G N K (setK f d (c : Int)) → Q N) : w_X11_small G (kO K) (nI d) i M Q := by
  have hX := hI.x d
  unfold w_X11_small
  obtain ⟨⟨e0, e1, e2⟩, ⟨g0, g1, g2⟩, n1, n2, n3⟩ := id hX.1
  have hc' : c < 65536 := hc
  have hn : nl HB ((c : Int)).natAbs = if c = 0 then 0 else 1 := by
    rw [Int.natAbs_natCast]
    by_cases q : c = 0
    · rw [if_pos q, q, nl_0]
    · rw [if_neg q]
      exact nl_eq HB1 (by rw [Nat.pow_one]; exact hc) (Or.inr (by rw [Nat.sub_self, Nat.pow_zero]; omega))
  rw [hi, nI_eq0 (by omega), e1]
  have go : ∀ (j : Int32), j = nI (nl HB ((c : Int)).natAbs) → w_X11_small_14 G Q (kO K) (nI d) (nI c) j (nI d) (kN K) M := by
    intro j hj
    unfold w_X11_small_14
    rw [g1, cl (by omega)]
    refine ⟨vp_in_nI hd' (by decide), fun N eN => ?_⟩
    have x1 : KX G N K d f := by rw [eN]; exact hX.wNx _
    have f1 : KF K M N := by rw [eN]; exact KF.wN _
    rw [ixH0, x1.1.1.1, g0, cl (by omega)]
    refine ⟨vp_in_nI (by omega) (by decide), fun P eP => ?_⟩
    have x2 : KX G P K d f := by rw [eP]; exact x1.wHx (k := 0) (by decide) _
    have f2 : KF K N P := by rw [eP]; exact KF.wH _
    have fin : ∀ (s : Int32), s = iS c → ∀ S : MS, S = wA P (kS K) (upd (mA P (kS K)) d s) → Q S := by
      intro s hs S eS
      have x3 : KX G S K d f := by rw [eS]; exact x2.wSx _
      have f3 : KF K P S := by rw [eS]; exact KF.wS _
      have e : hd S K d = hd P K d := by
        unfold hd
        rw [eS, mA_wA_ne n2]
      have e2 : hd P K d 0 = c := by
        rw [eP]
        show hd (wA N (kH K) (upd (mA N (kH K)) (260 * d + 0) (nI c))) K d 0 = c
        rw [hd_wHs, u32_nI_lt (by omega)]
      refine hQ S ((f1.tr f2).tr f3) (KX_close x3 ⟨⟨?_, ?_, ?_⟩, ?_, ?_⟩)
      · rw [eS, mA_wA_ne n3, eP, mA_wA_ne n1.symm, eN, mA_wA, updS]; exact hj
      · rw [eS, mA_wA, updS]; exact hs
      · rw [hn]; split <;> omega
      · rw [hn, e, Int.natAbs_natCast]
        by_cases q : c = 0
        · rw [if_pos q, vl_0]; omega
        · rw [if_neg q, vl_s, vl_0, e2, Nat.pow_zero]; omega
      · rw [hn, e]
        intro k hk
        by_cases q : c = 0
        · rw [if_pos q] at hk; omega
        · rw [if_neg q] at hk
          rw [show k = 0 by omega, e2]; exact hc
    rw [nI_eq0 (by omega), x2.1.1.2.2, g2]
    refine ⟨fun q => ⟨vp_in_nI hd' (by decide), fun S eS => fin 1 (iS_pos (by omega)).symm S eS⟩, fun q => ⟨vp_in_nI hd' (by decide), fun S eS => fin 0 ?_ S eS⟩⟩
    rw [q]; rfl
  refine ⟨fun q => go 1 ?_, fun q => go 0 ?_⟩
  · rw [hn, if_neg q]; rfl
  · rw [hn, if_pos q]; rfl
