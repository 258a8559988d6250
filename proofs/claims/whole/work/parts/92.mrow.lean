/-! once more, with the rows that stay as they were (wip/gen/rowframe.py) -/
def KQ (K : KV) (d : Nat) (M N : MS) : Prop := KF K M N ∧ ∀ r t, r ≠ d → t < 260 → hd N K r t = hd M K r t
theorem KQ.rf {K : KV} {d : Nat} {M : MS} : KQ K d M M := ⟨KF.rf, fun _ _ _ _ => rfl⟩
theorem KQ.tr {K : KV} {d : Nat} {M N P : MS} (h : KQ K d M N) (g : KQ K d N P) : KQ K d M P := ⟨h.1.tr g.1, fun r t a b => (g.2 r t a b).trans (h.2 r t a b)⟩
theorem KQ.wH {K : KV} {d k : Nat} {M : MS} (hk : k < 260) (x : Int32) : KQ K d M (wA M (kH K) (upd (mA M (kH K)) (260 * d + k) x)) := ⟨KF.wH _, fun r t a b => hd_wH (by omega)⟩
theorem KQ.wN {G : SH} {K : KV} {d : Nat} {M : MS} (h : KM G M K) (g : Nat → Int32) : KQ K d M (wA M (kN K) g) := ⟨KF.wN _, fun r t a b => by unfold hd; rw [mA_wA_ne h.2.2.1]⟩
theorem KQ.wS {G : SH} {K : KV} {d : Nat} {M : MS} (h : KM G M K) (g : Nat → Int32) : KQ K d M (wA M (kS K) g) := ⟨KF.wS _, fun r t a b => by unfold hd; rw [mA_wA_ne h.2.2.2.1]⟩
theorem q_trim32 {G : SH} {M : MS} {K : KV} {d c : Nat} {f : Nat → Int} {P : Nat → Prop} {z : Int} {s : Int32} (hX : KY G M K P f) (hP : P d) (hd' : d < 40) (hc : nl HB z.natAbs = c) (hc2 : c ≤ 259) (hv : vl HB (hd M K d) c = z.natAbs) (hl' : ∀ k, k < c → hd M K d k < HB) (hs : z ≠ 0 → s = iS z) {Q : MS → Prop} (hQ : ∀ N, KQ K d M N → mA N (kH K) = mA M (kH K) → KY G N K (fun r => P r ∧ r ≠ d) (setK f d z) → Q N) : w_X11_trim_32 G Q (kO K) (nI d) s (nI c) M := by
  unfold w_X11_trim_32
  obtain ⟨⟨e0, e1, e2⟩, ⟨g0, g1, g2⟩, n1, n2, n3⟩ := id hX.1
  rw [e1, g1, cl (by omega)]
  refine ⟨vp_in_nI hd' (by decide), fun N eN => ?_⟩
  have x1 : KY G N K P f := by rw [eN]; exact hX.wN hP _
  have f1 : KQ K d M N := by rw [eN]; exact KQ.wN hX.1 _
  obtain ⟨⟨e0', e1', e2'⟩, -⟩ := id x1.1
  have go : ∀ (s' : Int32), s' = iS z → ∀ P' : MS, P' = wA N (kS K) (upd (mA N (kS K)) d s') → Q P' := by
    intro s' hs' P' eP
    have x2 : KY G P' K P f := by rw [eP]; exact x1.wS hP _
    have f2 : KQ K d N P' := by rw [eP]; exact KQ.wS x1.1 _
    refine hQ P' (f1.tr f2) (by rw [eP, mA_wA_ne n2, eN, mA_wA_ne n1]) (x2.close ⟨⟨?_, ?_, by omega⟩, ?_, ?_⟩)
    · rw [eP, mA_wA_ne n3, eN, mA_wA, updS, hc]
    · rw [eP, mA_wA, updS]; exact hs'
    · have e : hd P' K d = hd M K d := by
        unfold hd
        rw [eP, mA_wA_ne n2, eN, mA_wA_ne n1]
      rw [e, hc]; exact hv
    · have e : hd P' K d = hd M K d := by
        unfold hd
        rw [eP, mA_wA_ne n2, eN, mA_wA_ne n1]
      rw [e, hc]; exact hl'
  rw [e2', g2, nI_eq0 (by omega)]
  refine ⟨fun q => ⟨vp_in_nI hd' (by decide), fun P' eP => go s (hs (fun e => q (by rw [← hc, e]; exact nl_0 HB))) P' eP⟩, fun q => ⟨vp_in_nI hd' (by decide), fun P' eP => go 0 ?_ P' eP⟩⟩
  have : z = 0 := by
    have := nlH0.mp (hc.trans q)
    omega
  rw [this]
  rfl
theorem q_trim_loop {G : SH} {M : MS} {K : KV} {d : Nat} {f : Nat → Int} {P : Nat → Prop} {z : Int} {s : Int32} (hX : KY G M K P f) (hP : P d) (hd' : d < 40) (hz : nl HB z.natAbs ≤ 259) (hs : z ≠ 0 → s = iS z) {Q : MS → Prop} (hQ : ∀ N, KQ K d M N → mA N (kH K) = mA M (kH K) → KY G N K (fun r => P r ∧ r ≠ d) (setK f d z) → Q N) : ∀ (c : Nat), c ≤ 260 → vl HB (hd M K d) c = z.natAbs → (∀ k, k < c → hd M K d k < HB) → w_X11_trim_3 G Q (c + 1) (kO K) (nI d) s (nI c) M
  | 0, _, hv, hl' => by
    rw [w_X11_trim_3]
    refine ⟨fun _ => q_trim32 hX hP hd' ?_ (by decide) hv hl' hs hQ, fun q => absurd (by rw [nI_0]; decide) q⟩
    rw [← hv, vl_0, nl_0]
  | c + 1, hc, hv, hl' => by
    rw [w_X11_trim_3]
    obtain ⟨⟨e0, e1, e2⟩, ⟨g0, g1, g2⟩, n1, n2, n3⟩ := id hX.1
    rw [nI_le0 (by omega), ixH, e0, g0, show 260 * d + (c + 1) = 260 * d + c + 1 from rfl, nI_pred, cl (by omega), Int32_neg1]
    refine ⟨fun q => absurd q (by omega), fun _ => ⟨vp_in_nI (by omega) (by decide), fun q => ?_, fun q x ex => ?_⟩⟩
    · have hne : hd M K d c ≠ 0 := fun e => q (by rw [mA_hd e]; rfl)
      have hn : nl HB z.natAbs = c + 1 := by
        rw [← hv]
        exact nl_eq HB1 (vl_lt hl') (Or.inr (by rw [Nat.add_sub_cancel]; exact vl_ge hne))
      exact q_trim32 hX hP hd' hn (by omega) hv hl' hs hQ
    · have e : hd M K d c = 0 := by
        show u32 _ = 0
        rw [q]; rfl
      rw [ex]
      refine q_trim_loop hX hP hd' hz hs hQ c (by omega) ?_ (fun k hk => hl' k (by omega))
      rw [vl_s, e, Nat.zero_mul, Nat.add_zero] at hv
      exact hv
theorem q_trimY {G : SH} {M : MS} {K : KV} {d c : Nat} {f : Nat → Int} {P : Nat → Prop} (z : Int) {s i : Int32} (hX : KY G M K P f) (hP : P d) (hd' : d < 40) (hc : c ≤ 260) (hi : i = nI c) (hz : nl HB z.natAbs ≤ 259) (hv : vl HB (hd M K d) c = z.natAbs) (hl' : ∀ k, k < c → hd M K d k < HB) (hs : z ≠ 0 → s = iS z) {Q : MS → Prop} (hQ : ∀ N, KQ K d M N → mA N (kH K) = mA M (kH K) → KY G N K (fun r => P r ∧ r ≠ d) (setK f d z) → Q N) : w_X11_trim G (kO K) (nI d) i s M Q := by
  unfold w_X11_trim
  rw [hi]
  exact ⟨c + 1, q_trim_loop hX hP hd' hz hs hQ c hc hv hl'⟩
theorem q_trim {G : SH} {M : MS} {K : KV} {d c : Nat} {f : Nat → Int} (z : Int) {s i : Int32} (hX : KX G M K d f) (hd' : d < 40) (hc : c ≤ 260) (hi : i = nI c) (hz : nl HB z.natAbs ≤ 259) (hv : vl HB (hd M K d) c = z.natAbs) (hl' : ∀ k, k < c → hd M K d k < HB) (hs : z ≠ 0 → s = iS z) {Q : MS → Prop} (hQ : ∀ N, KQ K d M N → KI G N K (setK f d z) → Q N) : w_X11_trim G (kO K) (nI d) i s M Q :=
  q_trimY (P := fun r => r = d) z hX rfl hd' hc hi hz hv hl' hs (fun N f1 _ h1 => hQ N f1 (h1.ki (fun _ q => q.2 q.1)))
theorem q_small {G : SH} {M : MS} {K : KV} {d c : Nat} {f : Nat → Int} {i : Int32} (hI : KI G M K f) (hd' : d < 40) (hc : c < HB) (hi : i = nI c) {Q : MS → Prop} (hQ : ∀ N, KQ K d M N → KI G N K (setK f d (c : Int)) → Q N) : w_X11_small G (kO K) (nI d) i M Q := by
  have hX := hI.x d
  unfold w_X11_small
  obtain ⟨⟨e0, e1, e2⟩, ⟨g0, g1, g2⟩, n1, n2, n3⟩ := id hX.1
  have hc' : c < 65536 := hc
  have hn : nl HB ((c : Int)).natAbs = if c = 0 then 0 else 1 := by
    rw [Int.natAbs_natCast]
    by_cases q : c = 0
    · rw [if_pos q, q, nl_0]
    · rw [if_neg q]
      exact nl_eq HB1 (by rw [Nat.pow_one]; exact hc) (Or.inr (by rw [Nat.sub_self, Nat.pow_zero]; omega))
  rw [hi, nI_eq0 (by omega), e1]
  have go : ∀ (j : Int32), j = nI (nl HB ((c : Int)).natAbs) → w_X11_small_14 G Q (kO K) (nI d) (nI c) j (nI d) (kN K) M := by
    intro j hj
    unfold w_X11_small_14
    rw [g1, cl (by omega)]
    refine ⟨vp_in_nI hd' (by decide), fun N eN => ?_⟩
    have x1 : KX G N K d f := by rw [eN]; exact hX.wNx _
    have f1 : KQ K d M N := by rw [eN]; exact KQ.wN hX.1 _
    rw [ixH0, x1.1.1.1, g0, cl (by omega)]
    refine ⟨vp_in_nI (by omega) (by decide), fun P eP => ?_⟩
    have x2 : KX G P K d f := by rw [eP]; exact x1.wHx (k := 0) (by decide) _
    have f2 : KQ K d N P := by rw [eP]; exact KQ.wH (k := 0) (by decide) _
    have fin : ∀ (s : Int32), s = iS c → ∀ S : MS, S = wA P (kS K) (upd (mA P (kS K)) d s) → Q S := by
      intro s hs S eS
      have x3 : KX G S K d f := by rw [eS]; exact x2.wSx _
      have f3 : KQ K d P S := by rw [eS]; exact KQ.wS x2.1 _
      have e : hd S K d = hd P K d := by
        unfold hd
        rw [eS, mA_wA_ne n2]
      have e2 : hd P K d 0 = c := by
        rw [eP]
        show hd (wA N (kH K) (upd (mA N (kH K)) (260 * d + 0) (nI c))) K d 0 = c
        rw [hd_wHs, u32_nI_lt (by omega)]
      refine hQ S ((f1.tr f2).tr f3) (KX_close x3 ⟨⟨?_, ?_, ?_⟩, ?_, ?_⟩)
      · rw [eS, mA_wA_ne n3, eP, mA_wA_ne n1.symm, eN, mA_wA, updS]; exact hj
      · rw [eS, mA_wA, updS]; exact hs
      · rw [hn]; split <;> omega
      · rw [hn, e, Int.natAbs_natCast]
        by_cases q : c = 0
        · rw [if_pos q, vl_0]; omega
        · rw [if_neg q, vl_s, vl_0, e2, Nat.pow_zero]; omega
      · rw [hn, e]
        intro k hk
        by_cases q : c = 0
        · rw [if_pos q] at hk; omega
        · rw [if_neg q] at hk
          rw [show k = 0 by omega, e2]; exact hc
    rw [nI_eq0 (by omega), x2.1.1.2.2, g2]
    refine ⟨fun q => ⟨vp_in_nI hd' (by decide), fun S eS => fin 1 (iS_pos (by omega)).symm S eS⟩, fun q => ⟨vp_in_nI hd' (by decide), fun S eS => fin 0 ?_ S eS⟩⟩
    rw [q]; rfl
  refine ⟨fun q => go 1 ?_, fun q => go 0 ?_⟩
  · rw [hn, if_neg q]; rfl
  · rw [hn, if_pos q]; rfl
theorem q_copy_loop {G : SH} {K : KV} {d a : Nat} {f : Nat → Int} (hd' : d < 40) (ha : a < 40) (had : a ≠ d) {Q : MS → Prop} : ∀ (t i : Nat) (M : MS), i + t = nl HB (f a).natAbs → KX G M K d f → (∀ j, j < i → hd M K d j = hl (f a).natAbs j) → (∀ N, KQ K d M N → KI G N K (setK f d (f a)) → Q N) → w_X11_copy_2 G Q (t + 1) (kO K) (nI d) (nI a) (nI i) M
  | 0, i, M, hi, hX, hj, hQ => by
    obtain ⟨⟨e0, e1, e2⟩, ⟨g0, g1, g2⟩, n1, n2, n3⟩ := id hX.1
    obtain ⟨⟨a1, a2, a3⟩, a4, a5⟩ := id (hX.2 a ha had)
    rw [w_X11_copy_2, e1, g1, cl (c := a) (by omega), cl (c := d) (by omega), a1, nI_leI (by omega) (by omega)]
    refine ⟨vp_in_nI ha (by decide), fun _ => ⟨vp_in_nI ha (by decide), vp_in_nI hd' (by decide), fun N eN => ?_⟩, fun q => absurd (by omega) q⟩
    have x1 : KX G N K d f := by rw [eN]; exact hX.wNx _
    have f1 : KQ K d M N := by rw [eN]; exact KQ.wN hX.1 _
    rw [x1.1.1.2.2, g2, (x1.2 a ha had).1.2.1]
    refine ⟨vp_in_nI ha (by decide), vp_in_nI hd' (by decide), fun P eP => ?_⟩
    have x2 : KX G P K d f := by rw [eP]; exact x1.wSx _
    have f2 : KQ K d N P := by rw [eP]; exact KQ.wS x1.1 _
    have e : hd P K d = hd M K d := by
      unfold hd
      rw [eP, mA_wA_ne n2, eN, mA_wA_ne n1]
    refine hQ P (f1.tr f2) (KX_close x2 ⟨⟨?_, ?_, a3⟩, ?_, fun k hk => ?_⟩)
    · rw [eP, mA_wA_ne n3, eN, mA_wA, updS]
    · rw [eP, mA_wA, updS]
    · rw [e, vl_congr (g := hl (f a).natAbs) (fun j h => hj j (by omega)), vl_hl, modH_all (Nat.le_refl _)]
    · rw [e, hj k (by omega)]; exact hl_lt _ _
  | t + 1, i, M, hi, hX, hj, hQ => by
    obtain ⟨⟨e0, e1, e2⟩, ⟨g0, g1, g2⟩, n1, n2, n3⟩ := id hX.1
    have sa := hX.2 a ha had
    obtain ⟨⟨a1, a2, a3⟩, a4, a5⟩ := id sa
    rw [w_X11_copy_2, e1, e0, g1, g0, cl (c := a) (by omega), a1, nI_leI (by omega) (by omega), ixH, ixH]
    refine ⟨vp_in_nI ha (by decide), fun q => absurd q (by omega), fun _ => ⟨vp_in_nI (by omega) (by decide), vp_in_nI (by omega) (by decide), fun N eN x ex => ?_⟩⟩
    rw [cl (by omega), cl (by omega)] at eN
    have x1 : KX G N K d f := by rw [eN]; exact hX.wHx (by omega) _
    have f1 : KQ K d M N := by rw [eN]; exact KQ.wH (by omega) _
    rw [ex, nI_1]
    refine q_copy_loop hd' ha had t (i + 1) N (by omega) x1 (fun j h => ?_) (fun P f2 hP => hQ P (f1.tr f2) hP)
    by_cases e : j = i
    · rw [e, eN, hd_wHs]; exact sa.hl (by omega)
    · rw [eN, hd_wH (by omega)]; exact hj j (by omega)
theorem q_copy_self {G : SH} {M : MS} {K : KV} {d : Nat} {f : Nat → Int} (hd' : d < 40) (hI : KI G M K f) {Q : MS → Prop} (hQ : Q M) : ∀ (t i : Nat), i + t = nl HB (f d).natAbs → w_X11_copy_2 G Q (t + 1) (kO K) (nI d) (nI d) (nI i) M
  | 0, i, hi => by
    obtain ⟨⟨e0, e1, e2⟩, ⟨g0, g1, g2⟩, n1, n2, n3⟩ := id hI.1
    obtain ⟨⟨a1, a2, a3⟩, a4, a5⟩ := id (hI.2 d hd')
    rw [w_X11_copy_2, e1, g1, cl (c := d) (by omega), a1, nI_leI (by omega) (by omega)]
    refine ⟨vp_in_nI hd' (by decide), fun _ => ⟨vp_in_nI hd' (by decide), vp_in_nI hd' (by decide), fun N eN => ?_⟩, fun q => absurd (by omega) q⟩
    rw [fa_upd_same a1, wA_same] at eN
    subst eN
    rw [e2, g2]
    refine ⟨vp_in_nI hd' (by decide), vp_in_nI hd' (by decide), fun P eP => ?_⟩
    rw [fa_upd_same rfl, wA_same] at eP
    rw [eP]; exact hQ
  | t + 1, i, hi => by
    obtain ⟨⟨e0, e1, e2⟩, ⟨g0, g1, g2⟩, n1, n2, n3⟩ := id hI.1
    obtain ⟨⟨a1, a2, a3⟩, a4, a5⟩ := id (hI.2 d hd')
    rw [w_X11_copy_2, e1, e0, g1, g0, cl (c := d) (by omega), a1, nI_leI (by omega) (by omega), ixH]
    refine ⟨vp_in_nI hd' (by decide), fun q => absurd q (by omega), fun _ => ⟨vp_in_nI (by omega) (by decide), vp_in_nI (by omega) (by decide), fun N eN x ex => ?_⟩⟩
    rw [fa_upd_same rfl, wA_same] at eN
    rw [ex, nI_1, eN]
    exact q_copy_self hd' hI hQ t (i + 1) (by omega)
theorem q_copy {G : SH} {M : MS} {K : KV} {d a : Nat} {f : Nat → Int} (hI : KI G M K f) (hd' : d < 40) (ha : a < 40) {Q : MS → Prop} (hQ : ∀ N, KQ K d M N → KI G N K (setK f d (f a)) → Q N) : w_X11_copy G (kO K) (nI d) (nI a) M Q := by
  unfold w_X11_copy
  refine ⟨nl HB (f a).natAbs + 1, ?_⟩
  rw [← nI_0]
  by_cases had : a = d
  · subst had
    refine q_copy_self hd' hI (hQ M KQ.rf ?_) _ 0 (by omega)
    exact KX_close (hI.x a) (hI.2 a hd')
  · exact q_copy_loop hd' ha had _ 0 M (by omega) (hI.x d) (fun j hj => absurd hj (Nat.not_lt_zero _)) hQ
theorem q_pi_loop {G : SH} {Mi : MS} {K : KV} {d a b i c va vb : Nat} {f : Nat → Int} {v4 : Int32} (hd' : d < 40) (ha : a < 40) (hb : b < 40) (had : a ≠ d) (hbd : b ≠ d) (hva : (f a).natAbs = va) (hvb : (f b).natAbs = vb) (hi : i < nl HB va) (hc : i + nl HB vb < c) (hc2 : c ≤ 259) {K48 : Nat → Int32 → Int32 → Int32 → Int32 → Int32 → MS → Prop} {Q : MS → Prop}
    (hK : ∀ N, KQ K d Mi N → KX G N K d f → (∀ k, k < c → hd N K d k < HB) → (∀ k, i + nl HB vb + 1 ≤ k → hd N K d k = hd Mi K d k) → vl HB (hd N K d) (i + nl HB vb + 1) = vl HB (hd Mi K d) (i + nl HB vb) + hl va i * vb * HB ^ i → K48 (kO K) (nI d) (nI a) (nI b) v4 (nI (i + 1)) N) :
    ∀ (t j : Nat) (M : MS) (cy : Nat), j + t = nl HB vb → KQ K d Mi M → KX G M K d f → cy < 65536 → (∀ k, k < c → hd M K d k < HB) → vl HB (hd M K d) (i + j) + cy * HB ^ (i + j) = vl HB (hd Mi K d) (i + j) + hl va i * (vb % HB ^ j) * HB ^ i → (∀ k, i + j ≤ k → hd M K d k = hd Mi K d k) → w_X11_product_65 G K48 Q (t + 1) (kO K) (nI d) (nI a) (nI b) v4 (nI i) (lN cy) (nI j) M
  | 0, j, M, cy, hj, f1, hX, hcy, hlt, hv, hup => by
    obtain ⟨⟨e0, e1, e2⟩, ⟨g0, g1, g2⟩, n1, n2, n3⟩ := id hX.1
    have sb := hX.2 b hb hbd
    have b3 := sb.1.2.2
    rw [hvb] at b3
    obtain rfl : j = nl HB vb := by omega
    rw [w_X11_product_65, e1, e0, g1, g0, cl (c := b) (by omega), sb.1.1, hvb, nI_leI (by omega) (by omega), ixH, nI_add, lN_i, Nat.add_assoc]
    refine ⟨vp_in_nI hb (by decide), fun _ => ⟨vp_in_nI hb (by decide), vp_in_nI (by omega) (by decide), fun N eN x ex => ?_⟩, fun q => absurd (Nat.le_refl _) q⟩
    rw [cl (by omega)] at eN
    rw [ex, nI_1]
    have x1 : KX G N K d f := by rw [eN]; exact hX.wHx (by omega) _
    have f2 : KQ K d M N := by rw [eN]; exact KQ.wH (by omega) _
    refine hK N (f1.tr f2) x1 (by rw [eN]; exact hdlt_any hlt (by rw [u32_nI_lt (by omega)]; exact hcy)) (fun k hk => by rw [eN, hd_wH (by omega)]; exact hup k (by omega)) ?_
    rw [vl_s, eN, vlH_put (Nat.le_refl _), hd_wHs, u32_nI_lt (by omega), hv, modH_all (Nat.le_refl _)]
  | t + 1, j, M, cy, hj, f1, hX, hcy, hlt, hv, hup => by
    obtain ⟨⟨e0, e1, e2⟩, ⟨g0, g1, g2⟩, n1, n2, n3⟩ := id hX.1
    have sa := hX.2 a ha had
    have sb := hX.2 b hb hbd
    have a3 := sa.1.2.2
    have b3 := sb.1.2.2
    rw [hva] at a3
    rw [hvb] at b3
    have la := hl_lt va i
    have lb := hl_lt vb j
    have hab := mulH_le la lb
    have ldl : hd M K d (i + j) < 65536 := hlt (i + j) (by omega)
    have hdm := hup (i + j) (Nat.le_refl _)
    have ea := mA_hd (sa.hl (i := i) (by rw [hva]; exact hi))
    have eb := mA_hd (sb.hl (i := j) (by rw [hvb]; omega))
    have ed := mA_hd (M := M) (K := K) (r := d) (k := i + j) rfl
    rw [hva] at ea
    rw [hvb] at eb
    rw [w_X11_product_65, e1, e0, g1, g0, cl (c := b) (by omega), sb.1.1, hvb, nI_leI (by omega) (by omega), ixH, ixH, ixH, nI_add (260 * d + i) j, Nat.add_assoc (260 * d) i j, cl (c := 260 * a + i) (by omega), cl (c := 260 * b + j) (by omega), cl (c := 260 * d + (i + j)) (by omega), ea, eb, ed, nI_l (by omega), nI_l (by omega), nI_l (by omega), lN_mul, lN_add, lN_add]
    refine ⟨vp_in_nI hb (by decide), fun q => absurd q (by omega), fun _ => ⟨vp_in_nI (by omega) (by decide), vp_in_nI (by omega) (by decide), vp_in_nI (by omega) (by decide), fun y ey => ⟨vp_in_nI (by omega) (by decide), fun N eN z ez x ex => ?_⟩⟩⟩
    generalize hS : cy + (hl va i * hl vb j + hd M K d (i + j)) = S at ey
    rw [ey, maskH (by omega), lN_i] at eN
    rw [ey, shr_l16 (by omega)] at ez
    have x1 : KX G N K d f := by rw [eN]; exact hX.wHx (by omega) _
    have f2 : KQ K d M N := by rw [eN]; exact KQ.wH (by omega) _
    rw [ex, nI_1, ez]
    refine q_pi_loop hd' ha hb had hbd hva hvb hi hc hc2 hK t (j + 1) N (S / 65536) (by omega) (f1.tr f2) x1 (by omega) (by rw [eN]; exact hdlt_any hlt (by rw [u32_nI_lt (by omega)]; show S % 65536 < 65536; omega)) ?_ (fun k hk => by rw [eN, hd_wH (by omega)]; exact hup k (by omega))
    rw [← Nat.add_assoc, vl_s, vl_s, eN, vlH_put (Nat.le_refl _), hd_wHs, u32_nI_lt (by omega), mod_h, Nat.pow_succ]
    have hs2 : 65536 * (S / 65536) + S % 65536 = S := Nat.div_add_mod _ _
    have e : S % 65536 * HB ^ (i + j) + S / 65536 * (HB ^ (i + j) * HB) = S * HB ^ (i + j) := by
      calc S % 65536 * HB ^ (i + j) + S / 65536 * (HB ^ (i + j) * HB) = (65536 * (S / 65536) + S % 65536) * HB ^ (i + j) := by show _ + S / 65536 * (HB ^ (i + j) * 65536) = _; grind
        _ = S * HB ^ (i + j) := by rw [hs2]
    have e2 : S * HB ^ (i + j) = cy * HB ^ (i + j) + hl va i * hl vb j * HB ^ (i + j) + hd Mi K d (i + j) * HB ^ (i + j) := by rw [← hS, hdm]; grind
    have e3 : hl va i * (vb % HB ^ j + hl vb j * HB ^ j) * HB ^ i = hl va i * (vb % HB ^ j) * HB ^ i + hl va i * hl vb j * HB ^ (i + j) := by rw [Nat.pow_add]; grind
    omega
theorem q_po_loop {G : SH} {K : KV} {d a b c va vb : Nat} {f : Nat → Int} (hd' : d < 40) (ha : a < 40) (hb : b < 40) (had : a ≠ d) (hbd : b ≠ d) (hva : (f a).natAbs = va) (hvb : (f b).natAbs = vb) (hc : nl HB va + nl HB vb = c) (hc2 : c ≤ 258) {Q : MS → Prop} : ∀ (t i : Nat) (M : MS), i + t = nl HB va → KX G M K d f → (∀ k, k < c → hd M K d k < HB) → vl HB (hd M K d) (i + nl HB vb) = va % HB ^ i * vb → (∀ N, KQ K d M N → KI G N K (setK f d (f a * f b)) → Q N) → w_X11_product_48 G Q (t + 1) (kO K) (nI d) (nI a) (nI b) (nI c) (nI i) M
  | 0, i, M, hi, hX, hlt, hv, hQ => by
    obtain ⟨⟨e0, e1, e2⟩, ⟨g0, g1, g2⟩, n1, n2, n3⟩ := id hX.1
    have sa := hX.2 a ha had
    have sb := hX.2 b hb hbd
    have a3 := sa.1.2.2
    rw [hva] at a3
    rw [w_X11_product_48, e1, e2, g1, g2, cl (c := a) (by omega), cl (c := b) (by omega), sa.1.1, sa.1.2.1, sb.1.2.1, hva, nI_leI (by omega) (by omega), iS_mul]
    refine ⟨vp_in_nI ha (by decide), fun _ => ⟨vp_in_nI ha (by decide), vp_in_nI hb (by decide), ?_⟩, fun q => absurd (by omega) q⟩
    have hn : (f a * f b).natAbs = va * vb := by rw [Int.natAbs_mul, hva, hvb]
    obtain rfl : i = nl HB va := by omega
    rw [hc, modH_all (Nat.le_refl _)] at hv
    refine q_trim (f a * f b) hX hd' (c := c) (by omega) rfl ?_ (by rw [hn]; exact hv) (fun k hk => hlt k (by omega)) (fun _ => rfl) hQ
    rw [hn, ← hv]
    have := (nl_le HB1 c (vl HB (hd M K d) c)).mpr (vl_lt (fun k hk => hlt k (by omega)))
    omega
  | t + 1, i, M, hi, hX, hlt, hv, hQ => by
    obtain ⟨⟨e0, e1, e2⟩, ⟨g0, g1, g2⟩, n1, n2, n3⟩ := id hX.1
    have sa := hX.2 a ha had
    have a3 := sa.1.2.2
    rw [hva] at a3
    rw [w_X11_product_48, e1, g1, cl (c := a) (by omega), sa.1.1, hva, nI_leI (by omega) (by omega)]
    refine ⟨vp_in_nI ha (by decide), fun q => absurd q (by omega), fun _ => ⟨nl HB vb + 1, ?_⟩⟩
    have h0 : (0 : Int32) = nI 0 := rfl
    have h00 : (0 : Int64) = lN 0 := rfl
    rw [h0, h00]
    refine q_pi_loop (Mi := M) (c := c) hd' ha hb had hbd hva hvb (by omega) (by omega) (by omega) (fun N f1 x1 l1 u1 v1 => ?_) (nl HB vb) 0 M 0 (by omega) KQ.rf hX (by decide) hlt (by rw [Nat.pow_zero, Nat.mod_one]; grind) (fun _ _ => rfl)
    refine q_po_loop hd' ha hb had hbd hva hvb hc hc2 t (i + 1) N (by omega) x1 l1 ?_ (fun P f2 hP => hQ P (f1.tr f2) hP)
    rw [show i + 1 + nl HB vb = i + nl HB vb + 1 by omega, v1, hv, mod_h]
    grind
theorem q_pz_loop {G : SH} {K : KV} {d a b c va vb : Nat} {f : Nat → Int} (hd' : d < 40) (ha : a < 40) (hb : b < 40) (had : a ≠ d) (hbd : b ≠ d) (hva : (f a).natAbs = va) (hvb : (f b).natAbs = vb) (hc : nl HB va + nl HB vb = c) (hc2 : c ≤ 258) {Q : MS → Prop} : ∀ (t i : Nat) (M : MS), i + t = c → KX G M K d f → (∀ k, k < i → hd M K d k = 0) → (∀ N, KQ K d M N → KI G N K (setK f d (f a * f b)) → Q N) → w_X11_product_18 G Q (t + 1) (kO K) (nI d) (nI a) (nI b) (nI c) (nI i) M
  | 0, i, M, hi, hX, hz, hQ => by
    obtain rfl : i = c := by omega
    rw [w_X11_product_18, nI_leI (by omega) (by omega)]
    refine ⟨fun _ => ⟨nl HB va + 1, ?_⟩, fun q => absurd (Nat.le_refl _) q⟩
    rw [← nI_0]
    refine q_po_loop hd' ha hb had hbd hva hvb hc hc2 _ 0 M (by omega) hX (fun k hk => by rw [hz k hk]; decide) ?_ hQ
    rw [Nat.zero_add, Nat.pow_zero, Nat.mod_one, Nat.zero_mul, vl_pad (m := 0) _ (Nat.zero_le _) (fun k _ hk => hz k (by omega)), vl_0]
  | t + 1, i, M, hi, hX, hz, hQ => by
    obtain ⟨⟨e0, e1, e2⟩, ⟨g0, g1, g2⟩, n1, n2, n3⟩ := id hX.1
    rw [w_X11_product_18, nI_leI (by omega) (by omega), ixH, e0, g0, cl (by omega)]
    refine ⟨fun q => absurd q (by omega), fun _ => ⟨vp_in_nI (by omega) (by decide), fun N eN x ex => ?_⟩⟩
    have x1 : KX G N K d f := by rw [eN]; exact hX.wHx (by omega) _
    have f1 : KQ K d M N := by rw [eN]; exact KQ.wH (by omega) _
    rw [ex, nI_1]
    refine q_pz_loop hd' ha hb had hbd hva hvb hc hc2 t (i + 1) N (by omega) x1 (fun k hk => ?_) (fun P f2 hP => hQ P (f1.tr f2) hP)
    by_cases e : k = i
    · rw [e, eN, hd_wHs]; rfl
    · rw [eN, hd_wH (by omega)]; exact hz k (by omega)
theorem q_product {G : SH} {M : MS} {K : KV} {d a b : Nat} {f : Nat → Int} (hI : KI G M K f) (hd' : d < 40) (ha : a < 40) (hb : b < 40) (had : a ≠ d) (hbd : b ≠ d) (hc : nl HB (f a).natAbs + nl HB (f b).natAbs ≤ 258) {Q : MS → Prop} (hQ : ∀ N, KQ K d M N → KI G N K (setK f d (f a * f b)) → Q N) : w_X11_product G (kO K) (nI d) (nI a) (nI b) M Q := by
  unfold w_X11_product
  obtain ⟨⟨e0, e1, e2⟩, ⟨g0, g1, g2⟩, n1, n2, n3⟩ := id hI.1
  rw [e1, g1, cl (by omega), cl (by omega), (hI.2 a ha).1.1, (hI.2 b hb).1.1, nI_add]
  refine ⟨vp_in_nI ha (by decide), vp_in_nI hb (by decide), fun x ex => ⟨nl HB (f a).natAbs + nl HB (f b).natAbs + 1, ?_⟩⟩
  rw [ex, ← nI_0]
  exact q_pz_loop hd' ha hb had hbd rfl rfl rfl hc _ 0 M (by omega) (hI.x d) (fun k hk => absurd hk (Nat.not_lt_zero _)) hQ
