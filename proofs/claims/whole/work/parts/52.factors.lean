/-! rows that are apart, by their places -/
def NDL (L : List Nat) : Prop := ∀ (i j a : Nat), L[i]? = some a → L[j]? = some a → i = j
theorem NDL.ne {L : List Nat} (h : NDL L) (i j : Nat) {a b : Nat} (hi : L[i]? = some a) (hj : L[j]? = some b) (hij : i ≠ j) : a ≠ b := fun e => hij (h i j a hi (by rw [e]; exact hj))
theorem NDL.sub {L L' : List Nat} (h : NDL L) (p : List Nat) (hp : p.Nodup) (hL : p.map (fun i => L[i]?) = L'.map some) : NDL L' := by
  have at' : ∀ (i a : Nat), L'[i]? = some a → ∃ k, p[i]? = some k ∧ L[k]? = some a := by
    intro i a hi
    have h1 : (p.map (fun i => L[i]?))[i]? = some (some a) := by rw [hL, List.getElem?_map, hi]; rfl
    rw [List.getElem?_map] at h1
    cases hk : p[i]? with
    | none => rw [hk] at h1; cases h1
    | some k => rw [hk] at h1; exact ⟨k, rfl, Option.some.inj h1⟩
  intro i j a hi hj
  obtain ⟨k, k1, k2⟩ := at' i a hi
  obtain ⟨m, m1, m2⟩ := at' j a hj
  have e := h k m a k2 m2
  subst e
  obtain ⟨hl, he⟩ := List.getElem?_eq_some_iff.mp k1
  obtain ⟨hl2, he2⟩ := List.getElem?_eq_some_iff.mp m1
  rcases Nat.lt_trichotomy i j with q | q | q
  · exact absurd (he.trans he2.symm) (List.pairwise_iff_getElem.mp hp i j hl hl2 q)
  · exact q
  · exact absurd (he2.trans he.symm) (List.pairwise_iff_getElem.mp hp j i hl2 hl q)
theorem NDL.mem {L L' X : List Nat} (h : ∀ y ∈ L, y ∈ X) (p : List Nat) (hL : p.map (fun i => L[i]?) = L'.map some) : ∀ y ∈ L', y ∈ X := by
  intro y hy
  have h1 : some y ∈ L'.map some := List.mem_map.mpr ⟨y, hy, rfl⟩
  rw [← hL] at h1
  obtain ⟨i, -, hi⟩ := List.mem_map.mp h1
  exact h y (List.mem_of_getElem? hi)
/-! FACTORS -/
/-- DIVISOR and sizes of the FACTORS; odd: how many turns -/
def FAC (r s x z y w : Nat) (odd : Bool) : Nat × Nat × Nat × Bool := if h : s = 0 then (r, x, y, odd) else FAC s (r % s) z (x + r / s * z) w (y + r / s * w) (!odd)
  termination_by s
  decreasing_by exact Nat.mod_lt _ (by omega)
theorem FAC_0 (r x z y w : Nat) (odd : Bool) : FAC r 0 x z y w odd = (r, x, y, odd) := by rw [FAC]; simp
theorem FAC_s {r s : Nat} (h : s ≠ 0) (x z y w : Nat) (odd : Bool) : FAC r s x z y w odd = FAC s (r % s) z (x + r / s * z) w (y + r / s * w) (!odd) := by rw [FAC, dif_neg h]
/-- the rows of a Factors object -/
def FaR (M : MS) (o dv xd qd pd fr fs ft fx fz fy fw : Nat) : Prop := mR M o 3 = dv ∧ mR M dv 0 = xd ∧ mR M o 4 = qd ∧ mR M o 5 = pd ∧ mR M o 0 = fr ∧ mR M o 6 = fs ∧ mR M o 7 = ft ∧ mR M o 1 = fx ∧ mR M o 8 = fz ∧ mR M o 2 = fy ∧ mR M o 9 = fw
theorem Fr.far {G : SH} {M N : MS} {X : List Nat} {o dv xd qd pd fr fs ft fx fz fy fw : Nat} (f : Fr G M N X) (h : FaR M o dv xd qd pd fr fs ft fx fz fy fw) : FaR N o dv xd qd pd fr fs ft fx fz fy fw := by
  have r := f.2.1
  obtain ⟨e0, e1, e2, e3, e4, e5, e6, e7, e8, e9, e10⟩ := h
  exact ⟨by rw [r]; exact e0, by rw [r]; exact e1, by rw [r]; exact e2, by rw [r]; exact e3, by rw [r]; exact e4, by rw [r]; exact e5, by rw [r]; exact e6, by rw [r]; exact e7, by rw [r]; exact e8, by rw [r]; exact e9, by rw [r]; exact e10⟩
theorem s_addMultiple {G : SH} {M : MS} {o qd pd t b vq vt vb c rm : Nat} {st sb : Bool} (hO : Ok G M) (hq : Is G 8 qd) (hp : Is G 8 pd) (ht : Is G 8 t) (hb : Is G 8 b) (e4 : mR M o 4 = qd) (e5 : mR M o 5 = pd) (n1 : qd ≠ pd) (n2 : b ≠ pd) (n3 : t ≠ pd) (wq : Wh G M qd vq false) (wt : Wh G M t vt st) (wb : Wh G M b vb sb) (c1 : nl BB vq ≤ c) (c2 : nl BB vb ≤ c) (c3 : nl BB vt ≤ c) (c4 : nl BB (vq * vb) ≤ c) (hc : 2 * c < rm) (r1 : rmw G M pd = rm) (r2 : rmw G M t = rm) {Q : MS → Prop}
    (hQ : ∀ N, Fr G M N [pd, t] → Wh G N t (vt + vq * vb) false → Q N) : w_X2_addMultiple G o t b M Q := by
  unfold w_X2_addMultiple
  rw [e5, e4]
  refine s_product hO hp hq hb n1 n2 wq wb (by omega) (fun N f1 w1 => ?_)
  have hO1 := f1.ok hO
  rw [f1.2.1, e5]
  refine s_sum hO1 ht ht hp (f1.wh hO ht (ni1 n3) wt) w1 (by rw [f1.room]; omega) (by rw [f1.room]; omega) (fun P f2 w2 => ?_)
  exact hQ P ((f1.mono (all2 hp ht) (by simp)).tr1 (f2.mono (all2 hp ht) (by simp))) w2
theorem s_turnOnce {G : SH} {M : MS} {o dv xd qd pd fr fs ft fx fz fy fw c rm pr ps px pz py pw : Nat} {X : List Nat} (hX : ∀ y ∈ X, Is G 8 y) (hO : Ok G M) (ho : G.2.1 o ≠ 8) (hdo : dv ≠ o) (hR : FaR M o dv xd qd pd fr fs ft fx fz fy fw) (hmem : ∀ y ∈ [xd, qd, pd, fr, fs, ft, fx, fz, fy, fw], y ∈ X) (hnd : NDL [xd, qd, pd, fr, fs, ft, fx, fz, fy, fw]) (hroom : ∀ y ∈ X, rmw G M y = rm) (hc : 2 * c < rm)
    (wr : Wh G M fr pr false) (ws : Wh G M fs ps false) (wx : Wh G M fx px false) (wz : Wh G M fz pz false) (wy : Wh G M fy py false) (ww : Wh G M fw pw false) (hs : 0 < ps) (c1 : nl BB pr ≤ c) (c2 : nl BB ps ≤ c) (c3 : nl BB px ≤ c) (c4 : nl BB pz ≤ c) (c5 : nl BB py ≤ c) (c6 : nl BB pw ≤ c) (c7 : nl BB (pr / ps * pz) ≤ c) (c8 : nl BB (pr / ps * pw) ≤ c) {Q : MS → Prop}
    (hQ : ∀ N, Fs G M N X [o] → FaR N o dv xd qd pd fs ft fr fz fx fw fy → Wh G N fs ps false → Wh G N ft (pr % ps) false → Wh G N fz pz false → Wh G N fx (px + pr / ps * pz) false → Wh G N fw pw false → Wh G N fy (py + pr / ps * pw) false → Q N) : w_X2_turnOnce G o M Q := by
  unfold w_X2_turnOnce
  have I : ∀ (k y : Nat), [xd, qd, pd, fr, fs, ft, fx, fz, fy, fw][k]? = some y → y ∈ X := fun k y h => hmem y (List.mem_of_getElem? h)
  have i0 := I 0 xd rfl
  have i1 := I 1 qd rfl
  have i2 := I 2 pd rfl
  have i3 := I 3 fr rfl
  have i4 := I 4 fs rfl
  have i5 := I 5 ft rfl
  have i6 := I 6 fx rfl
  have i7 := I 7 fz rfl
  have i8 := I 8 fy rfl
  have i9 := I 9 fw rfl
  have ne : ∀ (i j : Nat) {a b : Nat}, [xd, qd, pd, fr, fs, ft, fx, fz, fy, fw][i]? = some a → [xd, qd, pd, fr, fs, ft, fx, fz, fy, fw][j]? = some b → i ≠ j → a ≠ b := fun i j {a b} h1 h2 h3 => hnd.ne i j h1 h2 h3
  obtain ⟨e0, e1, e2, e3, e4, e5, e6, e7, e8, e9, e10⟩ := id hR
  rw [e0, e2, e6, e4, e5]
  have r1 := hroom qd i1
  have r5 := hroom ft i5
  have r0 := hroom xd i0
  have r2 := hroom pd i2
  have r6 := hroom fx i6
  have r8 := hroom fy i8
  refine s_split hO (hX qd i1) (hX ft i5) (hX xd i0) (hX fr i3) (hX fs i4) e1 (ne 1 5 rfl rfl (by decide)) (ne 0 1 rfl rfl (by decide)) (ne 0 5 rfl rfl (by decide)) (ne 0 3 rfl rfl (by decide)) (ne 0 4 rfl rfl (by decide)) (ne 3 1 rfl rfl (by decide)) (ne 3 5 rfl rfl (by decide)) (ne 4 1 rfl rfl (by decide)) (ne 4 5 rfl rfl (by decide)) wr ws hs (by omega) (by omega) (by omega) (fun M6 f6 wq6 wt6 => ?_)
  intro M9 e9' M11 e11 M12 e12
  have hO6 := f6.ok hO
  have r := f6.2.1
  have nx : ∀ k {y}, [xd, qd, pd, fr, fs, ft, fx, fz, fy, fw][k]? = some y → k ≠ 0 → k ≠ 1 → k ≠ 5 → y ∉ [qd, ft, xd] := fun k {y} h h0 h1 h5 => ni3 (ne k 1 h rfl h1) (ne k 5 h rfl h5) (ne k 0 h rfl h0)
  have ws6 := f6.wh hO (hX fs i4) (nx 4 rfl (by decide) (by decide) (by decide)) ws
  have wx6 := f6.wh hO (hX fx i6) (nx 6 rfl (by decide) (by decide) (by decide)) wx
  have wz6 := f6.wh hO (hX fz i7) (nx 7 rfl (by decide) (by decide) (by decide)) wz
  have wy6 := f6.wh hO (hX fy i8) (nx 8 rfl (by decide) (by decide) (by decide)) wy
  have ww6 := f6.wh hO (hX fw i9) (nx 9 rfl (by decide) (by decide) (by decide)) ww
  rw [r, e5] at e9'
  rw [e9', mR_wR_k M6 _ (by decide), r, e6] at e11
  rw [r, e4] at e12
  have g1 : Fs G M6 M12 [] [o] := by
    rw [e12, e11]
    exact ((Fs.wR ho _ _).tr (Fs.wR ho _ _)).tr (Fs.wR ho _ _)
  have hR12 : FaR M12 o dv xd qd pd fs ft fr fx fz fy fw := by
    refine ⟨?_, ?_, ?_, ?_, ?_, ?_, ?_, ?_, ?_, ?_, ?_⟩
    · rw [e12, e11, mR_wR_k _ _ (by decide), mR_wR_k _ _ (by decide), mR_wR_k _ _ (by decide), r]; exact e0
    · rw [g1.2.2.1 dv 0 (ni1 hdo), r]; exact e1
    · rw [e12, e11, mR_wR_k _ _ (by decide), mR_wR_k _ _ (by decide), mR_wR_k _ _ (by decide), r]; exact e2
    · rw [e12, e11, mR_wR_k _ _ (by decide), mR_wR_k _ _ (by decide), mR_wR_k _ _ (by decide), r]; exact e3
    · rw [e12, e11, mR_wR_k _ _ (by decide), mR_wR_k _ _ (by decide), mR_wR_s]
    · rw [e12, e11, mR_wR_k _ _ (by decide), mR_wR_s]
    · rw [e12, mR_wR_s]
    · rw [e12, e11, mR_wR_k _ _ (by decide), mR_wR_k _ _ (by decide), mR_wR_k _ _ (by decide), r]; exact e7
    · rw [e12, e11, mR_wR_k _ _ (by decide), mR_wR_k _ _ (by decide), mR_wR_k _ _ (by decide), r]; exact e8
    · rw [e12, e11, mR_wR_k _ _ (by decide), mR_wR_k _ _ (by decide), mR_wR_k _ _ (by decide), r]; exact e9
    · rw [e12, e11, mR_wR_k _ _ (by decide), mR_wR_k _ _ (by decide), mR_wR_k _ _ (by decide), r]; exact e10
  have hO12 := g1.ok hO6
  have T : ∀ {y v : Nat} {b : Bool}, Is G 8 y → Wh G M6 y v b → Wh G M12 y v b := fun hy h => g1.wh hO6 hy (by simp) h
  have rm12 : ∀ y ∈ X, rmw G M12 y = rm := fun y hy => by rw [g1.room (hX y hy), f6.room]; exact hroom y hy
  rw [hR12.2.2.2.2.2.2.2.1, hR12.2.2.2.2.2.2.2.2.1]
  have cq : nl BB (pr / ps) ≤ c := Nat.le_trans (nl_mono BB1 (Nat.div_le_self _ _)) c1
  refine s_addMultiple (c := c) (rm := rm) hO12 (hX qd i1) (hX pd i2) (hX fx i6) (hX fz i7) hR12.2.2.1 hR12.2.2.2.1 (ne 1 2 rfl rfl (by decide)) (ne 7 2 rfl rfl (by decide)) (ne 6 2 rfl rfl (by decide)) (T (hX qd i1) wq6) (T (hX fx i6) wx6) (T (hX fz i7) wz6) cq c4 c3 c7 hc (rm12 pd i2) (rm12 fx i6) (fun M15 f15 w15 => ?_)
  intro M18 e18 M19 e19
  have hO15 := f15.ok hO12
  have hR15 := f15.far hR12
  rw [hR15.2.2.2.2.2.2.2.2.1] at e18
  rw [hR15.2.2.2.2.2.2.2.1] at e19
  have g2 : Fs G M15 M19 [] [o] := by
    rw [e19, e18]
    exact (Fs.wR ho _ _).tr (Fs.wR ho _ _)
  obtain ⟨k0, k1, k2, k3, k4, k5, k6, k7, k8, k9, k10⟩ := id hR15
  have hR19 : FaR M19 o dv xd qd pd fs ft fr fz fx fy fw := by
    refine ⟨?_, ?_, ?_, ?_, ?_, ?_, ?_, ?_, ?_, ?_, ?_⟩
    · rw [e19, e18, mR_wR_k _ _ (by decide), mR_wR_k _ _ (by decide)]; exact k0
    · rw [g2.2.2.1 dv 0 (ni1 hdo)]; exact k1
    · rw [e19, e18, mR_wR_k _ _ (by decide), mR_wR_k _ _ (by decide)]; exact k2
    · rw [e19, e18, mR_wR_k _ _ (by decide), mR_wR_k _ _ (by decide)]; exact k3
    · rw [e19, e18, mR_wR_k _ _ (by decide), mR_wR_k _ _ (by decide)]; exact k4
    · rw [e19, e18, mR_wR_k _ _ (by decide), mR_wR_k _ _ (by decide)]; exact k5
    · rw [e19, e18, mR_wR_k _ _ (by decide), mR_wR_k _ _ (by decide)]; exact k6
    · rw [e19, e18, mR_wR_k _ _ (by decide), mR_wR_s]
    · rw [e19, mR_wR_s]
    · rw [e19, e18, mR_wR_k _ _ (by decide), mR_wR_k _ _ (by decide)]; exact k9
    · rw [e19, e18, mR_wR_k _ _ (by decide), mR_wR_k _ _ (by decide)]; exact k10
  have hO19 := g2.ok hO15
  have nx2 : ∀ k {y}, [xd, qd, pd, fr, fs, ft, fx, fz, fy, fw][k]? = some y → k ≠ 2 → k ≠ 6 → y ∉ [pd, fx] := fun k {y} h h2 h6 => ni2 (ne k 2 h rfl h2) (ne k 6 h rfl h6)
  have T2 : ∀ k {y v : Nat} {b : Bool}, [xd, qd, pd, fr, fs, ft, fx, fz, fy, fw][k]? = some y → k ≠ 2 → k ≠ 6 → Wh G M6 y v b → Wh G M19 y v b := fun k {y v b} hk h2 h6 h => g2.wh hO15 (hX y (I k y hk)) (by simp) (f15.wh hO12 (hX y (I k y hk)) (nx2 k hk h2 h6) (T (hX y (I k y hk)) h))
  have w19x := g2.wh hO15 (hX fx i6) (by simp) w15
  have rm19 : ∀ y ∈ X, rmw G M19 y = rm := fun y hy => by rw [g2.room (hX y hy), f15.room]; exact rm12 y hy
  rw [hR19.2.2.2.2.2.2.2.2.2.1, hR19.2.2.2.2.2.2.2.2.2.2]
  refine s_addMultiple (c := c) (rm := rm) hO19 (hX qd i1) (hX pd i2) (hX fy i8) (hX fw i9) hR19.2.2.1 hR19.2.2.2.1 (ne 1 2 rfl rfl (by decide)) (ne 9 2 rfl rfl (by decide)) (ne 8 2 rfl rfl (by decide)) (T2 1 rfl (by decide) (by decide) wq6) (T2 8 rfl (by decide) (by decide) wy6) (T2 9 rfl (by decide) (by decide) ww6) cq c6 c5 c8 hc (rm19 pd i2) (rm19 fy i8) (fun M22 f22 w22 => ?_)
  intro M25 e25 M26 e26
  have hO22 := f22.ok hO19
  have hR22 := f22.far hR19
  rw [hR22.2.2.2.2.2.2.2.2.2.2] at e25
  rw [hR22.2.2.2.2.2.2.2.2.2.1] at e26
  have g3 : Fs G M22 M26 [] [o] := by
    rw [e26, e25]
    exact (Fs.wR ho _ _).tr (Fs.wR ho _ _)
  obtain ⟨q0, q1, q2, q3, q4, q5, q6, q7, q8, q9, q10⟩ := id hR22
  have hR26 : FaR M26 o dv xd qd pd fs ft fr fz fx fw fy := by
    refine ⟨?_, ?_, ?_, ?_, ?_, ?_, ?_, ?_, ?_, ?_, ?_⟩
    · rw [e26, e25, mR_wR_k _ _ (by decide), mR_wR_k _ _ (by decide)]; exact q0
    · rw [g3.2.2.1 dv 0 (ni1 hdo)]; exact q1
    · rw [e26, e25, mR_wR_k _ _ (by decide), mR_wR_k _ _ (by decide)]; exact q2
    · rw [e26, e25, mR_wR_k _ _ (by decide), mR_wR_k _ _ (by decide)]; exact q3
    · rw [e26, e25, mR_wR_k _ _ (by decide), mR_wR_k _ _ (by decide)]; exact q4
    · rw [e26, e25, mR_wR_k _ _ (by decide), mR_wR_k _ _ (by decide)]; exact q5
    · rw [e26, e25, mR_wR_k _ _ (by decide), mR_wR_k _ _ (by decide)]; exact q6
    · rw [e26, e25, mR_wR_k _ _ (by decide), mR_wR_k _ _ (by decide)]; exact q7
    · rw [e26, e25, mR_wR_k _ _ (by decide), mR_wR_k _ _ (by decide)]; exact q8
    · rw [e26, e25, mR_wR_k _ _ (by decide), mR_wR_s]
    · rw [e26, mR_wR_s]
  have nx3 : ∀ k {y}, [xd, qd, pd, fr, fs, ft, fx, fz, fy, fw][k]? = some y → k ≠ 2 → k ≠ 8 → y ∉ [pd, fy] := fun k {y} h h2 h6 => ni2 (ne k 2 h rfl h2) (ne k 8 h rfl h6)
  have T3 : ∀ k {y v : Nat} {b : Bool}, [xd, qd, pd, fr, fs, ft, fx, fz, fy, fw][k]? = some y → k ≠ 2 → k ≠ 8 → Wh G M19 y v b → Wh G M26 y v b := fun k {y v b} hk h2 h6 h => g3.wh hO22 (hX y (I k y hk)) (by simp) (f22.wh hO19 (hX y (I k y hk)) (nx3 k hk h2 h6) h)
  have mono0 : ∀ {A B : MS}, Fs G A B [] [o] → Fs G A B X [o] := fun h => h.mono hX (all1 ho) (by simp) (by simp)
  have FF : Fs G M M26 X [o] := (((((f6.fs hX (all1 ho) (all3 i1 i5 i0)).tr (mono0 g1)).tr (f15.fs hX (all1 ho) (all2 i2 i6))).tr (mono0 g2)).tr (f22.fs hX (all1 ho) (all2 i2 i8))).tr (mono0 g3)
  exact hQ M26 FF hR26 (T3 4 rfl (by decide) (by decide) (T2 4 rfl (by decide) (by decide) ws6)) (T3 5 rfl (by decide) (by decide) (T2 5 rfl (by decide) (by decide) wt6)) (T3 7 rfl (by decide) (by decide) (T2 7 rfl (by decide) (by decide) wz6)) (T3 6 rfl (by decide) (by decide) w19x) (T3 9 rfl (by decide) (by decide) (T2 9 rfl (by decide) (by decide) ww6)) (g3.wh hO22 (hX fy i8) (by simp) w22)
