/-! the law's body walked to its loop -/
section Start
variable {p : Program} {l : Launch} {e : Env} {s : State} {m : MethodId} {below : List Frame} {meth : Method} {c : Code} {D : va_G} {ca : Nat → ClassId} {lc : ClassId} {b len n w N : Nat} {xs : Nat → Int32}
theorem t_pool {H : Heap} (h : BPx D s.heap.size (94 + 2 * n, FT ca s.heap.size n w N) H) : va_P D vwCl (PL (GT ca s.heap.size n w N) (MT ca s.heap.size n w N)) H := by
  intro k q hq
  unfold PL va_pl at hq
  rw [List.getElem?_map] at hq
  cases hr : (List.range' s.heap.size (94 + 2 * n))[k]? with
  | none =>
    rw [show (GT ca s.heap.size n w N).1 = List.range' s.heap.size (94 + 2 * n) from rfl, hr] at hq
    cases hq
  | some z =>
    rw [show (GT ca s.heap.size n w N).1 = List.range' s.heap.size (94 + 2 * n) from rfl, hr] at hq
    cases hq
    have hz := List.mem_range'_1.mp (List.mem_of_getElem? hr)
    obtain ⟨j, hj⟩ := va_pl_get (X := []) (f := FT ca s.heap.size n w N) (rg_mem (a := s.heap.size) (K := 94 + 2 * n) (q := z) hz)
    exact ce_at z hz.1 hz.2 (h j _ hj)
theorem t_end (cx : CLx p s m #[Value.ref b] c D ca) (hK : va_K D vwCl ((lc, .long) :: tyc ca) s) (hlen : len ≤ 3074) (hX : va_X b len xs s s.heap) (hbl : b < s.heap.size) (hr : meth.sig.returnType = ret) (hlk : meth.locks = false) (hst : l.stackTraces = false) (hTW : TW (A0 s) s s.heap) (hn2 : 1 ≤ n ∧ n ≤ 16) (hw2 : 1 ≤ w ∧ w ≤ 40) (hN : N = 2 * w + 2) :
    BW p l e room_1 s m #[Value.ref b] below meth c D 7 s.heap.size (94 + 2 * n) 20000 (lw_Z below #[Value.ref b] s) 37 [(0, .ref b), (1, .ref s.heap.size), (2, .ref (s.heap.size + (88 + 2 * n)))] [.int (nI 1)] (94 + 2 * n, FT ca s.heap.size n w N) := by
  intro H locs ls hP hS hl T0 hT X
  have hsz : H.size = s.heap.size + (94 + 2 * n) := hP.size0 hS hT X rfl
  refine va_newaK (atype := .long) (N := 1) (g := F0 m 37 ls [.int (nI 1)]) cx.1 cx.2.1 (cx.2.2.2.2.1 (.arrayClass .long) (gw_t5 (w := .arrayClass .long) 208 rfl rfl)) rfl dL_law_37 (rest := []) rfl (by decide) rfl (by decide) (by show 94 + 2 * n + 1 ≤ 601024; omega) (by show 20000 + 1 ≤ 7293000; omega) hsz (fun H1 cA e1 z1 o1 hAr hNm => ?_) T0 hT X
  have eA : cA = lc := Option.some.inj (hNm.symm.trans (hK.2 0 _ rfl).2)
  subst eA
  rw [← hsz] at o1
  have hP1 : BPx D s.heap.size (94 + 2 * n, FT ca s.heap.size n w N) H1 := va_P.kept hP fun k q hk => o1 _ ((hP k q hk).lt)
  have hS1 : va_S (A0 s) s.heap H1 locs := ⟨Nat.le_trans hS.1 (by omega), fun q h1 h2 => (o1 q (Nat.lt_of_lt_of_le h1 hS.1)).trans (hS.2.1 q h1 h2), hS.2.2⟩
  have hT2 := T_LI (ca := ca) (x := s.heap.size) hn2 hw2 hN
  have hGm : ∀ q, q ∈ (GT ca s.heap.size n w N).1 → s.heap.size ≤ q ∧ q < s.heap.size + (94 + 2 * n) := fun q hq => List.mem_range'_1.mp hq
  have cy : CY p s m #[Value.ref b] c D (GT ca s.heap.size n w N) cL_law 7 RL cA (s.heap.size + (94 + 2 * n)) (A0 s) := ⟨cx.1, cx.2.1, cx.2.2.1, cx.2.2.2.1, cx.2.2.2.2.1, hK, GT_ND, fun h => by have := hGm _ h; omega, fun q hq => by
    rcases hq with h | h
    · show s.heap.size ≤ q
      omega
    · exact (hGm q h).1⟩
  have F : LCx p s m #[Value.ref b] c D (GT ca s.heap.size n w N) cA (s.heap.size + (94 + 2 * n)) (A0 s) (ET s.heap.size n w) (LT s.heap.size n) b len xs := ⟨cy, hT2.1, hX, hbl, Nat.not_le.mpr hbl⟩
  have kk : LW p l e room_1 s m #[Value.ref b] below meth c D (GT ca s.heap.size n w N) 7 cA (s.heap.size + (94 + 2 * n)) (A0 s) (94 + 2 * n + 1) (20000 + 1) (lw_Z below #[Value.ref b] s) 39 [(0, .ref b), (1, .ref s.heap.size), (2, .ref (s.heap.size + (88 + 2 * n)))] [.ref (s.heap.size + (94 + 2 * n))] (MT ca s.heap.size n w N, 0) := by
    refine q_astore_n (pc := 39) cy dL_law_39 rfl (by decide) [1, 2, 3, 0] rfl ?_
    refine q_iconst (pc := 40) (v := nI (2 + 6 * 0)) cy dL_law_40 (by decide) ?_
    refine q_istore (pc := 41) cy dL_law_41 (by decide) [1, 2, 3, 4, 0] rfl ?_
    exact law_loop F hr hlk hst hTW hlen 512 0 (94 + 2 * n + 1) (20000 + 1) (MT ca s.heap.size n w N, 0) s00 (by omega) (by omega) (by omega) (by omega) hT2.2
  exact kk H1 locs ls (va_P.cons e1 (t_pool hP1)) hS1 hl
theorem t_body (cx : CLx p s m #[Value.ref b] c D ca) (hAO : va_AO "GcdMill$Whole" s) (hK : va_K D vwCl ((lc, .long) :: tyc ca) s) (hlen : len ≤ 3074) (hX : va_X b len xs s s.heap) (hbl : b < s.heap.size) (hr : meth.sig.returnType = ret) (hlk : meth.locks = false) (hst : l.stackTraces = false) (hTW : TW (A0 s) s s.heap) (hn2 : 1 ≤ n ∧ n ≤ 16) (hw2 : 1 ≤ w ∧ w ≤ 40) (hN : N = 2 * w + 2)
    {r v : Int32} (er : cellV len xs 0 = r) (ev : cellV len xs 1 = v)
    (hw : (if 1 < (if 40 < v then 40 else v) then (if 40 < v then 40 else v) else 1) = nI w) (hn : (if 1 < (if 16 < r then 16 else r) then (if 16 < r then 16 else r) else 1) = nI n)
    (hnk : (if 1 ≤ r then (if r ≤ 16 then r else 16) else 1) = nI n) (hwk : (if 1 ≤ v then (if v ≤ 40 then v else 40) else 1) = nI w) :
    BW p l e room_1 s m #[Value.ref b] below meth c D 7 s.heap.size 0 0 (lw_Z below #[Value.ref b] s) 0 [(0, .ref b)] [] (0, fun _ => .inr (0, [])) := by
  refine t_new (pc := 0) (x := s.heap.size) (ci := 9) (C := RX10) (T := TX10) (N := 14) rfl in_X10 tyX10 tyX10_ok (fs := [.int 0, .null, .null, .null, .null, .null, .null, .null, .null, .null, .null, .null, .null, .int 0]) (by decide +kernel) cx (gw_t1 21 rfl rfl) (gw_t1 22 rfl rfl) (gw_t1 1 rfl rfl) rfl rfl ⟨by show 0 + 1 ≤ 601024; omega, by show 0 + 14 ≤ 7293000; omega⟩ dL_law_0 ?_
  refine BW.norm (c2 := 1) (s2 := 14) (K2 := 1) (g := fun _ => .inr (9, [.int 0, .null, .null, .null, .null, .null, .null, .null, .null, .null, .null, .null, .null, .int 0])) rfl (by omega) rfl (fun q h1 h2 => by rw [show q = s.heap.size by omega, va_up_s]) ?_
  refine t_dup (pc := 3) cx dL_law_3 rfl ?_
  refine t_aload_n (pc := 4) cx dL_law_4 rfl 0 rfl ?_
  refine t_iconst (pc := 5) (v := nI 0) cx dL_law_5 (by decide) ?_
  refine t_cell (pc := 6) cx (by decide) hlen hX hbl ⟨by decide, by decide⟩ ⟨by show 1 ≤ 601024; omega, by show 14 ≤ 7293000; omega⟩ (Nat.le_of_ble_eq_true rfl) dL_law_6 ?_
  refine t_aload_n (pc := 9) cx dL_law_9 rfl 0 rfl ?_
  refine t_iconst (pc := 10) (v := nI 1) cx dL_law_10 (by decide) ?_
  refine t_cell (pc := 11) cx (by decide) hlen hX hbl ⟨by decide, by decide⟩ ⟨by show 1 ≤ 601024; omega, by show 14 ≤ 7293000; omega⟩ (Nat.le_of_ble_eq_true rfl) dL_law_11 ?_
  rw [er, ev]
  refine t_call (pc := 14) (n := 2) (index := 31) (ci := 9) (y := yX10_init) (bytes := cX10_init) (maxL := 4) (rm := rm_X10i n) (x := s.heap.size) (mc := 87 + 2 * n) (ms := 7124) (LY := fun d => LYM ca s.heap.size n w N (s.heap.size + d)) (PX := fun U => va_at D vwCl (s.heap.size, .inr (9, [.int 0, .null, .null, .null, .null, .null, .null, .null, .null, .null, .null, .null, .null, .int 0])) U.heap ∧ U.heap.size = s.heap.size + 1 ∧ va_K D vwCl (tyc ca) U ∧ va_AO "GcdMill$Whole" U) (rest := [.ref s.heap.size]) (vs := [.int 0, .null, .null, .null, .null, .null, .null, .null, .null, .null, .null, .null, .null, .int 0]) [.int r, .int v] cx (c_X10_init (l := l) (D := D) (ca := ca) (x := s.heap.size) hw hn hn2 hw2 hN) (fun U U' ha hh h => ⟨by rw [hh]; exact h.1, by rw [hh]; exact h.2.1, va_K.moved ha h.2.2.1, va_AO.moved ha h.2.2.2⟩) (fun U ha h1 h2 => ⟨h1, h2, va_K.moved ha cx.2.2.2.2.2, va_AO.moved ha hAO⟩) ⟨gw_t1 25 rfl rfl, gw_t1 1 rfl rfl, by decide +kernel⟩ rfl (gw_t1 24 rfl rfl) (gw_t1 23 rfl rfl) rfl rfl (Nat.le_refl 1) rfl ⟨rfl, rfl⟩ ⟨Nat.le_of_ble_eq_true rfl, Nat.le_of_ble_eq_true rfl⟩ ⟨by show 1 + (87 + 2 * n) ≤ 601024; omega, by show 14 + 7124 ≤ 7293000; omega⟩ rfl rfl (Nat.le_of_ble_eq_true rfl) dL_law_14 ?_
  refine BW.norm (c2 := 88 + 2 * n) (s2 := 7138) (K2 := 88 + 2 * n) (g := LYM ca s.heap.size n w N) (by omega) (by omega) (by dsimp only; omega) (fun q h1 h2 => by rw [if_neg (Nat.not_lt.mpr h1), show s.heap.size + (q - s.heap.size) = q by omega]) ?_
  refine t_astore_n (pc := 17) cx dL_law_17 rfl (by decide) [1, 0] rfl ?_
  refine t_new (pc := 18) (x := s.heap.size + (88 + 2 * n)) (ci := 10) (C := RX11) (T := TX11) (N := 11) rfl in_X11 tyX11 tyX11_ok (fs := [.null, .null, .null, .int 0, .int 0, .int 0, .int 0, .null, .null, .int 0, .int 0]) (by decide +kernel) cx (gw_t4 155 rfl rfl) (gw_t4 156 rfl rfl) (gw_t1 12 rfl rfl) rfl rfl ⟨by show 88 + 2 * n + 1 ≤ 601024; omega, by show 7138 + 11 ≤ 7293000; omega⟩ dL_law_18 ?_
  refine BW.norm (c2 := 89 + 2 * n) (s2 := 7149) (K2 := 89 + 2 * n) (g := va_up (LYM ca s.heap.size n w N) (s.heap.size + (88 + 2 * n)) (.inr (10, [.null, .null, .null, .int 0, .int 0, .int 0, .int 0, .null, .null, .int 0, .int 0]))) (by omega) (by omega) (by dsimp only; omega) (fun q _ _ => rfl) ?_
  refine t_dup (pc := 21) cx dL_law_21 rfl ?_
  refine t_aload_n (pc := 22) cx dL_law_22 rfl 0 rfl ?_
  refine t_iconst (pc := 23) (v := nI 0) cx dL_law_23 (by decide) ?_
  refine t_cell (pc := 24) cx (by decide) hlen hX hbl ⟨by decide, by decide⟩ ⟨by show 89 + 2 * n ≤ 601024; omega, by show 7149 ≤ 7293000; omega⟩ (Nat.le_of_ble_eq_true rfl) dL_law_24 ?_
  refine t_aload_n (pc := 27) cx dL_law_27 rfl 0 rfl ?_
  refine t_iconst (pc := 28) (v := nI 1) cx dL_law_28 (by decide) ?_
  refine t_cell (pc := 29) cx (by decide) hlen hX hbl ⟨by decide, by decide⟩ ⟨by show 89 + 2 * n ≤ 601024; omega, by show 7149 ≤ 7293000; omega⟩ (Nat.le_of_ble_eq_true rfl) dL_law_29 ?_
  rw [er, ev]
  refine t_call (pc := 32) (n := 2) (index := 36) (ci := 10) (y := yX11_init) (bytes := cX11_init) (maxL := 3) (rm := rm_X11i) (x := s.heap.size + (88 + 2 * n)) (mc := 5) (ms := 11980) (LY := fun d => TB (s.heap.size + (88 + 2 * n)) 10 [.ref ((s.heap.size + (88 + 2 * n)) + 1), .ref ((s.heap.size + (88 + 2 * n)) + 2), .ref ((s.heap.size + (88 + 2 * n)) + 3), .int (nI n), .int (nI w), .int 0, .int 0, .ref ((s.heap.size + (88 + 2 * n)) + 4), .ref ((s.heap.size + (88 + 2 * n)) + 5), .int 0, .int 0] (va_up (va_up (va_up (va_up (va_up (zB) ((s.heap.size + (88 + 2 * n)) + 1) (.inl (ca 1, 10400, .inl (fun _ => 0)))) ((s.heap.size + (88 + 2 * n)) + 2) (.inl (ca 1, 40, .inl (fun _ => 0)))) ((s.heap.size + (88 + 2 * n)) + 3) (.inl (ca 1, 40, .inl (fun _ => 0)))) ((s.heap.size + (88 + 2 * n)) + 4) (.inl (ca 0, 1000, .inl (fun _ => 0)))) ((s.heap.size + (88 + 2 * n)) + 5) (.inl (ca 0, 500, .inl (fun _ => 0)))) ((s.heap.size + (88 + 2 * n)) + d)) (PX := fun U => va_at D vwCl (s.heap.size + (88 + 2 * n), .inr (10, [.null, .null, .null, .int 0, .int 0, .int 0, .int 0, .null, .null, .int 0, .int 0])) U.heap ∧ U.heap.size = s.heap.size + (88 + 2 * n) + 1 ∧ va_K D vwCl (tyc ca) U) (rest := [.ref (s.heap.size + (88 + 2 * n))]) (vs := [.null, .null, .null, .int 0, .int 0, .int 0, .int 0, .null, .null, .int 0, .int 0]) [.int r, .int v] cx (c_X11_init (l := l) (D := D) (ca := ca) (x := s.heap.size + (88 + 2 * n)) hnk hwk) (fun U U' ha hh h => ⟨by rw [hh]; exact h.1, by rw [hh]; exact h.2.1, va_K.moved ha h.2.2⟩) (fun U ha h1 h2 => ⟨h1, h2, va_K.moved ha cx.2.2.2.2.2⟩) cf_X11_init rfl (gw_t4 158 rfl rfl) (gw_t4 157 rfl rfl) rfl (by omega) (by omega) va_up_s ⟨rfl, rfl⟩ ⟨by decide, by decide⟩ ⟨by show 89 + 2 * n + 5 ≤ 601024; omega, by show 7149 + 11980 ≤ 7293000; omega⟩ rfl rfl (Nat.le_of_ble_eq_true rfl) dL_law_32 ?_
  refine BW.norm (c2 := 94 + 2 * n) (s2 := 20000) (K2 := 94 + 2 * n) (g := FT ca s.heap.size n w N) (by omega) (by omega) (by dsimp only; omega) (fun q h1 h2 => ?_) ?_
  · by_cases c1 : q < s.heap.size + (88 + 2 * n)
    · rw [if_pos c1]
      exact (va_up_n (show q ≠ s.heap.size + (88 + 2 * n) by omega)).trans (if_pos c1).symm
    · rw [if_neg c1, show s.heap.size + (88 + 2 * n) + (q - (s.heap.size + (88 + 2 * n))) = q by omega, FT_ge (Nat.not_lt.mp c1)]
  refine t_astore_n (pc := 35) cx dL_law_35 rfl (by decide) [1, 2, 0] rfl ?_
  refine t_iconst (pc := 36) (v := nI 1) cx dL_law_36 (by decide) ?_
  exact t_end cx hK hlen hX hbl hr hlk hst hTW hn2 hw2 hN
theorem whole_start (l : Launch) {L : Nat} (hst : l.stackTraces = false) (hL : L ≤ 3074) (C0 : lw_At p s m meth c b L xs) : W p l e room_1 s m #[Value.ref b] below meth c s.heap [] 0 0 (lw_Z below #[Value.ref b] s) (entryFrame m ([Value.ref b] : List Value).toArray 7) := by
  obtain ⟨hx, hb, hr, hml, hown, hts, hX, hbl, hlocks, hgv⟩ := C0
  have hg : ∀ w ∈ GW, w.before #[Value.ref b] s = true := fun w h => hts w (gw_in h)
  have hAO : va_AO "GcdMill$Whole" s := va_AO.of (hts _ (tb1 36 rfl))
  obtain ⟨D, ca, lc, hK⟩ := en_K hg hAO
  have hTW : TW (A0 s) s s.heap := en_TW hts hgv ⟨_, (hK.1 9 _ rfl).2.1⟩
  obtain ⟨n, hn2, hn, hnk⟩ := en_clamp (cellV L xs 0) 16 16 rfl (by decide)
  obtain ⟨w, hw2, hw, hwk⟩ := en_clamp (cellV L xs 1) 40 40 rfl (by decide)
  have cx : CLx p s m #[Value.ref b] c D ca := ⟨hx, hb, hml, hown, hg, hK.tl⟩
  have hl := lv_entry [.ref b] (n := 7) (Nat.le_of_ble_eq_true rfl)
  rw [lg_entry_eq]
  exact t_body cx hAO hK hL hX hbl hr hlocks hst hTW hn2 hw2 rfl rfl rfl hw hn hnk hwk s.heap [] _ (fun k q hk => by cases hk) va_S.rf hl
end Start
