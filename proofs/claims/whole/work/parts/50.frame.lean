/-! Frames of methods that move references: X wholes, O other objects whose fields change -/
def Fs (G : SH) (M N : MS) (X O : List Nat) : Prop := (∀ y ∈ X, Is G 8 y) ∧ (∀ o ∈ O, G.2.1 o ≠ 8) ∧ (∀ a k, a ∉ O → mR N a k = mR M a k) ∧ (∀ a k, a ∉ O → mJ N a k = mJ M a k) ∧ (∀ a k, a ∉ X → a ∉ O → mI N a k = mI M a k) ∧ ∀ q, (∀ x ∈ X, q ≠ mR M x 0) → mA N q = mA M q
theorem Fs.rf {G : SH} {M : MS} {X O : List Nat} (h : ∀ y ∈ X, Is G 8 y) (h2 : ∀ o ∈ O, G.2.1 o ≠ 8) : Fs G M M X O := ⟨h, h2, fun _ _ _ => rfl, fun _ _ _ => rfl, fun _ _ _ _ => rfl, fun _ _ => rfl⟩
theorem Fs.lim0 {G : SH} {M N : MS} {X O : List Nat} (h : Fs G M N X O) {x : Nat} (hx : Is G 8 x) : mR N x 0 = mR M x 0 := h.2.2.1 x 0 (fun z => h.2.1 x z hx.2)
theorem Fs.tr {G : SH} {M N P : MS} {X O : List Nat} (h1 : Fs G M N X O) (h2 : Fs G N P X O) : Fs G M P X O :=
  ⟨h1.1, h1.2.1, fun a k h => (h2.2.2.1 a k h).trans (h1.2.2.1 a k h), fun a k h => (h2.2.2.2.1 a k h).trans (h1.2.2.2.1 a k h), fun a k h h' => (h2.2.2.2.2.1 a k h h').trans (h1.2.2.2.2.1 a k h h'), fun q h => (h2.2.2.2.2.2 q (fun x hx => by rw [h1.lim0 (h1.1 x hx)]; exact h x hx)).trans (h1.2.2.2.2.2 q h)⟩
theorem Fs.room {G : SH} {M N : MS} {X O : List Nat} (h : Fs G M N X O) {x : Nat} (hx : Is G 8 x) : rmw G N x = rmw G M x := by
  unfold rmw
  rw [h.lim0 hx]
theorem Fs.ok {G : SH} {M N : MS} {X O : List Nat} (h : Fs G M N X O) (hO : Ok G M) : Ok G N :=
  ⟨fun x hx => by rw [h.room hx]; exact hO.1 x hx, fun x y hx hy e => hO.2 x y hx hy (by rw [← h.lim0 hx, ← h.lim0 hy, e])⟩
theorem Fs.wh {G : SH} {M N : MS} {X O : List Nat} (h : Fs G M N X O) (hO : Ok G M) {x v : Nat} {b : Bool} (hx : Is G 8 x) (hn : x ∉ X) (hw : Wh G M x v b) : Wh G N x v b := by
  obtain ⟨a1, a2, a3, a4⟩ := hw
  have hxo : x ∉ O := fun z => h.2.1 x z hx.2
  have e : dgt N x = dgt M x := by
    unfold dgt
    rw [h.lim0 hx, h.2.2.2.2.2 (mR M x 0) (fun y hy e => hn (by rw [hO.2 x y hx (h.1 y hy) e]; exact hy))]
  exact ⟨by rw [h.room hx]; exact a1, by rw [h.2.2.2.2.1 x 1 hn hxo]; exact a2, by rw [e]; exact a3, by rw [h.2.2.2.2.1 x 2 hn hxo]; exact a4⟩
theorem Fr.fs {G : SH} {M N : MS} {X Y O : List Nat} (h : Fr G M N Y) (hX : ∀ y ∈ X, Is G 8 y) (hO : ∀ o ∈ O, G.2.1 o ≠ 8) (hs : ∀ y ∈ Y, y ∈ X) : Fs G M N X O :=
  ⟨hX, hO, fun a k _ => h.2.1 a k, fun a k _ => h.2.2.1 a k, fun a k q _ => h.2.2.2.1 a k (fun z => q (hs a z)), fun q z => h.2.2.2.2 q (fun x hx => z x (hs x hx))⟩
theorem Fs.mono {G : SH} {M N : MS} {X Y O P : List Nat} (h : Fs G M N Y P) (hX : ∀ y ∈ X, Is G 8 y) (hO : ∀ o ∈ O, G.2.1 o ≠ 8) (hs : ∀ y ∈ Y, y ∈ X) (ht : ∀ y ∈ P, y ∈ O) : Fs G M N X O :=
  ⟨hX, hO, fun a k q => h.2.2.1 a k (fun z => q (ht a z)), fun a k q => h.2.2.2.1 a k (fun z => q (ht a z)), fun a k q q2 => h.2.2.2.2.1 a k (fun z => q (hs a z)) (fun z => q2 (ht a z)), fun q z => h.2.2.2.2.2 q (fun x hx => z x (hs x hx))⟩
theorem mR_wR (M : MS) (a k b j : Nat) (v : Nat) : mR (wR M a k v) b j = if b = a ∧ j = k then v else mR M b j := rfl
theorem mI_wR (M : MS) (a k b j : Nat) (v : Nat) : mI (wR M a k v) b j = mI M b j := rfl
theorem mJ_wR (M : MS) (a k b j : Nat) (v : Nat) : mJ (wR M a k v) b j = mJ M b j := rfl
theorem mA_wR (M : MS) (a k b : Nat) (v : Nat) : mA (wR M a k v) b = mA M b := rfl
theorem mR_wR_s (M : MS) (a k v : Nat) : mR (wR M a k v) a k = v := by rw [mR_wR, if_pos ⟨rfl, rfl⟩]
theorem mR_wR_k (M : MS) {a k b j : Nat} (v : Nat) (h : j ≠ k) : mR (wR M a k v) b j = mR M b j := by rw [mR_wR, if_neg (fun q => h q.2)]
theorem mR_wR_a (M : MS) {a k b j : Nat} (v : Nat) (h : b ≠ a) : mR (wR M a k v) b j = mR M b j := by rw [mR_wR, if_neg (fun q => h q.1)]
theorem mJ_wJ (M : MS) (a k b j : Nat) (v : Int64) : mJ (wJ M a k v) b j = if b = a ∧ j = k then v else mJ M b j := rfl
theorem mJ_wJ_s (M : MS) (a k : Nat) (v : Int64) : mJ (wJ M a k v) a k = v := by rw [mJ_wJ, if_pos ⟨rfl, rfl⟩]
theorem mJ_wJ_k (M : MS) {a k b j : Nat} (v : Int64) (h : j ≠ k) : mJ (wJ M a k v) b j = mJ M b j := by rw [mJ_wJ, if_neg (fun q => h q.2)]
theorem mI_wJ (M : MS) (a k b j : Nat) (v : Int64) : mI (wJ M a k v) b j = mI M b j := rfl
theorem mR_wJ (M : MS) (a k b j : Nat) (v : Int64) : mR (wJ M a k v) b j = mR M b j := rfl
theorem mA_wJ (M : MS) (a k b : Nat) (v : Int64) : mA (wJ M a k v) b = mA M b := rfl
theorem Fs.wR {G : SH} {M : MS} {o : Nat} (ho : G.2.1 o ≠ 8) (k v : Nat) : Fs G M (wR M o k v) [] [o] :=
  ⟨fun y hy => by simp at hy, all1 ho, fun a j h => mR_wR_a M v (fun e => h (by simp [e])), fun _ _ _ => rfl, fun _ _ _ _ => rfl, fun _ _ => rfl⟩
theorem Fs.wIo {G : SH} {M : MS} {o : Nat} (ho : G.2.1 o ≠ 8) (k : Nat) (v : Int32) : Fs G M (wI M o k v) [] [o] :=
  ⟨fun y hy => by simp at hy, all1 ho, fun _ _ _ => rfl, fun _ _ _ => rfl, fun a j _ h => mI_wI_a M v (fun e => h (by simp [e])), fun _ _ => rfl⟩
theorem Fs.wJ {G : SH} {M : MS} {o : Nat} (ho : G.2.1 o ≠ 8) (k : Nat) (v : Int64) : Fs G M (wJ M o k v) [] [o] :=
  ⟨fun y hy => by simp at hy, all1 ho, fun _ _ _ => rfl, fun a j h => by rw [mJ_wJ, if_neg (fun e => h (by simp [e.1]))], fun _ _ _ _ => rfl, fun _ _ => rfl⟩
/-- a whole's sign put to 0 -/
theorem Wh.pos {G : SH} {M : MS} {x v : Nat} {b : Bool} (h : Wh G M x v b) : Wh G (wI M x 2 0) x v false := ⟨h.1, by rw [mI_wI_k M 0 (by decide)]; exact h.2.1, h.2.2.1, mI_wI_s M x 2 0⟩
/-! Euclid's way: how many turns -/
theorem nl_half {u r : Nat} (h : 2 * r < u) : nl 2 r < nl 2 u := by
  have h1 : r ≤ u / 2 := by omega
  have h2 := nl_mono (B := 2) (by decide) h1
  rw [nl_pos (B := 2) (v := u) (by decide) (by omega)]
  omega
def EM (u v : Nat) : Nat := nl 2 u + nl 2 v + (if u < v then 1 else 0)
theorem EM_lt {u v : Nat} (h : 0 < v) : EM v (u % v) < EM u v := by
  unfold EM
  have h1 := Nat.mod_lt u h
  rw [if_neg (by omega)]
  by_cases c : u < v
  · rw [if_pos c, Nat.mod_eq_of_lt c]
    omega
  · rw [if_neg c]
    have h2 : u % v ≤ u - v := by
      rw [Nat.mod_eq_sub_mod (by omega)]
      exact Nat.mod_le _ _
    have := nl_half (u := u) (r := u % v) (by omega)
    omega
theorem nl2_le {v n : Nat} (h : nl BB v ≤ n) : nl 2 v ≤ 32 * n := by
  rw [nl_le (by decide), ← BBp]
  exact (nl_le BB1 n v).mp h
theorem EM_le {u v n : Nat} (hu : nl BB u ≤ n) (hv : nl BB v ≤ n) : EM u v ≤ 64 * n + 1 := by
  have h1 := nl2_le hu
  have h2 := nl2_le hv
  unfold EM
  by_cases c : u < v
  · rw [if_pos c]; omega
  · rw [if_neg c]; omega
/-! DIVISORS: begin, byQuotients -/
/-- the rows of a Divisors object: x is its divider's row -/
def DvR (G : SH) (M : MS) (o dv x qd u v w : Nat) : Prop := mR M o 0 = dv ∧ mR M dv 0 = x ∧ mR M o 1 = qd ∧ mR M o 2 = u ∧ mR M o 3 = v ∧ mR M o 4 = w
theorem s_begin {G : SH} {M : MS} {o dv x qd u v w a b va vb : Nat} {sa sb : Bool} (hO : Ok G M) (ho : G.2.1 o ≠ 8) (hu : Is G 8 u) (hv : Is G 8 v) (ha : Is G 8 a) (hb : Is G 8 b) (hR : DvR G M o dv x qd u v w) (huv : u ≠ v) (hbu : b ≠ u) (wa : Wh G M a va sa) (wb : Wh G M b vb sb) (r1 : nl BB va ≤ rmw G M u) (r2 : nl BB vb ≤ rmw G M v) {Q : MS → Prop}
    (hQ : ∀ N, Fr G M N [u, v] → DvR G N o dv x qd u v w → Wh G N u va false → Wh G N v vb false → Q N) : w_X1_begin G o a b M Q := by
  unfold w_X1_begin
  obtain ⟨e0, e1, e2, e3, e4, e5⟩ := hR
  rw [e3]
  refine s_copy hO hu ha wa r1 (fun M2 f2 w2 => ?_)
  intro M4 eM4
  rw [f2.2.1, e3] at eM4
  have hO2 := f2.ok hO
  have f4 : Fr G M2 M4 [u] := by rw [eM4]; exact Fr.wI hu 2 0
  have w4 : Wh G M4 u va false := by rw [eM4]; exact w2.pos
  have f24 := f2.tr1 f4
  have hO4 := f24.ok hO
  rw [f24.2.1, e4]
  refine s_copy hO4 hv hb (f24.wh hO hb (ni1 hbu) wb) (by rw [f24.room]; exact r2) (fun M6 f6 w6 => ?_)
  intro M8 eM8
  rw [f6.2.1, f24.2.1, e4] at eM8
  have hO6 := f6.ok hO4
  have f8 : Fr G M6 M8 [v] := by rw [eM8]; exact Fr.wI hv 2 0
  have w8 : Wh G M8 v vb false := by rw [eM8]; exact w6.pos
  have f68 := f6.tr1 f8
  have fall : Fr G M M8 [u, v] := (f24.mono (all2 hu hv) (by simp)).tr1 (f68.mono (all2 hu hv) (by simp))
  have r := fall.2.1
  exact hQ M8 fall ⟨by rw [r]; exact e0, by rw [r]; exact e1, by rw [r]; exact e2, by rw [r]; exact e3, by rw [r]; exact e4, by rw [r]; exact e5⟩ (f68.wh hO4 hu (ni1 huv) w4) w8
theorem s_byQ_loop {G : SH} {o dv x qd c rm : Nat} {X : List Nat} (hX : ∀ y ∈ X, Is G 8 y) (ho : G.2.1 o ≠ 8) (hdo : dv ≠ o) (hrm : c < rm) (hrm2 : rm ≤ 100) {g : Nat} {Q : Nat → MS → Prop} {M0 : MS} (hO0 : Ok G M0) (hx : x ∈ X) (hq : qd ∈ X) (hxq : x ≠ qd) (hroom : ∀ y ∈ X, rmw G M0 y = rm)
    (hQ : ∀ N u v w, Fs G M0 N X [o] → DvR G N o dv x qd u v w → u ∈ X → v ∈ X → w ∈ X → [x, qd, u, v, w].Nodup → Wh G N u g false → Q u N) :
    ∀ (n : Nat) (M : MS) (u v w pu pv t : Nat), Fs G M0 M X [o] → DvR G M o dv x qd u v w → u ∈ X → v ∈ X → w ∈ X → [x, qd, u, v, w].Nodup → Wh G M u pu false → Wh G M v pv false → nl BB pu ≤ c → nl BB pv ≤ c → Nat.gcd pu pv = g → EM pu pv < n → t + EM pu pv ≤ 10000 → w_X1_byQuotients_8 G Q n o (nI t) M
  | 0, M, u, v, w, pu, pv, t, _, _, _, _, _, _, _, _, _, _, _, hn, _ => absurd hn (Nat.not_lt_zero _)
  | n + 1, M, u, v, w, pu, pv, t, f1, hR, hu, hv, hw, hnd, wu, wv, cu, cv, hg, hn, ht => by
    have hO := f1.ok hO0
    obtain ⟨e0, e1, e2, e3, e4, e5⟩ := id hR
    simp only [List.nodup_cons, List.mem_cons, List.not_mem_nil, or_false, not_or, List.nodup_nil, and_true, not_false_eq_true] at hnd
    obtain ⟨⟨n1, n2, n3, n4⟩, ⟨n5, n6, n7⟩, ⟨n8, n9⟩, n10⟩ := hnd
    rw [w_X1_byQuotients_8, e3, e4, wv.2.1, nI_le0 (by omega), nl_v0, show (1000000 : Int32) = nI 1000000 from rfl, nI_leI (by decide) (by omega)]
    have nd : [x, qd, u, v, w].Nodup := by simp only [List.nodup_cons, List.mem_cons, List.not_mem_nil, or_false, not_or, List.nodup_nil, and_true, not_false_eq_true]; exact ⟨⟨n1, n2, n3, n4⟩, ⟨n5, n6, n7⟩, ⟨n8, n9⟩, n10⟩
    refine ⟨fun h => absurd h (by omega), fun _ => ⟨fun h => ?_, fun h => ?_⟩⟩
    · subst h
      rw [Nat.gcd_zero_right] at hg
      subst hg
      exact hQ M u v w f1 hR hu hv hw nd wu
    · rw [e0, e2, e5]
      have hpv : 0 < pv := by omega
      have rx := f1.room (hX x hx)
      have rq := f1.room (hX qd hq)
      have rw' := f1.room (hX w hw)
      have r0 := hroom x hx
      have r1 := hroom qd hq
      have r2 := hroom w hw
      refine s_split hO (hX qd hq) (hX w hw) (hX x hx) (hX u hu) (hX v hv) e1 n7 n1 n4 n2 n3 (Ne.symm n5) n9 (Ne.symm n6) n10 wu wv hpv (by omega) (by omega) (by omega) (fun M10 f10 _ w10 => ?_)
      intro M13 e13 M15 e15 M16 e16 x3 ex3
      have hO10 := f10.ok hO
      have wu10 := f10.wh hO (hX u hu) (ni3 (Ne.symm n5) n9 (Ne.symm n2)) wu
      have wv10 := f10.wh hO (hX v hv) (ni3 (Ne.symm n6) n10 (Ne.symm n3)) wv
      have r := f10.2.1
      rw [r, e4] at e13
      rw [e13, mR_wR_k M10 _ (by decide), r, e5] at e15
      rw [r, e3] at e16
      have g1 : Fs G M10 M16 [] [o] := by
        rw [e16, e15]
        exact ((Fs.wR ho _ _).tr (Fs.wR ho _ _)).tr (Fs.wR ho _ _)
      have fx : Fs G M M10 X [o] := f10.fs hX (all1 ho) (all3 hq hw hx)
      have fy : Fs G M10 M16 X [o] := g1.mono hX (all1 ho) (by simp) (by simp)
      have hR16 : DvR G M16 o dv x qd v w u := by
        refine ⟨?_, ?_, ?_, ?_, ?_, ?_⟩
        · rw [e16, e15, mR_wR_k _ _ (by decide), mR_wR_k _ _ (by decide), mR_wR_k _ _ (by decide), r]; exact e0
        · rw [g1.2.2.1 dv 0 (ni1 hdo), r]; exact e1
        · rw [e16, e15, mR_wR_k _ _ (by decide), mR_wR_k _ _ (by decide), mR_wR_k _ _ (by decide), r]; exact e2
        · rw [e16, e15, mR_wR_k _ _ (by decide), mR_wR_k _ _ (by decide), mR_wR_s]
        · rw [e16, e15, mR_wR_k _ _ (by decide), mR_wR_s]
        · rw [e16, mR_wR_s]
      have hEM := EM_lt (u := pu) hpv
      rw [ex3, nI_1]
      refine s_byQ_loop hX ho hdo hrm hrm2 hO0 hx hq hxq hroom hQ n M16 v w u pv (pu % pv) (t + 1) ((f1.tr fx).tr fy) hR16 hv hw hu ?_ (g1.wh hO10 (hX v hv) (by simp) wv10) (g1.wh hO10 (hX w hw) (by simp) w10) cv (Nat.le_trans (nl_mono BB1 (Nat.mod_le _ _)) cu) ?_ (by omega) (by omega)
      · simp only [List.nodup_cons, List.mem_cons, List.not_mem_nil, or_false, not_or, List.nodup_nil, and_true, not_false_eq_true]
        exact ⟨⟨n1, n3, n4, n2⟩, ⟨n6, n7, n5⟩, ⟨n10, Ne.symm n8⟩, Ne.symm n9⟩
      · rw [← hg, Nat.gcd_comm pu pv, Nat.gcd_rec pv pu, Nat.gcd_comm]
