/-! TAPE: an object o with its bytes q -/
def Fg (G : SH) (M N : MS) (X O L : List Nat) : Prop := (∀ y ∈ X, Is G 8 y) ∧ (∀ o ∈ O, G.2.1 o ≠ 8) ∧ (∀ a k, a ∉ O → mR N a k = mR M a k) ∧ (∀ a k, a ∉ O → mJ N a k = mJ M a k) ∧ (∀ a k, a ∉ X → a ∉ O → mI N a k = mI M a k) ∧ ∀ q, q ∉ L → (∀ x ∈ X, q ≠ mR M x 0) → mA N q = mA M q
theorem Fg.rf {G : SH} {M : MS} {X O L : List Nat} (h : ∀ y ∈ X, Is G 8 y) (h2 : ∀ o ∈ O, G.2.1 o ≠ 8) : Fg G M M X O L := ⟨h, h2, fun _ _ _ => rfl, fun _ _ _ => rfl, fun _ _ _ _ => rfl, fun _ _ _ => rfl⟩
theorem Fg.lim0 {G : SH} {M N : MS} {X O L : List Nat} (h : Fg G M N X O L) {x : Nat} (hx : Is G 8 x) : mR N x 0 = mR M x 0 := h.2.2.1 x 0 (fun z => h.2.1 x z hx.2)
theorem Fg.tr {G : SH} {M N P : MS} {X O L : List Nat} (h1 : Fg G M N X O L) (h2 : Fg G N P X O L) : Fg G M P X O L :=
  ⟨h1.1, h1.2.1, fun a k h => (h2.2.2.1 a k h).trans (h1.2.2.1 a k h), fun a k h => (h2.2.2.2.1 a k h).trans (h1.2.2.2.1 a k h), fun a k h h' => (h2.2.2.2.2.1 a k h h').trans (h1.2.2.2.2.1 a k h h'), fun q hq h => (h2.2.2.2.2.2 q hq (fun x hx => by rw [h1.lim0 (h1.1 x hx)]; exact h x hx)).trans (h1.2.2.2.2.2 q hq h)⟩
theorem Fg.room {G : SH} {M N : MS} {X O L : List Nat} (h : Fg G M N X O L) {x : Nat} (hx : Is G 8 x) : rmw G N x = rmw G M x := by
  unfold rmw
  rw [h.lim0 hx]
theorem Fg.ok {G : SH} {M N : MS} {X O L : List Nat} (h : Fg G M N X O L) (hO : Ok G M) : Ok G N :=
  ⟨fun x hx => by rw [h.room hx]; exact hO.1 x hx, fun x y hx hy e => hO.2 x y hx hy (by rw [← h.lim0 hx, ← h.lim0 hy, e])⟩
theorem Fg.wh {G : SH} {M N : MS} {X O L : List Nat} (h : Fg G M N X O L) (hO : Ok G M) {x v : Nat} {b : Bool} (hx : Is G 8 x) (hn : x ∉ X) (hq : mR M x 0 ∉ L) (hw : Wh G M x v b) : Wh G N x v b := by
  obtain ⟨a1, a2, a3, a4⟩ := hw
  have hxo : x ∉ O := fun z => h.2.1 x z hx.2
  have e : dgt N x = dgt M x := by
    unfold dgt
    rw [h.lim0 hx, h.2.2.2.2.2 (mR M x 0) hq (fun y hy e => hn (by rw [hO.2 x y hx (h.1 y hy) e]; exact hy))]
  exact ⟨by rw [h.room hx]; exact a1, by rw [h.2.2.2.2.1 x 1 hn hxo]; exact a2, by rw [e]; exact a3, by rw [h.2.2.2.2.1 x 2 hn hxo]; exact a4⟩
theorem Fs.fg {G : SH} {M N : MS} {X Y O P L : List Nat} (h : Fs G M N Y P) (hX : ∀ y ∈ X, Is G 8 y) (hO : ∀ o ∈ O, G.2.1 o ≠ 8) (hs : ∀ y ∈ Y, y ∈ X) (ht : ∀ y ∈ P, y ∈ O) : Fg G M N X O L :=
  ⟨hX, hO, fun a k q => h.2.2.1 a k (fun z => q (ht a z)), fun a k q => h.2.2.2.1 a k (fun z => q (ht a z)), fun a k q q2 => h.2.2.2.2.1 a k (fun z => q (hs a z)) (fun z => q2 (ht a z)), fun q _ z => h.2.2.2.2.2 q (fun x hx => z x (hs x hx))⟩
theorem Fr.fg {G : SH} {M N : MS} {X Y O L : List Nat} (h : Fr G M N Y) (hX : ∀ y ∈ X, Is G 8 y) (hO : ∀ o ∈ O, G.2.1 o ≠ 8) (hs : ∀ y ∈ Y, y ∈ X) : Fg G M N X O L :=
  ⟨hX, hO, fun a k _ => h.2.1 a k, fun a k _ => h.2.2.1 a k, fun a k q _ => h.2.2.2.1 a k (fun z => q (hs a z)), fun q _ z => h.2.2.2.2 q (fun x hx => z x (hs x hx))⟩
theorem Fg.wA {G : SH} {M : MS} {q : Nat} {X O L : List Nat} (hX : ∀ y ∈ X, Is G 8 y) (hO : ∀ o ∈ O, G.2.1 o ≠ 8) (hq : q ∈ L) (f : Nat → Int32) : Fg G M (wA M q f) X O L :=
  ⟨hX, hO, fun _ _ _ => rfl, fun _ _ _ => rfl, fun _ _ _ _ => rfl, fun b hb _ => mA_wA_ne (fun e => hb (by rw [e]; exact hq))⟩
theorem Fg.wI {G : SH} {M : MS} {o : Nat} {X O L : List Nat} (hX : ∀ y ∈ X, Is G 8 y) (hO : ∀ o ∈ O, G.2.1 o ≠ 8) (ho : o ∈ O) (k : Nat) (v : Int32) : Fg G M (wI M o k v) X O L :=
  ⟨hX, hO, fun _ _ _ => rfl, fun _ _ _ => rfl, fun a j _ h => mI_wI_a M v (fun e => h (by rw [e]; exact ho)), fun _ _ _ => rfl⟩
/-- the tape's octets tb, h of them, of which L have room -/
def Tp (G : SH) (M : MS) (o q : Nat) (tb : Nat → Int32) (h L : Nat) : Prop := mR M o 1 = q ∧ G.2.2.1 q = L ∧ L ≤ 100000 ∧ h ≤ L ∧ mI M o 0 = nI h ∧ ∀ i, i < h → mA M q i = tb i
/-- the octet of v that k bits stand below -/
def byt (v k : Int32) : Int32 := ((v.toUInt32 >>> (k.toUInt32 &&& Int32.toUInt32 31)).toInt32).toInt8.toInt32
theorem i8i8 (x : Int32) : x.toInt8.toInt32.toInt8.toInt32 = x.toInt8.toInt32 := by simp
def tset (tb : Nat → Int32) (h : Nat) (x : Int32) : Nat → Int32 := fun i => if i = h then x else tb i
theorem Tp.add {G : SH} {M : MS} {o q h L : Nat} {tb : Nat → Int32} (t : Tp G M o q tb h L) (hh : h < L) (x : Int32) (j : Int32) (hj : j = nI (h + 1)) : Tp G (wI (wA M q (upd (mA M q) h x)) o 0 j) o q (tset tb h x) (h + 1) L := by
  obtain ⟨a1, a2, a3, a4, a5, a6⟩ := t
  refine ⟨a1, a2, a3, hh, by rw [mI_wI_s]; exact hj, fun i hi => ?_⟩
  rw [mA_wI, mA_wA]
  show (if i = h then x else mA M q i) = (if i = h then x else tb i)
  by_cases c : i = h
  · rw [if_pos c, if_pos c]
  · rw [if_neg c, if_neg c]
    exact a6 i (by omega)
/-- the four octets of v behind h -/
def tap (tb : Nat → Int32) (h : Nat) (v : Int32) : Nat → Int32 := tset (tset (tset (tset tb h (byt v 24)) (h + 1) (byt v 16)) (h + 2) (byt v 8)) (h + 3) (byt v 0)
theorem s_append {G : SH} {M : MS} {o q h L : Nat} {tb : Nat → Int32} {v : Int32} (t : Tp G M o q tb h L) (hL : h + 4 ≤ L) (ho : G.2.1 o ≠ 8) {Q : MS → Prop}
    (hQ : ∀ N, Fg G M N [] [o] [q] → Tp G N o q (tap tb h v) (h + 4) L → Q N) : w_X8_append G o v M Q := by
  unfold w_X8_append
  have step : ∀ (M' : MS) (tb' : Nat → Int32) (h' n : Nat) (k k2 : Int32), Tp G M' o q tb' h' L → h' < L → ¬ k < 0 → k + (-8) = k2 → (∀ N, Fg G M' N [] [o] [q] → Tp G N o q (tset tb' h' (byt v k)) (h' + 1) L → w_X8_append_3 G Q n o v k2 N) → w_X8_append_3 G Q (n + 1) o v k M' := by
    intro M' tb' h' n k k2 t' hl hk hk2 hn
    obtain ⟨a1, a2, a3, a4, a5, a6⟩ := id t'
    rw [w_X8_append_3, a1, a2, a5, nI_leI (by omega) (by omega), cl (by omega)]
    refine ⟨fun z => absurd z hk, fun _ => ⟨fun z => absurd z (by omega), fun _ => ⟨vp_in_nI hl (by omega), fun M3 e3 M4 e4 x2 ex2 => ?_⟩⟩⟩
    rw [ex2, hk2]
    have e3' : mI M3 o 0 = nI h' := by rw [e3, mI_wA]; exact a5
    rw [e3', nI_1] at e4
    have f3 : Fg G M' M3 [] [o] [q] := by rw [e3]; exact Fg.wA (by simp) (all1 ho) (by simp) _
    have f4 : Fg G M3 M4 [] [o] [q] := by rw [e4]; exact Fg.wI (by simp) (all1 ho) (by simp) _ _
    refine hn M4 (f3.tr f4) ?_
    have := t'.add hl (byt v k) (nI (h' + 1)) rfl
    rw [e4, e3, i8i8]
    exact this
  refine ⟨5, ?_⟩
  refine step M tb h 4 24 16 t (by omega) (by decide) (by decide) (fun N1 f1 t1 => ?_)
  refine step N1 _ (h + 1) 3 16 8 t1 (by omega) (by decide) (by decide) (fun N2 f2 t2 => ?_)
  refine step N2 _ (h + 1 + 1) 2 8 0 t2 (by omega) (by decide) (by decide) (fun N3 f3 t3 => ?_)
  refine step N3 _ (h + 1 + 1 + 1) 1 0 (-8) t3 (by omega) (by decide) (by decide) (fun N4 f4 t4 => ?_)
  rw [w_X8_append_3]
  exact ⟨fun _ => hQ N4 (((f1.tr f2).tr f3).tr f4) t4, fun z => absurd (by decide) z⟩
/-- is the first octet a minus? -/
def mns (tb : Nat → Int32) (h : Nat) : Bool := decide (0 < h) && decide (tb 0 = 45)
def frm (tb : Nat → Int32) (h : Nat) : Nat := if mns tb h then 1 else 0
theorem s_hasMinus {G : SH} {M : MS} {o q h L : Nat} {tb : Nat → Int32} (t : Tp G M o q tb h L) {Q : Int32 → MS → Prop} (hQ : Q (if mns tb h then 1 else 0) M) : w_X8_hasMinus G o M Q := by
  unfold w_X8_hasMinus
  obtain ⟨a1, a2, a3, a4, a5, a6⟩ := t
  rw [a1, a2, a5, nI_le0 (by omega)]
  unfold mns at hQ
  refine ⟨fun z => ?_, fun z => ⟨by rw [← nI_0]; exact vp_in_nI (by omega) (by omega), ?_⟩⟩
  · subst z
    exact hQ
  · have e : mA M q (0 : Int32).toNatClampNeg = tb 0 := a6 0 (by omega)
    rw [e]
    have hp : 0 < h := by omega
    rw [decide_eq_true hp, Bool.true_and] at hQ
    refine ⟨fun z2 => ?_, fun z2 => ?_⟩
    · rw [decide_eq_false z2] at hQ; exact hQ
    · rw [decide_eq_true z2] at hQ; exact hQ
theorem s_firstDigit {G : SH} {M : MS} {o q h L : Nat} {tb : Nat → Int32} (t : Tp G M o q tb h L) {Q : Int32 → MS → Prop} (hQ : Q (nI (frm tb h)) M) : w_X8_firstDigit G o M Q := by
  unfold w_X8_firstDigit
  refine s_hasMinus t ?_
  unfold frm at hQ
  cases hm : mns tb h
  · rw [hm] at hQ
    exact ⟨fun _ => hQ, fun z => absurd rfl z⟩
  · rw [hm] at hQ
    exact ⟨fun z => absurd z (by decide), fun _ => hQ⟩
/-- the tape is decimal -/
def isD (tb : Nat → Int32) (h : Nat) : Prop := frm tb h < h ∧ ∀ i, frm tb h ≤ i → i < h → ¬ tb i < 48 ∧ tb i ≤ 57
theorem s_isD_loop {G : SH} {M : MS} {o q h L : Nat} {tb : Nat → Int32} (t : Tp G M o q tb h L) {Q : Int32 → MS → Prop} (h1 : isD tb h → Q 1 M) (h0 : ¬ isD tb h → Q 0 M) : ∀ (k i : Nat), i + k = h → frm tb h ≤ i → (∀ j, frm tb h ≤ j → j < i → ¬ tb j < 48 ∧ tb j ≤ 57) → w_X8_isDecimal_7 G Q (k + 1) o (nI (frm tb h)) (nI i) M
  | 0, i, hi, hf, hd => by
    obtain ⟨a1, a2, a3, a4, a5, a6⟩ := t
    rw [w_X8_isDecimal_7, a5, nI_leI (by omega) (by omega), nI_leI (by omega) (by omega)]
    refine ⟨fun _ => ⟨fun z => h0 (fun w => ?_), fun z => h1 ⟨by omega, fun j j1 j2 => hd j j1 (by omega)⟩⟩, fun z => absurd (by omega) z⟩
    have := w.1
    omega
  | k + 1, i, hi, hf, hd => by
    obtain ⟨a1, a2, a3, a4, a5, a6⟩ := id t
    rw [w_X8_isDecimal_7, a1, a2, a5, nI_leI (by omega) (by omega), nI_leI (by omega) (by omega), cl (by omega), a6 i (by omega)]
    refine ⟨fun z => absurd z (by omega), fun _ => ⟨vp_in_nI (by omega) (by omega), fun z => h0 (fun w => absurd z (w.2 i hf (by omega)).1), fun z => ⟨vp_in_nI (by omega) (by omega), fun z2 x2 ex2 => ?_, fun z2 => h0 (fun w => z2 (w.2 i hf (by omega)).2)⟩⟩⟩
    rw [ex2, nI_1]
    refine s_isD_loop t h1 h0 k (i + 1) (by omega) (by omega) (fun j j1 j2 => ?_)
    rcases Nat.lt_or_ge j i with c | c
    · exact hd j j1 c
    · rw [show j = i by omega]; exact ⟨z, z2⟩
theorem frm_le (tb : Nat → Int32) (h : Nat) : frm tb h ≤ h := by
  unfold frm mns
  by_cases c : 0 < h
  · by_cases c2 : tb 0 = 45
    · rw [decide_eq_true c, decide_eq_true c2]; exact c
    · rw [decide_eq_true c, decide_eq_false c2]; exact Nat.zero_le _
  · rw [decide_eq_false c]; exact Nat.zero_le _
theorem s_isDecimal {G : SH} {M : MS} {o q h L : Nat} {tb : Nat → Int32} (t : Tp G M o q tb h L) {Q : Int32 → MS → Prop} (h1 : isD tb h → Q 1 M) (h0 : ¬ isD tb h → Q 0 M) : w_X8_isDecimal G o M Q := by
  unfold w_X8_isDecimal
  refine s_firstDigit t ?_
  have := frm_le tb h
  refine ⟨h - frm tb h + 1, ?_⟩
  exact s_isD_loop t h1 h0 (h - frm tb h) (frm tb h) (by omega) (Nat.le_refl _) (fun j j1 j2 => absurd j2 (by omega))
/-! foldIn -/
theorem s_fold_loop {G : SH} {x V s c0 : Nat} (hx : Is G 8 x) (hs : s ≤ 1000000000) {Q : MS → Prop} : ∀ (t i : Nat) (M : MS) (cy : Nat), i + t = nl BB V → Ok G M → nl BB V < rmw G M x → cy < 4294967296 → Up G M x V i → vl BB (dgt M x) i + cy * BB ^ i = s * (V % BB ^ i) + c0 → (∀ N, Fr G M N [x] → Wh G N x (s * V + c0) false → Q N) → ∃ n, w_X8_foldIn_12 G Q n x (nI s) (lN cy) (nI (nl BB V)) (nI i) M
  | 0, i, M, cy, hi, hO, hc, hcy, ux, hv, hQ => by
    refine ⟨1, ?_⟩
    have hr := hO.1 x hx
    obtain rfl : i = nl BB V := by omega
    rw [w_X8_foldIn_12, nI_leI (by omega) (by omega), nI_leI (by unfold rmw at hr; omega) (by omega), cl (by omega), nI_1, lN_i]
    refine ⟨fun _ => ⟨fun z => absurd z (by unfold rmw at hc; omega), fun _ => ⟨vp_in_nI (by unfold rmw at hc; omega) (by unfold rmw at hr; omega), fun N eN => ?_⟩⟩, fun h => absurd (Nat.le_refl _) h⟩
    have f0 : Fr G M N [x] := by rw [eN]; exact Fr.wA hx _
    refine s_keep (c := nl BB V + 1) (f0.ok hO) hx rfl (by rw [f0.room]; omega) (fun P f1 _ f3 => hQ P (f0.tr1 f1) ?_)
    have e : vl BB (dgt N x) (nl BB V + 1) = s * V + c0 := by
      rw [vl_s, eN, vl_put (Nat.le_refl _), dgt_put_s, u32_nI_lt hcy, hv, mod_all (Nat.le_refl _)]
    rw [e] at f3
    exact f3
  | t + 1, i, M, cy, hi, hO, hc, hcy, ux, hv, hQ => by
    have hr := hO.1 x hx
    have la := lim_l V i
    have hb : s * lim V i ≤ 1000000000 * 4294967295 := Nat.mul_le_mul hs (by omega)
    generalize hs2 : cy + s * lim V i = z
    have f0 : Fr G M (wA M (mR M x 0) (upd (mA M (mR M x 0)) i (nI z))) [x] := Fr.wA hx _
    obtain ⟨n, ih⟩ := s_fold_loop hx hs (Q := Q) t (i + 1) (wA M (mR M x 0) (upd (mA M (mR M x 0)) i (nI z))) (z / BB) (by omega) (f0.ok hO) (by rw [f0.room]; exact hc) (by show z / 4294967296 < 4294967296; omega) ux.put
      (by
        rw [vl_s, vl_put (Nat.le_refl _), dgt_put_s, u32_nI, mod_s, Nat.pow_succ]
        have h2 : 4294967296 * (z / 4294967296) + z % 4294967296 = z := Nat.div_add_mod _ _
        have e : z % 4294967296 * BB ^ i + z / BB * (BB ^ i * BB) = z * BB ^ i := by
          calc z % 4294967296 * BB ^ i + z / BB * (BB ^ i * BB) = (4294967296 * (z / 4294967296) + z % 4294967296) * BB ^ i := by show _ + z / 4294967296 * (BB ^ i * 4294967296) = _; grind
            _ = z * BB ^ i := by rw [h2]
        have e2 : z * BB ^ i = cy * BB ^ i + s * (lim V i * BB ^ i) := by rw [← hs2]; grind
        rw [Nat.mul_add]
        omega)
      (fun N f1 f2 => hQ N (f0.tr1 f1) f2)
    refine ⟨n + 1, ?_⟩
    rw [w_X8_foldIn_12, nI_leI (by omega) (by omega), cl (c := i) (by omega)]
    refine ⟨fun h => absurd h (by omega), fun _ => ?_⟩
    refine s_limb_up hO hx ux rfl (by omega) (Nat.le_refl _) ?_
    intro y ey
    rw [nI_l (by omega), lN_mul, lN_add, hs2] at ey
    refine ⟨vp_in_nI (by unfold rmw at hc; omega) (by unfold rmw at hr; omega), fun N eN z' ez w ew => ?_⟩
    rw [ey, lN_i] at eN
    rw [ey, ushr_lN32 (by omega)] at ez
    rw [ew, nI_1, ez, eN]
    exact ih
theorem s_foldIn {G : SH} {M : MS} {x V s c0 : Nat} {b : Bool} (hO : Ok G M) (hx : Is G 8 x) (hw : Wh G M x V b) (hr : nl BB V < rmw G M x) (hs : s ≤ 1000000000) (hc0 : c0 < 2147483648) {Q : MS → Prop} (hQ : ∀ N, Fr G M N [x] → Wh G N x (s * V + c0) false → Q N) : w_X8_foldIn G x (nI s) (nI c0) M Q := by
  unfold w_X8_foldIn
  intro y ey
  rw [ey, hw.2.1, nI_l (by omega), ← nI_0]
  exact s_fold_loop hx hs (nl BB V) 0 M c0 (by omega) hO hr (by omega) hw.up (by rw [vl_0, Nat.pow_zero, Nat.mod_one]; omega) hQ
