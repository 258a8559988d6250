theorem nd5 {x qd u v w : Nat} : [x, qd, u, v, w].Nodup ↔ (x ≠ qd ∧ x ≠ u ∧ x ≠ v ∧ x ≠ w) ∧ (qd ≠ u ∧ qd ≠ v ∧ qd ≠ w) ∧ (u ≠ v ∧ u ≠ w) ∧ v ≠ w := by
  simp only [List.nodup_cons, List.mem_cons, List.not_mem_nil, or_false, not_or, List.nodup_nil, and_true, not_false_eq_true, ne_eq]
theorem Fr.dvr {G : SH} {M N : MS} {X : List Nat} {o dv x qd u v w : Nat} (f : Fr G M N X) (h : DvR G M o dv x qd u v w) : DvR G N o dv x qd u v w := by
  have r := f.2.1
  obtain ⟨e0, e1, e2, e3, e4, e5⟩ := h
  exact ⟨by rw [r]; exact e0, by rw [r]; exact e1, by rw [r]; exact e2, by rw [r]; exact e3, by rw [r]; exact e4, by rw [r]; exact e5⟩
theorem s_byQuotients {G : SH} {M : MS} {o dv x qd u v w a b va vb rm : Nat} {sa sb : Bool} {X : List Nat} (hX : ∀ y ∈ X, Is G 8 y) (hO : Ok G M) (ho : G.2.1 o ≠ 8) (hdo : dv ≠ o) (hR : DvR G M o dv x qd u v w) (hx : x ∈ X) (hq : qd ∈ X) (hu : u ∈ X) (hv : v ∈ X) (hw : w ∈ X) (hnd : [x, qd, u, v, w].Nodup) (hroom : ∀ y ∈ X, rmw G M y = rm) (ha : Is G 8 a) (hb : Is G 8 b) (haX : a ∉ X) (hbX : b ∉ X) (wa : Wh G M a va sa) (wb : Wh G M b vb sb) (r1 : nl BB va < rm) (r2 : nl BB vb < rm) {Q : Nat → MS → Prop}
    (hQ : ∀ N u v w, Fs G M N X [o] → DvR G N o dv x qd u v w → u ∈ X → v ∈ X → w ∈ X → [x, qd, u, v, w].Nodup → Wh G N u (Nat.gcd va vb) false → Q u N) : w_X1_byQuotients G o a b M Q := by
  unfold w_X1_byQuotients
  have nd := nd5.mp hnd
  have h1 := hO.1 u (hX u hu)
  have hru := hroom u hu
  have hrv := hroom v hv
  refine s_begin hO ho (hX u hu) (hX v hv) ha hb hR nd.2.2.1.1 (fun e => hbX (by rw [e]; exact hu)) wa wb (by omega) (by omega) (fun N f1 hR1 wu wv => ?_)
  refine ⟨EM va vb + 1, ?_⟩
  have hEM := EM_le (u := va) (v := vb) (n := rm - 1) (by omega) (by omega)
  have fs1 : Fs G M N X [o] := f1.fs hX (all1 ho) (all2 hu hv)
  rw [← nI_0]
  exact s_byQ_loop (M0 := M) (c := rm - 1) (g := Nat.gcd va vb) hX ho hdo (by omega) (by omega) hO hx hq nd.1.1 hroom hQ (EM va vb + 1) N u v w va vb 0 fs1 hR1 hu hv hw hnd wu wv (by omega) (by omega) rfl (by omega) (by omega)
/-! byHalves -/
theorem nl_mulpow {g s : Nat} (h : 0 < g) : nl BB g + s / 32 ≤ nl BB (g * 2 ^ s) := by
  have e : nl BB (g * BB ^ (s / 32)) = nl BB g + s / 32 := by
    have := nl_div BB1 (s / 32) (g * BB ^ (s / 32)) (Nat.le_mul_of_pos_left _ h)
    rw [Nat.mul_div_cancel _ (powBB_pos _)] at this
    exact this
  rw [← e]
  refine nl_mono BB1 (Nat.mul_le_mul_left _ ?_)
  rw [BBp]
  exact Nat.pow_le_pow_right (by decide) (by omega)
theorem odd_cop {v : Nat} (h : v % 2 = 1) (k : Nat) : Nat.Coprime (2 ^ k) v := by
  refine Nat.Coprime.pow_left k ?_
  show Nat.gcd 2 v = 1
  rw [Nat.gcd_rec, h]
  decide
theorem gcd_odd {u v z : Nat} (hv : v % 2 = 1) (h : u = 2 ^ z * (u / 2 ^ z)) : Nat.gcd (u / 2 ^ z) v = Nat.gcd u v := by
  have := (odd_cop hv z).gcd_mul_left_cancel (u / 2 ^ z)
  rw [← h] at this
  exact this.symm
theorem tz_div {v : Nat} (h : 0 < v) : v = 2 ^ tz v * (v / 2 ^ tz v) ∧ v / 2 ^ tz v % 2 = 1 := by
  obtain ⟨w, h1, h2⟩ := tz_spec v h
  have hp : 0 < 2 ^ tz v := Nat.pow_pos (by decide)
  have e : v / 2 ^ tz v = w := Nat.div_eq_of_eq_mul_right hp h1
  rw [e]
  exact ⟨h1, h2⟩
theorem tz_lt {v n : Nat} (h : nl BB v ≤ n) : tz v ≤ 32 * n := by
  rcases Nat.eq_zero_or_pos v with z | z
  · rw [z, tz_0]; exact Nat.zero_le _
  · have h1 := tz_le z
    have h2 := (nl_le BB1 n v).mp h
    rw [BBp] at h2
    have : 2 ^ tz v < 2 ^ (32 * n) := Nat.lt_of_le_of_lt h1 h2
    exact Nat.le_of_lt ((Nat.pow_lt_pow_iff_right (by decide)).mp this)
theorem s_byH_loop {G : SH} {o dv x qd c rm s : Nat} {X : List Nat} (hX : ∀ y ∈ X, Is G 8 y) (ho : G.2.1 o ≠ 8) (hdo : dv ≠ o) (hrm : c < rm) (hrm2 : rm ≤ 100) {g : Nat} (hs : s < 1000000) (hg2 : nl BB (g * 2 ^ s) ≤ c) {Q : Nat → MS → Prop} {M0 : MS} (hO0 : Ok G M0) (hroom : ∀ y ∈ X, rmw G M0 y = rm)
    (hQ : ∀ N u v w, Fs G M0 N X [o] → DvR G N o dv x qd u v w → u ∈ X → v ∈ X → w ∈ X → [x, qd, u, v, w].Nodup → Wh G N u (g * 2 ^ s) false → Q u N) :
    ∀ (n : Nat) (M : MS) (u v w pu pv t : Nat), Fs G M0 M X [o] → DvR G M o dv x qd u v w → u ∈ X → v ∈ X → w ∈ X → [x, qd, u, v, w].Nodup → Wh G M u pu false → Wh G M v pv false → nl BB pu ≤ c → nl BB pv ≤ c → pu % 2 = 1 → pv % 2 = 1 → Nat.gcd pu pv = g → nl 2 pu + nl 2 pv < n → t + (nl 2 pu + nl 2 pv) ≤ 10000 → w_X1_byHalves_93 G Q n o (nI s) (nI t) M
  | 0, M, u, v, w, pu, pv, t, _, _, _, _, _, _, _, _, _, _, _, _, _, hn, _ => absurd hn (Nat.not_lt_zero _)
  | n + 1, M, u, v, w, pu, pv, t, f1, hR, hu, hv, hw, hnd, wu, wv, cu, cv, ou, ov, hg, hn, ht => by
    have hO := f1.ok hO0
    obtain ⟨e0, e1, e2, e3, e4, e5⟩ := id hR
    have nd := nd5.mp hnd
    -- one turn with u the greater
    have turn : ∀ (M : MS) (u v pu pv : Nat), Fs G M0 M X [o] → DvR G M o dv x qd u v w → u ∈ X → v ∈ X → [x, qd, u, v, w].Nodup → Wh G M u pu false → Wh G M v pv false → nl BB pu ≤ c → nl BB pv ≤ c → pu % 2 = 1 → pv % 2 = 1 → Nat.gcd pu pv = g → nl 2 pu + nl 2 pv < n + 1 → t + (nl 2 pu + nl 2 pv) ≤ 10000 → pv < pu → w_X1_byHalves_146 G (w_X1_byHalves_93 G Q n) Q o (nI s) (nI t) M := by
      intro M u v pu pv f1 hR hu hv hnd wu wv cu cv ou ov hg hn ht hlt
      have hO := f1.ok hO0
      obtain ⟨e0, e1, e2, e3, e4, e5⟩ := id hR
      have nd := nd5.mp hnd
      unfold w_X1_byHalves_146
      rw [e3, e4]
      have ru := f1.room (hX u hu)
      have ru0 := hroom u hu
      refine s_diff hO (hX u hu) (hX u hu) (hX v hv) wu wv (by omega) (by omega) (fun N g1 g2 => ?_)
      have hR1 := g1.dvr hR
      have hON := g1.ok hO
      have rN := g1.room u
      rw [hR1.2.2.2.1]
      refine s_lowZeros hON (hX u hu) g2 ?_
      have cN : nl BB (pu - pv) ≤ c := Nat.le_trans (nl_mono BB1 (Nat.sub_le _ _)) cu
      have htz := tz_lt cN
      refine s_shiftDown hON (hX u hu) (hX u hu) g2 rfl (by omega) (by omega) (fun P h1 h2 => ?_)
      intro x4 ex4
      have fMP := g1.tr1 h1
      have td := tz_div (v := pu - pv) (by omega)
      have hdl : (pu - pv) / 2 ^ tz (pu - pv) ≤ pu - pv := Nat.div_le_self _ _
      have hbig : (pu - pv) / 2 ^ tz (pu - pv) * 2 < pu := by
        have h1 : tz (pu - pv) ≠ 0 := by
          intro z
          rw [z, Nat.pow_zero, Nat.div_one] at td
          omega
        obtain ⟨k, hk⟩ : ∃ k, tz (pu - pv) = k + 1 := ⟨tz (pu - pv) - 1, by omega⟩
        have h2 := td.1
        rw [hk] at h2 ⊢
        have h3 : 2 ^ (k + 1) * ((pu - pv) / 2 ^ (k + 1)) = 2 ^ k * ((pu - pv) / 2 ^ (k + 1) * 2) := by rw [Nat.pow_succ]; grind
        have h4 : 1 * ((pu - pv) / 2 ^ (k + 1) * 2) ≤ 2 ^ k * ((pu - pv) / 2 ^ (k + 1) * 2) := Nat.mul_le_mul_right _ (Nat.pow_pos (by decide))
        omega
      have hnl := nl_half (u := pu) (r := (pu - pv) / 2 ^ tz (pu - pv)) (by omega)
      rw [ex4, nI_1]
      refine s_byH_loop hX ho hdo hrm hrm2 hs hg2 hO0 hroom hQ n P u v w _ pv (t + 1) (f1.tr (fMP.fs hX (all1 ho) (all1 hu))) (fMP.dvr hR) hu hv hw hnd h2 (fMP.wh hO (hX v hv) (ni1 nd.2.2.1.1.symm) wv) (Nat.le_trans (nl_mono BB1 hdl) cN) cv td.2 ov ?_ (by omega) (by omega)
      rw [gcd_odd ov td.1, Nat.gcd_sub_self_left (by omega), hg]
    rw [w_X1_byHalves_93, e3, e4, show (1000000 : Int32) = nI 1000000 from rfl, nI_leI (by decide) (by omega)]
    refine ⟨fun h => absurd h (by omega), fun _ => ?_⟩
    refine s_order hO (hX u hu) (hX v hv) wu wv ?_
    unfold cmpN
    by_cases c1 : pv < pu
    · rw [if_pos c1]
      refine ⟨fun _ => ⟨fun _ => turn M u v pu pv f1 hR hu hv hnd wu wv cu cv ou ov hg hn ht c1, fun h => absurd (by decide) h⟩, fun h => absurd h (by decide)⟩
    · rw [if_neg c1]
      by_cases c2 : pu = pv
      · rw [if_pos c2]
        refine ⟨fun h => absurd rfl h, fun _ => ?_⟩
        unfold w_X1_byHalves_185
        rw [e3]
        subst c2
        rw [Nat.gcd_self] at hg
        subst hg
        have hmp := nl_mulpow (g := pu) (s := s) (by omega)
        have ru := f1.room (hX u hu)
        have ru0 := hroom u hu
        refine s_shiftUp hO (hX u hu) (hX u hu) wu rfl (by omega) (by omega) (fun N g1 _ g2 => ?_)
        have hR1 := g1.dvr hR
        rw [hR1.2.2.2.1]
        exact hQ N u v w (f1.tr (g1.fs hX (all1 ho) (all1 hu))) hR1 hu hv hw hnd g2
      · rw [if_neg c2]
        refine ⟨fun _ => ⟨fun h => absurd h (by decide), fun _ M38 e38 M39 e39 => ?_⟩, fun h => absurd h (by decide)⟩
        have g1 : Fs G M M39 [] [o] := by
          rw [e39, e38]
          exact (Fs.wR ho _ _).tr (Fs.wR ho _ _)
        have hR39 : DvR G M39 o dv x qd v u w := by
          refine ⟨?_, ?_, ?_, ?_, ?_, ?_⟩
          · rw [e39, e38, mR_wR_k _ _ (by decide), mR_wR_k _ _ (by decide)]; exact e0
          · rw [g1.2.2.1 dv 0 (ni1 hdo)]; exact e1
          · rw [e39, e38, mR_wR_k _ _ (by decide), mR_wR_k _ _ (by decide)]; exact e2
          · rw [e39, e38, mR_wR_k _ _ (by decide), mR_wR_s]; exact e4
          · rw [e39, mR_wR_s]; exact e3
          · rw [e39, e38, mR_wR_k _ _ (by decide), mR_wR_k _ _ (by decide)]; exact e5
        refine turn M39 v u pv pu (f1.tr (g1.mono hX (all1 ho) (by simp) (by simp))) hR39 hv hu ?_ (g1.wh hO (hX v hv) (by simp) wv) (g1.wh hO (hX u hu) (by simp) wu) cv cu ov ou (by rw [Nat.gcd_comm]; exact hg) (by omega) (by omega) (by omega)
        exact nd5.mpr ⟨⟨nd.1.1, nd.1.2.2.1, nd.1.2.1, nd.1.2.2.2⟩, ⟨nd.2.1.2.1, nd.2.1.1, nd.2.1.2.2⟩, ⟨nd.2.2.1.1.symm, nd.2.2.2⟩, nd.2.2.1.2⟩
theorem gcd_halves {a b : Nat} (ha : 0 < a) (hb : 0 < b) : Nat.gcd a b = Nat.gcd (a / 2 ^ tz a) (b / 2 ^ tz b) * 2 ^ min (tz a) (tz b) := by
  have ta := tz_div ha
  have tb := tz_div hb
  generalize a / 2 ^ tz a = p at ta
  generalize b / 2 ^ tz b = q at tb
  generalize tz a = i at ta
  generalize tz b = j at tb
  rw [ta.1, tb.1]
  rcases Nat.le_total i j with h | h
  · obtain ⟨k, rfl⟩ : ∃ k, j = i + k := ⟨j - i, by omega⟩
    rw [Nat.min_eq_left h, Nat.pow_add, Nat.mul_assoc, Nat.gcd_mul_left, Nat.mul_comm]
    congr 1
    rw [Nat.gcd_comm, (odd_cop ta.2 k).gcd_mul_left_cancel, Nat.gcd_comm]
  · obtain ⟨k, rfl⟩ : ∃ k, i = j + k := ⟨i - j, by omega⟩
    rw [Nat.min_eq_right h, Nat.pow_add, Nat.mul_assoc, Nat.gcd_mul_left, Nat.mul_comm]
    congr 1
    exact (odd_cop tb.2 k).gcd_mul_left_cancel p
theorem s_byHalves {G : SH} {M : MS} {o dv x qd u v w a b va vb rm : Nat} {sa sb : Bool} {X : List Nat} (hX : ∀ y ∈ X, Is G 8 y) (hO : Ok G M) (ho : G.2.1 o ≠ 8) (hdo : dv ≠ o) (hR : DvR G M o dv x qd u v w) (hx : x ∈ X) (hq : qd ∈ X) (hu : u ∈ X) (hv : v ∈ X) (hw : w ∈ X) (hnd : [x, qd, u, v, w].Nodup) (hroom : ∀ y ∈ X, rmw G M y = rm) (ha : Is G 8 a) (hb : Is G 8 b) (haX : a ∉ X) (hbX : b ∉ X) (wa : Wh G M a va sa) (wb : Wh G M b vb sb) (r1 : nl BB va < rm) (r2 : nl BB vb < rm) {Q : Nat → MS → Prop}
    (hQ : ∀ N u v w r, Fs G M N X [o] → DvR G N o dv x qd u v w → u ∈ X → v ∈ X → w ∈ X → [x, qd, u, v, w].Nodup → r ∈ X → Wh G N r (Nat.gcd va vb) false → Q r N) : w_X1_byHalves G o a b M Q := by
  unfold w_X1_byHalves
  have nd := nd5.mp hnd
  have h1 := hO.1 u (hX u hu)
  have hru := hroom u hu
  have hrv := hroom v hv
  refine s_begin hO ho (hX u hu) (hX v hv) ha hb hR nd.2.2.1.1 (fun e => hbX (by rw [e]; exact hu)) wa wb (by omega) (by omega) (fun N f1 hR1 wu wv => ?_)
  have fs1 : Fs G M N X [o] := f1.fs hX (all1 ho) (all2 hu hv)
  rw [hR1.2.2.2.1, hR1.2.2.2.2.1, wu.2.1, wv.2.1, nI_eq0 (by omega), nI_eq0 (by omega), nl_v0, nl_v0]
  refine ⟨fun hv0 => ⟨fun hu0 => ?_, fun hu0 => ?_⟩, fun hv0 => ?_⟩
  · have hO1 := f1.ok hO
    refine s_lowZeros hO1 (hX u hu) wu ?_
    rw [hR1.2.2.2.2.1]
    refine s_lowZeros hO1 (hX v hv) wv ?_
    intro y ey
    have tu := tz_lt (v := va) (n := rm) (by omega)
    have tv := tz_lt (v := vb) (n := rm) (by omega)
    rw [mnI (by omega) (by omega)] at ey
    rw [hR1.2.2.2.1]
    refine s_lowZeros hO1 (hX u hu) wu ?_
    have ru := f1.room u
    have rv := f1.room v
    refine s_shiftDown hO1 (hX u hu) (hX u hu) wu rfl (by omega) (by omega) (fun P g1 g2 => ?_)
    have hRP := g1.dvr hR1
    have hOP := g1.ok hO1
    have wvP := g1.wh hO1 (hX v hv) (ni1 nd.2.2.1.1.symm) wv
    rw [hRP.2.2.2.2.1]
    refine s_lowZeros hOP (hX v hv) wvP ?_
    have rvP := g1.room v
    refine s_shiftDown hOP (hX v hv) (hX v hv) wvP rfl (by omega) (by omega) (fun S k1 k2 => ?_)
    have hRS := k1.dvr hRP
    have wuS := k1.wh hOP (hX u hu) (ni1 nd.2.2.1.1) g2
    have ta := tz_div (v := va) (by omega)
    have tb := tz_div (v := vb) (by omega)
    have eg := gcd_halves (a := va) (b := vb) (by omega) (by omega)
    have hgl : nl BB (Nat.gcd va vb) ≤ rm - 1 := Nat.le_trans (nl_mono BB1 (Nat.gcd_le_left vb (by omega))) (by omega)
    have n1 : nl BB (va / 2 ^ tz va) ≤ rm - 1 := Nat.le_trans (nl_mono BB1 (Nat.div_le_self _ _)) (by omega)
    have n2 : nl BB (vb / 2 ^ tz vb) ≤ rm - 1 := Nat.le_trans (nl_mono BB1 (Nat.div_le_self _ _)) (by omega)
    have m1 := nl2_le n1
    have m2 := nl2_le n2
    refine ⟨nl 2 (va / 2 ^ tz va) + nl 2 (vb / 2 ^ tz vb) + 1, ?_⟩
    rw [ey, ← nI_0]
    refine s_byH_loop (M0 := M) (c := rm - 1) (g := Nat.gcd (va / 2 ^ tz va) (vb / 2 ^ tz vb)) (s := min (tz va) (tz vb)) hX ho hdo (by omega) (by omega) (by omega) (by rw [← eg]; exact hgl) hO hroom (fun N u v w q1 q2 q3 q4 q5 q6 q7 => hQ N u v w u q1 q2 q3 q4 q5 q6 q3 (by rw [eg]; exact q7)) (nl 2 (va / 2 ^ tz va) + nl 2 (vb / 2 ^ tz vb) + 1) S u v w (va / 2 ^ tz va) (vb / 2 ^ tz vb) 0 ((fs1.tr (g1.fs hX (all1 ho) (all1 hu))).tr (k1.fs hX (all1 ho) (all1 hv))) hRS hu hv hw hnd wuS k2 n1 n2 ta.2 tb.2 rfl (by omega) (by omega)
  · subst hu0
    rw [Nat.gcd_zero_left] at hQ
    exact hQ N u v w v fs1 hR1 hu hv hw hnd hv wv
  · subst hv0
    rw [Nat.gcd_zero_right] at hQ
    exact hQ N u v w u fs1 hR1 hu hv hw hnd hu wu
