/-! Divider.split -/
theorem all1 {P : Nat → Prop} {a : Nat} (h : P a) : ∀ y ∈ [a], P y := fun y hy => by rw [List.mem_singleton.mp hy]; exact h
theorem all2 {P : Nat → Prop} {a b : Nat} (h : P a) (h2 : P b) : ∀ y ∈ [a, b], P y := fun y hy => by
  rcases List.mem_cons.mp hy with rfl | hy
  · exact h
  · exact all1 h2 y hy
theorem all3 {P : Nat → Prop} {a b c : Nat} (h : P a) (h2 : P b) (h3 : P c) : ∀ y ∈ [a, b, c], P y := fun y hy => by
  rcases List.mem_cons.mp hy with rfl | hy
  · exact h
  · exact all2 h2 h3 y hy
theorem ni1 {x a : Nat} (h : x ≠ a) : x ∉ [a] := fun q => h (List.mem_singleton.mp q)
theorem ni2 {x a b : Nat} (h : x ≠ a) (h2 : x ≠ b) : x ∉ [a, b] := fun q => by
  rcases List.mem_cons.mp q with q | q
  · exact h q
  · exact ni1 h2 q
theorem ni3 {x a b c : Nat} (h : x ≠ a) (h2 : x ≠ b) (h3 : x ≠ c) : x ∉ [a, b, c] := fun q => by
  rcases List.mem_cons.mp q with q | q
  · exact h q
  · exact ni2 h2 h3 q
theorem sp_step {A D j nb : Nat} {f g : Nat → Nat} (hD : 0 < D) (hDn : D < BB ^ nb) (hg : ∀ i, g i < BB) (hlow : ∀ t, t < j → g t = f t) (hR : vl BB f (j + 1 + nb) = A % (D * BB ^ (j + 1))) (hW : vl BB (fun t => g (j + t)) (nb + 1) = vl BB (fun t => f (j + t)) (nb + 1) % D) (hf : ∀ i, f i < BB) :
    vl BB (fun t => f (j + t)) (nb + 1) < D * BB ∧ vl BB (fun t => f (j + t)) (nb + 1) / D = lim (A / D) j ∧ vl BB g (j + nb) = A % (D * BB ^ j) := by
  have e0 : j + 1 + nb = j + (nb + 1) := by omega
  rw [e0, vl_low] at hR
  have hl : vl BB f j < BB ^ j := vl_lt (fun i _ => hf i)
  have hp := powBB_pos j
  generalize hWe : vl BB (fun t => f (j + t)) (nb + 1) = W at hR hW
  have hWR : W = A % (D * BB ^ (j + 1)) / BB ^ j := by rw [← hR, Nat.add_mul_div_left _ _ hp, Nat.div_eq_of_lt hl, Nat.zero_add]
  have hlR : vl BB f j = A % (D * BB ^ (j + 1)) % BB ^ j := by rw [← hR, Nat.add_mul_mod_self_left, Nat.mod_eq_of_lt hl]
  have hpos : 0 < D * BB ^ (j + 1) := Nat.mul_pos hD (powBB_pos _)
  have hlt : A % (D * BB ^ (j + 1)) < D * BB ^ (j + 1) := Nat.mod_lt _ hpos
  refine ⟨?_, ?_, ?_⟩
  · rw [hWR, Nat.div_lt_iff_lt_mul hp]
    rw [Nat.pow_succ] at hlt
    have : D * BB * BB ^ j = D * (BB ^ j * BB) := by grind
    rw [this]
    exact hlt
  · rw [hWR, Nat.div_div_eq_div_mul, Nat.pow_succ, ← Nat.mul_assoc, Nat.mul_comm (BB ^ j) D, Nat.mod_mul_right_div_self]
    unfold lim
    rw [Nat.div_div_eq_div_mul]
  · have h1 : vl BB g (j + nb) = vl BB g j + BB ^ j * vl BB (fun t => g (j + t)) nb := vl_low nb
    have h2 : vl BB g j = vl BB f j := vl_congr hlow
    have h3 : vl BB (fun t => g (j + t)) nb = W % D := by
      rw [vl_s] at hW
      have h4 : W % D < BB ^ nb := Nat.lt_trans (Nat.mod_lt _ hD) hDn
      rcases Nat.eq_zero_or_pos (g (j + nb)) with z | z
      · rw [z, Nat.zero_mul, Nat.add_zero] at hW
        exact hW
      · have : 1 * BB ^ nb ≤ g (j + nb) * BB ^ nb := Nat.mul_le_mul_right _ z
        omega
    rw [h1, h2, h3, hlR, hWR, ← Nat.mod_mul, Nat.mul_comm D (BB ^ j)]
    refine Nat.mod_mod_of_dvd _ ?_
    rw [Nat.pow_succ]
    exact ⟨BB, by grind⟩
theorem s_split_loop {G : SH} {M0 : MS} {dv q m x b D A vb top lift : Nat} {sx sb : Bool} (hO0 : Ok G M0) (hq : Is G 8 q) (hm : Is G 8 m) (hx : Is G 8 x) (hb : Is G 8 b) (ex : mR M0 dv 0 = x) (hqm : q ≠ m) (hxq : x ≠ q) (hxm : x ≠ m) (hbq : b ≠ q) (hbm : b ≠ m) (wx0 : Wh G M0 x D sx) (wb0 : Wh G M0 b vb sb) (hnb : nl BB vb = nl BB D) (hc : 2 ≤ nl BB D) (htop : 2147483648 ≤ lim D (nl BB D - 1)) (hrm : top + nl BB D < rmw G M0 m) (hrq : top < rmw G M0 q) (hlift : lift < 32) (hAD : nl BB (A / D) ≤ top + 1) {Q : MS → Prop}
    (hQ : ∀ N, Fr G M0 N [q, m] → Wh G N q (A / D) false → Wh G N m (A % D / 2 ^ lift) false → Q N) :
    ∀ (n k : Nat) (M : MS), k < n → k ≤ top + 1 → Fr G M0 M [q, m] → (∀ t, k ≤ t → t ≤ top → dgt M q t = lim (A / D) t) → vl BB (dgt M m) (k + nl BB D) = A % (D * BB ^ k) → w_X0_split_156 G Q n dv q m b (nI top) (nI lift) (nI k - 1) M
  | 0, k, M, hn, _, _, _, _ => absurd hn (Nat.not_lt_zero _)
  | n + 1, 0, M, _, _, f1, hv, hR => by
    have hO := f1.ok hO0
    have hqm2 : ∀ y ∈ [q, m], Is G 8 y := all2 hq hm
    rw [w_X0_split_156, nI_1]
    refine ⟨fun _ => ?_, fun h => absurd (by decide) h⟩
    refine s_keep hO hq rfl (by rw [f1.room]; omega) (fun P f2 _ f3 => ?_)
    rw [vl_congr (g := lim (A / D)) (fun t ht => hv t (Nat.zero_le _) (by omega)), vl_lim_all hAD] at f3
    have f12 : Fr G M0 P [q, m] := f1.tr1 (f2.mono hqm2 (by simp))
    have wb := f12.wh hO0 hb (ni2 hbq hbm) wb0
    rw [wb.2.1, hnb]
    have hOP := f12.ok hO0
    refine s_keep hOP hm rfl (by rw [f12.room]; omega) (fun S g2 _ g3 => ?_)
    rw [Nat.zero_add, Nat.pow_zero, Nat.mul_one] at hR
    rw [f2.dg hO hm (ni1 hqm.symm), hR] at g3
    have f123 : Fr G M0 S [q, m] := f12.tr1 (g2.mono hqm2 (by simp))
    have wq := g2.wh hOP hq (ni1 hqm) f3
    have hOS := f123.ok hO0
    refine s_shiftDown hOS hm hm g3 rfl (by omega) (Nat.le_trans (Nat.sub_le _ _) g3.1) (fun T h2 h3 => ?_)
    exact hQ T (f123.tr1 (h2.mono hqm2 (by simp))) (h2.wh hOS hq (ni1 hqm) wq) h3
  | n + 1, k + 1, M, hn, hk, f1, hv, hR => by
    have hO := f1.ok hO0
    have hqm2 : ∀ y ∈ [q, m], Is G 8 y := all2 hq hm
    have wx := f1.wh hO0 hx (ni2 hxq hxm) wx0
    have wb := f1.wh hO0 hb (ni2 hbq hbm) wb0
    have h1 := hO0.1 q hq
    have h2 := hO0.1 m hm
    have hDp : 0 < D := by
      rcases Nat.eq_zero_or_pos D with z | z
      · rw [z, nl_0] at hc; omega
      · exact z
    have hDn := (nl_le BB1 (nl BB D) D).mp (Nat.le_refl _)
    have key : ∀ g : Nat → Nat, (∀ i, g i < BB) → (∀ t, t < k → g t = dgt M m t) → vl BB (fun t => g (k + t)) (nl BB D + 1) = vl BB (wd M m k) (nl BB D + 1) % D → vl BB (wd M m k) (nl BB D + 1) < D * BB ∧ vl BB (wd M m k) (nl BB D + 1) / D = lim (A / D) k ∧ vl BB g (k + nl BB D) = A % (D * BB ^ k) := fun g g1 g2 g3 => sp_step (f := dgt M m) hDp hDn g1 g2 hR g3 (fun i => dgt_lt M m i)
    -- the bound needs no g: take one
    have hWD : vl BB (wd M m k) (nl BB D + 1) < D * BB := by
      have e0 : k + 1 + nl BB D = k + (nl BB D + 1) := by omega
      rw [e0, vl_low] at hR
      have hpos : 0 < D * BB ^ (k + 1) := Nat.mul_pos hDp (powBB_pos _)
      have hlt : A % (D * BB ^ (k + 1)) < D * BB ^ (k + 1) := Nat.mod_lt _ hpos
      rw [← hR] at hlt
      have h5 : BB ^ k * vl BB (wd M m k) (nl BB D + 1) < BB ^ k * (D * BB) := by
        have : BB ^ k * (D * BB) = D * BB ^ (k + 1) := by rw [Nat.pow_succ]; grind
        rw [this]
        exact Nat.lt_of_le_of_lt (Nat.le_add_left _ _) hlt
      exact Nat.lt_of_mul_lt_mul_left h5
    have hrmq := f1.room q
    have hrmm := f1.room m
    rw [nI_pred, w_X0_split_156, wb.2.1, hnb]
    refine ⟨fun h => absurd h (nI_lt0 (by omega)), fun _ => ?_⟩
    refine s_quotientLimb hO hm hx ((f1.2.1 dv 0).trans ex) hxm wx hc htop (by rw [hrmm]; omega) rfl hWD (fun N g1 g2 g3 => ?_)
    obtain ⟨-, k2, k3⟩ := key (dgt N m) (fun i => dgt_lt N m i) (fun t ht => g2 t (Or.inl ht)) g3
    rw [cl (c := k) (by omega), k2]
    refine ⟨vp_in_nI (by unfold rmw at hrq hrmq; omega) (by unfold rmw at h1 hrmq; omega), fun S eS y ey => ?_⟩
    have eq1 : mR M q 0 = mR N q 0 := (g1.2.1 q 0).symm
    rw [eq1] at eS
    have f0 : Fr G N S [q] := by rw [eS]; exact Fr.wA hq _
    have fN : Fr G M0 N [q, m] := f1.tr1 (g1.mono hqm2 (by simp))
    have hON := fN.ok hO0
    rw [ey, show nI k + -1 = nI k - 1 from (Int32.sub_eq_add_neg ..).symm]
    refine s_split_loop hO0 hq hm hx hb ex hqm hxq hxm hbq hbm wx0 wb0 hnb hc htop hrm hrq hlift hAD hQ n k S (by omega) (by omega) (fN.tr1 (f0.mono hqm2 (by simp))) (fun t ht hl => ?_) ?_
    · rw [eS]
      rcases Nat.eq_or_lt_of_le ht with e | e
      · subst e
        rw [dgt_put_s, u32_nI_lt (lim_l _ _)]
      · rw [dgt_put_ne (by omega), g1.dg hO hq (ni1 hqm)]
        exact hv t (by omega) hl
    · rw [f0.dg hON hm (ni1 hqm.symm)]
      exact k3
theorem pow_pred {n : Nat} (h : n ≠ 0) : BB * BB ^ (n - 1) = BB ^ n := by
  obtain ⟨k, rfl⟩ : ∃ k, n = k + 1 := ⟨n - 1, by omega⟩
  rw [Nat.add_sub_cancel, Nat.pow_succ, Nat.mul_comm]
theorem nl_shl {v b : Nat} (hv : 0 < v) (hb : b = 32 - nl 2 (lim v (nl BB v - 1))) : nl BB (v * 2 ^ b) = nl BB v ∧ 2147483648 ≤ lim (v * 2 ^ b) (nl BB v - 1) ∧ b < 32 := by
  have e := nl_bits hv
  have hn : nl BB v ≠ 0 := fun z => by rw [nl_v0] at z; omega
  have hl : lim v (nl BB v - 1) ≠ 0 := by
    intro z
    have h1 := (nl_lt_iff BB1 (nl BB v - 1) v).mp (by omega)
    have h2 := (nl_le BB1 (nl BB v) v).mp (Nat.le_refl _)
    unfold lim at z
    rw [Nat.mod_eq_of_lt] at z
    · rw [Nat.div_eq_zero_iff] at z
      rcases z with z | z
      · have := powBB_pos (nl BB v - 1); omega
      · omega
    · rw [Nat.div_lt_iff_lt_mul (powBB_pos _), pow_pred hn]
      exact h2
  have h2 : nl 2 (lim v (nl BB v - 1)) ≤ 32 := (nl_le (by decide) 32 _).mpr (lim_l _ _)
  have h3 : 0 < nl 2 (lim v (nl BB v - 1)) := (nl_lt_iff (by decide) 0 _).mpr (by rw [Nat.pow_zero]; omega)
  have hbits : nl 2 (v * 2 ^ b) = 32 * nl BB v := by
    have : nl 2 (v * 2 ^ b) = nl 2 v + b := by
      have h4 := nl_div (B := 2) (by decide) b (v * 2 ^ b) (Nat.le_mul_of_pos_left _ hv)
      rw [Nat.mul_div_cancel _ (Nat.pow_pos (by decide))] at h4
      exact h4
    omega
  have hlo : 2 ^ (32 * nl BB v - 1) ≤ v * 2 ^ b := (nl_lt_iff (by decide) _ _).mp (by omega)
  have hup : v * 2 ^ b < 2 ^ (32 * nl BB v) := (nl_le (by decide) _ _).mp (by omega)
  have hnl : nl BB (v * 2 ^ b) = nl BB v := by
    refine nl_eq BB1 (by rw [BBp]; exact hup) (Or.inr ?_)
    rw [BBp]
    exact Nat.le_trans (Nat.pow_le_pow_right (by decide) (by omega)) hlo
  refine ⟨hnl, ?_, by omega⟩
  unfold lim
  rw [Nat.mod_eq_of_lt]
  · rw [Nat.le_div_iff_mul_le (powBB_pos _), BBp, show (2147483648 : Nat) = 2 ^ 31 from rfl, ← Nat.pow_add]
    rw [show 31 + 32 * (nl BB v - 1) = 32 * nl BB v - 1 by omega]
    exact hlo
  · rw [Nat.div_lt_iff_lt_mul (powBB_pos _), pow_pred hn, BBp]
    exact hup
theorem nl_div_le {va vb : Nat} (hb : 0 < vb) (h : vb ≤ va) : nl BB (va / vb) ≤ nl BB va - nl BB vb + 1 := by
  rw [nl_le BB1, Nat.div_lt_iff_lt_mul hb]
  have h1 := (nl_le BB1 (nl BB va) va).mp (Nat.le_refl _)
  have hn : nl BB vb ≠ 0 := fun z => by rw [nl_v0] at z; omega
  have h2 := (nl_lt_iff BB1 (nl BB vb - 1) vb).mp (by omega)
  have h3 := nl_mono BB1 h
  calc va < BB ^ nl BB va := h1
    _ = BB ^ (nl BB va - nl BB vb + 1) * BB ^ (nl BB vb - 1) := by rw [← Nat.pow_add]; congr 1; omega
    _ ≤ BB ^ (nl BB va - nl BB vb + 1) * vb := Nat.mul_le_mul_left _ h2
theorem s_split {G : SH} {M : MS} {dv q m x a b va vb : Nat} {sa sb : Bool} (hO : Ok G M) (hq : Is G 8 q) (hm : Is G 8 m) (hx : Is G 8 x) (ha : Is G 8 a) (hb : Is G 8 b) (ex : mR M dv 0 = x) (hqm : q ≠ m) (hxq : x ≠ q) (hxm : x ≠ m) (hxa : x ≠ a) (hxb : x ≠ b) (hqa : a ≠ q) (hma : a ≠ m) (hqb : b ≠ q) (hmb : b ≠ m) (wa : Wh G M a va sa) (wb : Wh G M b vb sb) (hvb : 0 < vb) (hrq : nl BB va ≤ rmw G M q) (hrm : nl BB va < rmw G M m) (hrx : nl BB vb < rmw G M x) {Q : MS → Prop}
    (hQ : ∀ N, Fr G M N [q, m, x] → Wh G N q (va / vb) false → Wh G N m (va % vb) false → Q N) : w_X0_split G dv q m a b M Q := by
  unfold w_X0_split
  intro tp etp
  have h1 := hO.1 q hq
  have h2 := hO.1 m hm
  have h3 := hO.1 x hx
  have h4 := hO.1 a ha
  have h5 := hO.1 b hb
  have a1 := wa.1
  have b1 := wb.1
  have hall : ∀ y ∈ [q, m, x], Is G 8 y := all3 hq hm hx
  rw [wa.2.1, wb.2.1] at etp
  refine s_keep hO hq nI_0.symm (Nat.zero_le _) (fun M2 f2 _ w2 => ?_)
  have hO2 := f2.ok hO
  refine s_keep hO2 hm nI_0.symm (Nat.zero_le _) (fun M3 f3 _ w3 => ?_)
  rw [vl_0] at w2 w3
  have hO3 := f3.ok hO2
  have fa : Fr G M M3 [q, m, x] := (f2.mono hall (by simp)).tr1 (f3.mono hall (by simp))
  have wa3 := fa.wh hO ha (ni3 hqa hma hxa.symm) wa
  have wb3 := fa.wh hO hb (ni3 hqb hmb hxb.symm) wb
  have w2q := f3.wh hO2 hq (ni1 hqm) w2
  have hn : nl BB vb ≠ 0 := fun z => by rw [nl_v0] at z; omega
  have ex3 : mR M3 dv 0 = x := (fa.2.1 dv 0).trans ex
  have hrq3 := fa.room q
  have hrm3 := fa.room m
  have hrx3 := fa.room x
  rw [wb3.2.1, wa3.2.1, ex3]
  refine ⟨fun h => absurd ((nI_eq0 (by omega)).mp h) hn, fun _ => ⟨fun h => ?_, fun _ => ⟨fun h => ?_, fun _ => ⟨fun _ => ?_, fun h => absurd ?_ h⟩⟩⟩⟩
  · -- top is below q's room
    exfalso
    rw [etp, fa_le, nI_toInt (by unfold rmw at h1 hrq3; omega), pk_sub_toInt (by omega) (by omega)] at h
    unfold rmw at h1 hrq hrq3
    omega
  · exfalso
    rw [nI_leI (by unfold rmw at h2 hrm3; omega) (by omega)] at h
    unfold rmw at hrm hrm3
    omega
  · refine s_order hO3 ha hb wa3 wb3 ?_
    have hc : (0 : Int32) ≤ cmpN va vb ↔ vb ≤ va := by
      unfold cmpN
      by_cases c1 : vb < va
      · rw [if_pos c1]
        exact ⟨fun _ => by omega, fun _ => by decide⟩
      · rw [if_neg c1]
        by_cases c2 : va = vb
        · rw [if_pos c2]
          exact ⟨fun _ => by omega, fun _ => by decide⟩
        · rw [if_neg c2]
          exact ⟨fun z => absurd z (by decide), fun z => by omega⟩
    rw [hc]
    refine ⟨fun hge => ⟨fun hn1 => ?_, fun hn1 => ?_⟩, fun hlt => ?_⟩
    · -- many limbs
      have hn2 : 2 ≤ nl BB vb := by
        rw [show (1 : Int32) = nI 1 from rfl, wb3.2.1, nI_eq (by omega) (by decide)] at hn1
        omega
      obtain ⟨p, hp⟩ : ∃ p, nl BB vb = p + 1 := ⟨nl BB vb - 1, by omega⟩
      rw [wb3.2.1, hp, nI_pred, cl (c := p) (by omega)]
      have b3 := wb3.1
      have hrb3 := fa.room b
      refine ⟨vp_in_nI (by unfold rmw at b3; omega) (by unfold rmw at h5 hrb3; omega), s_nlz ?_⟩
      rw [wb3.lim (by omega), ex3]
      have hsh := nl_shl (v := vb) hvb rfl
      rw [hp, Nat.add_sub_cancel] at hsh
      generalize hlf : 32 - nl 2 (lim vb p) = lift at hsh
      obtain ⟨s1, s2, s3⟩ := hsh
      refine s_shiftUp hO3 hx hb wb3 rfl (by omega) (by rw [hrx3]; omega) (fun M4 f4 _ w4 => ?_)
      have hO4 := f4.ok hO3
      have wa4 := f4.wh hO3 ha (ni1 hxa.symm) wa3
      have wb4 := f4.wh hO3 hb (ni1 hxb.symm) wb3
      refine s_shiftUp hO4 hm ha wa4 rfl (by omega) (by rw [f4.room, hrm3]; omega) (fun M5 f5 r5 w5 => ?_)
      have hO5 := f5.ok hO4
      have wx5 := f5.wh hO4 hx (ni1 hxm) w4
      have wb5 := f5.wh hO4 hb (ni1 hmb) wb4
      have hge2 := nl_mono BB1 hge
      have fa5 : Fr G M M5 [q, m, x] := (fa.tr1 (f4.mono hall (by simp))).tr1 (f5.mono hall (by simp))
      rw [pk_sub hge2] at etp
      rw [etp]
      have hpw : 0 < 2 ^ lift := Nat.pow_pos (by decide)
      have eq1 : va * 2 ^ lift / (vb * 2 ^ lift) = va / vb := Nat.mul_div_mul_right _ _ hpw
      have eq2 : va * 2 ^ lift % (vb * 2 ^ lift) = va % vb * 2 ^ lift := Nat.mul_mod_mul_right _ _ _
      have hnD : nl BB (vb * 2 ^ lift) = nl BB vb := by rw [s1, hp]
      have hadv := nl_div_le hvb hge
      refine ⟨nl BB va - nl BB vb + 1 + 1, ?_⟩
      have loop := s_split_loop (G := G) (M0 := M5) (A := va * 2 ^ lift) (D := vb * 2 ^ lift) (top := nl BB va - nl BB vb) (lift := lift) hO5 hq hm hx hb ((f5.2.1 dv 0).trans ((f4.2.1 dv 0).trans ex3)) hqm hxq hxm hqb hmb wx5 wb5 hnD.symm (by omega) (by rw [hnD, hp, Nat.add_sub_cancel]; exact s2) (by rw [hnD, fa5.room]; omega) (by rw [fa5.room]; omega) s3 (by rw [eq1]; exact hadv) (Q := Q)
        (fun N g1 g2 g3 => by
          refine hQ N (fa5.tr1 (g1.mono hall (by simp))) (by rw [eq1] at g2; exact g2) ?_
          rw [eq2, Nat.mul_div_cancel _ hpw] at g3
          exact g3)
        (nl BB va - nl BB vb + 1 + 1) (nl BB va - nl BB vb + 1) M5 (by omega) (Nat.le_refl _) (Fr.rf (all2 hq hm)) (fun t t1 t2 => by omega)
        (by
          rw [hnD, show nl BB va - nl BB vb + 1 + nl BB vb = nl BB va + lift / 32 + 1 by omega, r5]
          refine (Nat.mod_eq_of_lt ?_).symm
          have h6 : va < vb * BB ^ (nl BB va - nl BB vb + 1) := by
            have := (nl_le BB1 _ _).mp hadv
            rw [Nat.div_lt_iff_lt_mul hvb, Nat.mul_comm] at this
            exact this
          calc va * 2 ^ lift < vb * BB ^ (nl BB va - nl BB vb + 1) * 2 ^ lift := Nat.mul_lt_mul_of_pos_right h6 hpw
            _ = vb * 2 ^ lift * BB ^ (nl BB va - nl BB vb + 1) := by grind)
      rw [nI_pred] at loop
      exact loop
    · -- one limb
      have hn2 : nl BB vb = 1 := by
        rw [show (1 : Int32) = nI 1 from rfl, wb3.2.1, nI_eq (by omega) (by decide)] at hn1
        exact hn1
      have b3 := wb3.1
      have hrb3 := fa.room b
      rw [show (0 : Int32) = nI 0 from rfl, cl (c := 0) (by decide)]
      have hu : u32 (mA M3 (mR M3 b 0) 0) = vb := by
        rw [wb3.lim (by omega)]
        unfold lim
        rw [Nat.pow_zero, Nat.div_one]
        refine Nat.mod_eq_of_lt ?_
        have := (nl_le BB1 1 vb).mp (by omega)
        rw [Nat.pow_one] at this
        exact this
      refine ⟨vp_in_nI (by unfold rmw at b3; omega) (by unfold rmw at h5 hrb3; omega), s_splitByLimb hO3 hq ha hqa wa3 (by rw [hu]; exact hvb) (by rw [hrq3]; exact hrq) (fun M4 f4 w4 => ?_)⟩
      rw [hu] at w4
      have hO4 := f4.ok hO3
      refine s_become hO4 hm (fun M5 f5 w5 => ?_)
      refine hQ M5 ((fa.tr1 (f4.mono hall (by simp))).tr1 (f5.mono hall (by simp))) (f5.wh hO4 hq (ni1 hqm) w4) ?_
      rw [hu, u32_nI_lt] at w5
      · exact w5
      · have h6 := Nat.mod_lt va hvb
        have := (nl_le BB1 1 vb).mp (by omega)
        rw [Nat.pow_one] at this
        exact Nat.lt_trans h6 this
    · -- the dividend is less
      refine s_copy hO3 hm ha wa3 (by rw [hrm3]; omega) (fun M4 f4 w4 => ?_)
      intro M5 e5
      have hO4 := f4.ok hO3
      have f5 : Fr G M4 M5 [m] := by rw [e5]; exact Fr.wI hm 2 0
      refine hQ M5 ((fa.tr1 (f4.mono hall (by simp))).tr1 (f5.mono hall (by simp))) ?_ ?_
      · rw [Nat.div_eq_of_lt (by omega)]
        exact f5.wh hO4 hq (ni1 hqm) (f4.wh hO3 hq (ni1 hqm) w2q)
      · rw [Nat.mod_eq_of_lt (by omega)]
        refine ⟨by rw [f5.room]; exact w4.1, by rw [e5, mI_wI_k M4 0 (by decide)]; exact w4.2.1, by rw [e5]; exact w4.2.2.1, by rw [e5, mI_wI_s]; rfl⟩
  · rw [nI_ltI (by omega) (by unfold rmw at h3 hrx3; omega)]
    unfold rmw at hrx hrx3
    omega
