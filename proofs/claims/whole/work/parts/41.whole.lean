/-! A WHOLE: its size and sign; what a method leaves as it was -/
abbrev BB : Nat := 4294967296
theorem BB1 : 1 < BB := by decide
def dgt (M : MS) (x : Nat) : Nat → Nat := fun i => u32 (mA M (mR M x 0) i)
theorem dgt_lt (M : MS) (x i : Nat) : dgt M x i < BB := u32_lt _
def rmw (G : SH) (M : MS) (x : Nat) : Nat := G.2.2.1 (mR M x 0)
def Wh (G : SH) (M : MS) (x v : Nat) (b : Bool) : Prop := nl BB v ≤ rmw G M x ∧ mI M x 1 = nI (nl BB v) ∧ vl BB (dgt M x) (nl BB v) = v ∧ mI M x 2 = (if b then 1 else 0)
def Ok (G : SH) (M : MS) : Prop := (∀ x, Is G 8 x → 1 ≤ rmw G M x ∧ rmw G M x ≤ 100) ∧ ∀ x y, Is G 8 x → Is G 8 y → mR M x 0 = mR M y 0 → x = y
/-- from M to N only the wholes X changed, and no reference -/
def Fr (G : SH) (M N : MS) (X : List Nat) : Prop := (∀ y ∈ X, Is G 8 y) ∧ (∀ a k, mR N a k = mR M a k) ∧ (∀ a k, mJ N a k = mJ M a k) ∧ (∀ a k, a ∉ X → mI N a k = mI M a k) ∧ ∀ q, (∀ x ∈ X, q ≠ mR M x 0) → mA N q = mA M q
theorem Fr.rf {G : SH} {M : MS} {X : List Nat} (h : ∀ y ∈ X, Is G 8 y) : Fr G M M X := ⟨h, fun _ _ => rfl, fun _ _ => rfl, fun _ _ _ => rfl, fun _ _ => rfl⟩
theorem Fr.tr {G : SH} {M N P : MS} {X Y : List Nat} (h1 : Fr G M N X) (h2 : Fr G N P Y) : Fr G M P (X ++ Y) := by
  obtain ⟨a1, a2, a3, a4, a5⟩ := h1
  obtain ⟨b1, b2, b3, b4, b5⟩ := h2
  refine ⟨fun y hy => ?_, fun a k => by rw [b2, a2], fun a k => by rw [b3, a3], fun a k h => ?_, fun q h => ?_⟩
  · rcases List.mem_append.mp hy with q | q
    · exact a1 y q
    · exact b1 y q
  · rw [b4 a k (fun z => h (List.mem_append.mpr (Or.inr z))), a4 a k (fun z => h (List.mem_append.mpr (Or.inl z)))]
  · rw [b5 q (fun x hx => by rw [a2]; exact h x (List.mem_append.mpr (Or.inr hx))), a5 q (fun x hx => h x (List.mem_append.mpr (Or.inl hx)))]
theorem Fr.mono {G : SH} {M N : MS} {X Y : List Nat} (h : Fr G M N X) (hY : ∀ y ∈ Y, Is G 8 y) (hs : ∀ x ∈ X, x ∈ Y) : Fr G M N Y :=
  ⟨hY, h.2.1, h.2.2.1, fun a k q => h.2.2.2.1 a k (fun z => q (hs a z)), fun q z => h.2.2.2.2 q (fun x hx => z x (hs x hx))⟩
theorem Fr.tr1 {G : SH} {M N P : MS} {X : List Nat} (h1 : Fr G M N X) (h2 : Fr G N P X) : Fr G M P X := (h1.tr h2).mono h1.1 (fun x hx => by
  rcases List.mem_append.mp hx with q | q <;> exact q)
theorem Fr.room {G : SH} {M N : MS} {X : List Nat} (h : Fr G M N X) (x : Nat) : rmw G N x = rmw G M x := by
  unfold rmw
  rw [h.2.1]
theorem Fr.ok {G : SH} {M N : MS} {X : List Nat} (h : Fr G M N X) (hO : Ok G M) : Ok G N :=
  ⟨fun x hx => by rw [h.room]; exact hO.1 x hx, fun x y hx hy e => hO.2 x y hx hy (by rw [← h.2.1, ← h.2.1, e])⟩
theorem Fr.arr {G : SH} {M N : MS} {X : List Nat} (h : Fr G M N X) (hO : Ok G M) {x : Nat} (hx : Is G 8 x) (hn : x ∉ X) : mA N (mR M x 0) = mA M (mR M x 0) :=
  h.2.2.2.2 _ (fun y hy e => hn (by rw [hO.2 x y hx (h.1 y hy) e]; exact hy))
theorem Fr.dg {G : SH} {M N : MS} {X : List Nat} (h : Fr G M N X) (hO : Ok G M) {x : Nat} (hx : Is G 8 x) (hn : x ∉ X) : dgt N x = dgt M x := by
  unfold dgt
  rw [h.2.1, h.arr hO hx hn]
theorem Fr.wh {G : SH} {M N : MS} {X : List Nat} (h : Fr G M N X) (hO : Ok G M) {x v : Nat} {b : Bool} (hx : Is G 8 x) (hn : x ∉ X) (hw : Wh G M x v b) : Wh G N x v b := by
  obtain ⟨a1, a2, a3, a4⟩ := hw
  refine ⟨by rw [h.room]; exact a1, by rw [h.2.2.2.1 x 1 hn]; exact a2, by rw [h.dg hO hx hn]; exact a3, by rw [h.2.2.2.1 x 2 hn]; exact a4⟩
/-! writes -/
theorem mI_wI (M : MS) (a k b j : Nat) (v : Int32) : mI (wI M a k v) b j = if b = a ∧ j = k then v else mI M b j := rfl
theorem mI_wI_s (M : MS) (a k : Nat) (v : Int32) : mI (wI M a k v) a k = v := by rw [mI_wI, if_pos ⟨rfl, rfl⟩]
theorem mI_wI_k (M : MS) {a k b j : Nat} (v : Int32) (h : j ≠ k) : mI (wI M a k v) b j = mI M b j := by rw [mI_wI, if_neg (fun q => h q.2)]
theorem mI_wI_a (M : MS) {a k b j : Nat} (v : Int32) (h : b ≠ a) : mI (wI M a k v) b j = mI M b j := by rw [mI_wI, if_neg (fun q => h q.1)]
theorem mR_wI (M : MS) (a k b j : Nat) (v : Int32) : mR (wI M a k v) b j = mR M b j := rfl
theorem mJ_wI (M : MS) (a k b j : Nat) (v : Int32) : mJ (wI M a k v) b j = mJ M b j := rfl
theorem mA_wI (M : MS) (a k b : Nat) (v : Int32) : mA (wI M a k v) b = mA M b := rfl
theorem mI_wA (M : MS) (a b j : Nat) (f : Nat → Int32) : mI (wA M a f) b j = mI M b j := rfl
theorem mR_wA (M : MS) (a b j : Nat) (f : Nat → Int32) : mR (wA M a f) b j = mR M b j := rfl
theorem mJ_wA (M : MS) (a b j : Nat) (f : Nat → Int32) : mJ (wA M a f) b j = mJ M b j := rfl
theorem Fr.wI {G : SH} {M : MS} {x : Nat} (hx : Is G 8 x) (k : Nat) (v : Int32) : Fr G M (wI M x k v) [x] :=
  ⟨fun y hy => by rw [List.mem_singleton.mp hy]; exact hx, fun _ _ => rfl, fun _ _ => rfl, fun a j h => mI_wI_a M v (fun e => h (by rw [e]; exact List.mem_singleton.mpr rfl)), fun _ _ => rfl⟩
theorem Fr.wA {G : SH} {M : MS} {x : Nat} (hx : Is G 8 x) (f : Nat → Int32) : Fr G M (wA M (mR M x 0) f) [x] :=
  ⟨fun y hy => by rw [List.mem_singleton.mp hy]; exact hx, fun _ _ => rfl, fun _ _ => rfl, fun _ _ _ => rfl, fun q h => mA_wA_ne (h x (List.mem_singleton.mpr rfl))⟩
theorem dgt_wA {M : MS} {x : Nat} {f : Nat → Int32} : dgt (wA M (mR M x 0) f) x = fun i => u32 (f i) := by
  funext i
  show u32 (mA (wA M (mR M x 0) f) (mR M x 0) i) = _
  rw [mA_wA]
/-! comparisons of small ints -/
theorem nI_le0 {c : Nat} (h : c < 2147483648) : nI c ≤ 0 ↔ c = 0 := by
  rw [← nI_0, nI_leI h (by decide)]; omega
theorem nI_lt0 {c : Nat} (h : c < 2147483648) : ¬ nI c < 0 := by
  rw [← nI_0, nI_ltI h (by decide)]; omega
theorem nI_0lt {c : Nat} (h : c < 2147483648) : 0 < nI c ↔ 0 < c := by
  rw [← nI_0, nI_ltI (by decide) h]
theorem nI_eq0 {c : Nat} (h : c < 2147483648) : nI c = 0 ↔ c = 0 := by
  rw [← nI_0, nI_eq h (by decide)]
theorem cl {c : Nat} (h : c < 2147483648) : (nI c).toNatClampNeg = c := nI_clamp h
/-! Whole.keep -/
theorem s_keep_loop {G : SH} {x : Nat} (hx : Is G 8 x) {Q : MS → Prop} : ∀ (c : Nat) (M : MS), Ok G M → mI M x 1 = nI c → c ≤ rmw G M x → (∀ N, Fr G M N [x] → (∀ q, mA N q = mA M q) → Wh G N x (vl BB (dgt M x) c) false → Q N) → ∃ n, w_X9_keep_17 G Q n x M
  | 0, M, hO, hu, hc, hQ => by
    refine ⟨1, ?_⟩
    rw [w_X9_keep_17, hu]
    have hr := hO.1 x hx
    refine ⟨fun _ N eN => ?_, fun h => absurd ((nI_le0 (by omega)).mpr rfl) h⟩
    rw [eN]
    refine hQ _ (Fr.wI hx 2 0) (fun _ => rfl) ⟨by rw [vl_0, nl_0]; exact Nat.zero_le _, by rw [vl_0, nl_0, mI_wI_k M 0 (by decide)]; exact hu, by rw [vl_0, nl_0]; rfl, mI_wI_s M x 2 0⟩
  | c + 1, M, hO, hu, hc, hQ => by
    have hr := hO.1 x hx
    have hc1 : c + 1 < 2147483648 := by omega
    by_cases ht : mA M (mR M x 0) c = 0
    · obtain ⟨n, hn⟩ := s_keep_loop hx (Q := Q) c (wI M x 1 (nI c)) ((Fr.wI hx 1 (nI c)).ok hO) (mI_wI_s M x 1 _) (by show c ≤ rmw G M x; omega) (fun N f1 f2 f3 => by
        refine hQ N ((Fr.wI hx 1 (nI c)).tr1 f1) (fun q => (f2 q).trans rfl) ?_
        have e : vl BB (dgt M x) (c + 1) = vl BB (dgt M x) c := by
          rw [vl_s, show dgt M x c = 0 from by show u32 _ = 0; rw [ht]; rfl, Nat.zero_mul, Nat.add_zero]
        rw [e]
        exact f3)
      refine ⟨n + 1, ?_⟩
      rw [w_X9_keep_17, hu, nI_pred, cl (by omega)]
      refine ⟨fun h => absurd ((nI_le0 hc1).mp h) (by omega), fun _ => ⟨vp_in_nI (by unfold rmw at hc; omega) (by unfold rmw at hc hr; omega), fun h => absurd ht h, fun _ N eN => ?_⟩⟩
      rw [eN]
      exact hn
    · refine ⟨1, ?_⟩
      rw [w_X9_keep_17, hu, nI_pred, cl (by omega)]
      refine ⟨fun h => absurd ((nI_le0 hc1).mp h) (by omega), fun _ => ⟨vp_in_nI (by unfold rmw at hc; omega) (by unfold rmw at hc hr; omega), fun _ N eN => ?_, fun h => absurd h ht⟩⟩
      rw [eN]
      have hd : dgt M x c ≠ 0 := fun z => ht (u32_eq0.mpr z)
      have hn : nl BB (vl BB (dgt M x) (c + 1)) = c + 1 := nl_eq BB1 (vl_lt (fun i _ => dgt_lt M x i)) (Or.inr (by rw [Nat.add_sub_cancel]; exact vl_ge hd))
      refine hQ _ (Fr.wI hx 2 0) (fun _ => rfl) ⟨by rw [hn]; exact hc, by rw [hn, mI_wI_k M 0 (by decide)]; exact hu, by rw [hn]; rfl, mI_wI_s M x 2 0⟩
theorem s_keep {G : SH} {M : MS} {x c : Nat} {i : Int32} {Q : MS → Prop} (hO : Ok G M) (hx : Is G 8 x) (hi : i = nI c) (hc : c ≤ rmw G M x) (hQ : ∀ N, Fr G M N [x] → (∀ q, mA N q = mA M q) → Wh G N x (vl BB (dgt M x) c) false → Q N) : w_X9_keep G x i M Q := by
  unfold w_X9_keep
  intro y ey z ez N eN
  have hr := hO.1 x hx
  have e1 : y = nI c := by
    rw [ey, hi]
    have : ¬ nI (G.2.2.1 (mR M x 0)) < nI c := by
      rw [nI_ltI (by unfold rmw at hr; omega) (by omega)]
      unfold rmw at hc
      omega
    rw [if_neg this]
  have e2 : z = nI c := by
    rw [ez, e1]
    by_cases h : (0 : Int32) < nI c
    · rw [if_pos h]
    · rw [if_neg h]
      rw [nI_0lt (by omega)] at h
      rw [show c = 0 by omega, nI_0]
  rw [e2] at eN
  rw [eN]
  exact s_keep_loop hx c _ ((Fr.wI hx 1 (nI c)).ok hO) (mI_wI_s M x 1 _) hc (fun N f1 f2 f3 => hQ N ((Fr.wI hx 1 (nI c)).tr1 f1) (fun q => (f2 q).trans rfl) f3)
/-! Whole.become, copy, takeSign, isAboveZero, limb, isOdd -/
theorem s_become {G : SH} {M : MS} {x : Nat} {i : Int32} {Q : MS → Prop} (hO : Ok G M) (hx : Is G 8 x) (hQ : ∀ N, Fr G M N [x] → Wh G N x (u32 i) false → Q N) : w_X9_become G x i M Q := by
  unfold w_X9_become
  have hr := hO.1 x hx
  refine ⟨by rw [← nI_0]; exact vp_in_nI (by unfold rmw at hr; omega) (by unfold rmw at hr; omega), fun N eN => ?_⟩
  have f0 := Fr.wA (M := M) hx (upd (mA M (mR M x 0)) (0 : Int32).toNatClampNeg i)
  refine s_keep (c := 1) (by rw [eN]; exact f0.ok hO) hx rfl (by rw [eN]; show 1 ≤ rmw G M x; omega) (fun P f1 f2 f3 => ?_)
  rw [eN] at f1 f3
  refine hQ P (f0.tr1 f1) ?_
  have e : vl BB (dgt (wA M (mR M x 0) (upd (mA M (mR M x 0)) (0 : Int32).toNatClampNeg i)) x) 1 = u32 i := by
    rw [vl_s, vl_0, dgt_wA, Nat.pow_zero, Nat.mul_one, Nat.zero_add]
    show u32 (if 0 = (0 : Int32).toNatClampNeg then i else _) = _
    rw [if_pos (by rfl)]
  rw [e] at f3
  exact f3
theorem s_takeSign {G : SH} {M : MS} {x v : Nat} {b : Bool} {i : Int32} {w : Bool} {Q : MS → Prop} (hO : Ok G M) (hx : Is G 8 x) (hw : Wh G M x v b) (hi : i = if w then 1 else 0) (hQ : ∀ N, Fr G M N [x] → Wh G N x v (w && decide (0 < v)) → Q N) : w_X9_takeSign G x i M Q := by
  unfold w_X9_takeSign
  have hr := hO.1 x hx
  obtain ⟨a1, a2, a3, a4⟩ := hw
  have hv : nl BB v = 0 ↔ v = 0 := by
    have := nl_le BB1 0 v
    rw [Nat.pow_zero] at this
    omega
  have key : ∀ (j : Int32) (b2 : Bool), j = (if b2 then 1 else 0) → Wh G (wI M x 2 j) x v b2 := fun j b2 hj => ⟨a1, by rw [mI_wI_k M j (by decide)]; exact a2, a3, by rw [mI_wI_s]; exact hj⟩
  refine ⟨fun h => ?_, fun h => ⟨fun h2 => ?_, fun h2 => ?_⟩⟩
  · intro N eN
    rw [eN]
    refine hQ _ (Fr.wI hx 2 _) ?_
    cases w
    · exact key 0 false rfl
    · rw [hi] at h; cases h
  · intro N eN
    rw [eN]
    refine hQ _ (Fr.wI hx 2 _) ?_
    rw [a2, nI_le0 (by omega), hv] at h2
    have : (w && decide (0 < v)) = false := by rw [h2]; cases w <;> rfl
    rw [this]
    exact key 0 false rfl
  · intro N eN
    rw [eN]
    refine hQ _ (Fr.wI hx 2 _) ?_
    rw [a2, nI_le0 (by omega), hv] at h2
    cases w
    · rw [hi] at h; exact absurd rfl h
    · have : (true && decide (0 < v)) = true := by simp; omega
      rw [this]
      exact key 1 true rfl
theorem nl_v0 {v : Nat} : nl BB v = 0 ↔ v = 0 := by
  have := nl_le BB1 0 v
  rw [Nat.pow_zero] at this
  omega
theorem s_copy {G : SH} {M : MS} {x y v : Nat} {b : Bool} {Q : MS → Prop} (hO : Ok G M) (hx : Is G 8 x) (hy : Is G 8 y) (hw : Wh G M y v b) (hv : nl BB v ≤ rmw G M x) (hQ : ∀ N, Fr G M N [x] → Wh G N x v b → Q N) : w_X9_copy G x y M Q := by
  unfold w_X9_copy
  obtain ⟨a1, a2, a3, a4⟩ := hw
  have hrx := hO.1 x hx
  have hry := hO.1 y hy
  intro z ez
  have e1 : z = nI (nl BB v) := by
    rw [ez, a2]
    rw [if_neg]
    rw [nI_ltI (by unfold rmw at hrx; omega) (by omega)]
    unfold rmw at hv
    omega
  rw [e1, cl (by omega)]
  have z0 : (0 : Int32).toNatClampNeg = 0 := rfl
  refine ⟨⟨by decide, by decide, nI_lt0 (by omega), by rw [z0, Nat.zero_add]; exact a1, by rw [z0, Nat.zero_add]; exact hv⟩, fun N eN P eP => ?_⟩
  have f1 : Fr G M N [x] := by rw [eN]; exact Fr.wA hx _
  have f2 : Fr G N P [x] := by rw [eP]; exact Fr.wI hx _ _
  have e2 : mI P y 2 = (if b then 1 else 0) := by
    rw [eP, mI_wI_k N _ (by decide), eN, mI_wA]
    exact a4
  rw [e2]
  refine ⟨by cases b <;> simp, fun S eS => ?_⟩
  have f3 : Fr G P S [x] := by rw [eS]; exact Fr.wI hx _ _
  refine hQ S ((f1.tr1 f2).tr1 f3) ⟨by rw [f3.room, f2.room, f1.room]; exact hv, ?_, ?_, ?_⟩
  · rw [eS, mI_wI_k P _ (by decide), eP, mI_wI_s]
  · have ed : dgt S x = dgt N x := by rw [eS, eP]; rfl
    rw [ed, eN, dgt_wA]
    refine Eq.trans (vl_congr (fun i hi => ?_)) a3
    show u32 (if _ ≤ i ∧ i < _ + nl BB v then mA M (mR M y 0) (_ + (i - _)) else _) = u32 _
    rw [z0, Nat.zero_add, if_pos ⟨Nat.zero_le _, hi⟩]
    rw [Nat.zero_add, Nat.sub_zero]
  · rw [eS, mI_wI_s]
theorem s_isAboveZero {G : SH} {M : MS} {x v : Nat} {b : Bool} {Q : Int32 → MS → Prop} (hO : Ok G M) (hx : Is G 8 x) (hw : Wh G M x v b) (hQ : Q (if decide (0 < v) && !b then 1 else 0) M) : w_X9_isAboveZero G x M Q := by
  unfold w_X9_isAboveZero
  obtain ⟨a1, a2, a3, a4⟩ := hw
  have hr := hO.1 x hx
  rw [a2, a4, nI_le0 (by omega), nl_v0]
  refine ⟨fun h => ?_, fun h => ⟨fun h2 => ?_, fun h2 => ?_⟩⟩
  · subst h
    exact hQ
  · cases b
    · exact absurd rfl h2
    · simpa using hQ
  · cases b
    · have : 0 < v := by omega
      simpa [this] using hQ
    · cases h2
/-- a whole's limb by its place; 0 where there is none -/
def lim (v i : Nat) : Nat := v / BB ^ i % BB
theorem vl_dig {B : Nat} {f : Nat → Nat} {n i : Nat} (hB : 0 < B) (hf : ∀ i, i < n → f i < B) (hi : i < n) : vl B f n / B ^ i % B = f i := by
  obtain ⟨k, rfl⟩ : ∃ k, n = i + (k + 1) := ⟨n - i - 1, by omega⟩
  rw [vl_low]
  have h1 : vl B f i < B ^ i := vl_lt (fun j hj => hf j (by omega))
  have hp : 0 < B ^ i := Nat.pow_pos hB
  rw [Nat.add_mul_div_left _ _ hp, Nat.div_eq_of_lt h1, Nat.zero_add]
  rw [show k + 1 = 1 + k by omega, vl_low, vl_s, vl_0, Nat.pow_zero, Nat.mul_one, Nat.zero_add, Nat.pow_one, Nat.add_mul_mod_self_left]
  exact Nat.mod_eq_of_lt (hf (i + 0) (by omega))
theorem vl_dig0 {B : Nat} {f : Nat → Nat} {n i : Nat} (hf : ∀ i, i < n → f i < B) (hi : n ≤ i) : vl B f n / B ^ i % B = 0 := by
  rcases Nat.eq_zero_or_pos B with rfl | hB
  · rcases Nat.eq_zero_or_pos n with rfl | hn
    · rw [vl_0, Nat.zero_div, Nat.zero_mod]
    · exact absurd (hf 0 hn) (by omega)
  · have h1 : vl B f n < B ^ n := vl_lt hf
    have h2 : B ^ n ≤ B ^ i := Nat.pow_le_pow_right hB hi
    rw [Nat.div_eq_of_lt (by omega), Nat.zero_mod]
theorem Wh.lim {G : SH} {M : MS} {x v : Nat} {b : Bool} (hw : Wh G M x v b) {i : Nat} (hi : i < nl BB v) : u32 (mA M (mR M x 0) i) = lim v i := by
  obtain ⟨a1, a2, a3, a4⟩ := hw
  have h := vl_dig (f := dgt M x) (n := nl BB v) (i := i) (by decide) (fun j _ => dgt_lt M x j) hi
  rw [a3] at h
  exact h.symm
theorem lim_lt (v i : Nat) : lim v i < BB := Nat.mod_lt _ (by decide)
theorem lim_l (v i : Nat) : lim v i < 4294967296 := lim_lt v i
theorem lim_big {v i : Nat} (h : nl BB v ≤ i) : lim v i = 0 := by
  unfold lim
  rw [Nat.div_eq_of_lt ((nl_le BB1 i v).mp h), Nat.zero_mod]
theorem vl_lim (v : Nat) : ∀ n, vl BB (lim v) n = v % BB ^ n
  | 0 => by rw [vl_0, Nat.pow_zero, Nat.mod_one]
  | n + 1 => by
    rw [vl_s, vl_lim v n, Nat.pow_succ, Nat.mod_mul]
    unfold lim
    rw [Nat.mul_comm]
theorem vl_lim_all {v n : Nat} (h : nl BB v ≤ n) : vl BB (lim v) n = v := by
  rw [vl_lim, Nat.mod_eq_of_lt ((nl_le BB1 n v).mp h)]
theorem s_limb {G : SH} {M : MS} {x v k : Nat} {b : Bool} {i : Int32} {Q : Int64 → MS → Prop} (hO : Ok G M) (hx : Is G 8 x) (hw : Wh G M x v b) (hi : i = nI k) (hk : k < 2147483648) (hQ : Q (lN (lim v k)) M) : w_X9_limb G x i M Q := by
  unfold w_X9_limb
  have hr := hO.1 x hx
  have a1 := hw.1
  rw [hi, hw.2.1, nI_ltI hk (by omega), cl hk, mask_lN]
  refine ⟨fun h => absurd h (nI_lt0 hk), fun _ => ⟨fun h => ⟨vp_in_nI (by unfold rmw at a1; omega) (by unfold rmw at hr; omega), ?_⟩, fun h => ?_⟩⟩
  · rw [hw.lim h]
    exact hQ
  · rw [lim_big (by omega)] at hQ
    exact hQ
theorem s_limb_neg {G : SH} {M : MS} {x : Nat} {i : Int32} {Q : Int64 → MS → Prop} (hi : i < 0) (hQ : Q 0 M) : w_X9_limb G x i M Q := by
  unfold w_X9_limb
  exact ⟨fun _ => hQ, fun h => absurd hi h⟩
theorem s_isOdd {G : SH} {M : MS} {x v : Nat} {b : Bool} {Q : Int32 → MS → Prop} (hO : Ok G M) (hx : Is G 8 x) (hw : Wh G M x v b) (hQ : Q (if v % 2 = 1 then 1 else 0) M) : w_X9_isOdd G x M Q := by
  unfold w_X9_isOdd
  refine s_limb hO hx hw nI_0.symm (by decide) ?_
  have e : lim v 0 % 2 = v % 2 := by
    unfold lim
    rw [Nat.pow_zero, Nat.div_one]
    show v % 4294967296 % 2 = v % 2
    omega
  have l0 := lim_l v 0
  rw [wb_a1 (by omega), e]
  have h1 : (1 : Int64) = lN 1 := rfl
  rw [h1, pk_lEQ (by omega) (by decide)]
  refine ⟨fun h => ?_, fun h => ?_⟩
  · rw [if_neg h] at hQ
    exact hQ
  · rw [if_pos h] at hQ
    exact hQ
