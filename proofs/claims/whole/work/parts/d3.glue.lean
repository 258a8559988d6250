/-! the class and the reference side by side: a call of one leaves the other as it was -/
def eq6 (L : LV) : List Nat := [kO L.1, kH L.1, kN L.1, kS L.1, L.2.1, L.2.2]
section Glue
variable {G : SH} {M0 M N : MS} {E : EV} {L : LV} {s : ST} {n w : Nat}
def KQm (L : LV) (M N : MS) : Prop := ∀ a, a ∈ eq6 L → (∀ k, mI N a k = mI M a k) ∧ (∀ k, mR N a k = mR M a k) ∧ mA N a = mA M a
theorem KJ.keep (h : KJ G M L n w s) (q : KQm L M N) : KJ G N L n w s := by
  have qO := q (kO L.1) (by simp [eq6])
  have qH := q (kH L.1) (by simp [eq6])
  have qN := q (kN L.1) (by simp [eq6])
  have qS := q (kS L.1) (by simp [eq6])
  have qT := q L.2.1 (by simp [eq6])
  have qU := q L.2.2 (by simp [eq6])
  obtain ⟨⟨a0, ⟨⟨z1, z2⟩, zz⟩, ⟨i1, i2, i3, i4, i5⟩, b, t, o⟩, ⟨f, ⟨⟨⟨m1, m2, m3⟩, mm⟩, hs⟩, hr⟩, hb⟩ := h
  refine ⟨⟨a0, ⟨⟨by rw [qO.2.1]; exact z1, by rw [qO.2.1]; exact z2⟩, zz⟩, ⟨by rw [qO.1]; exact i1, by rw [qO.1]; exact i2, by rw [qO.1]; exact i3, by rw [qO.1]; exact i4, by rw [qO.1]; exact i5⟩, b, fun i hi => by rw [qT.2.2]; exact t i hi, fun i hi => by rw [qU.2.2]; exact o i hi⟩, ⟨f, ⟨⟨⟨by rw [qO.2.1]; exact m1, by rw [qO.2.1]; exact m2, by rw [qO.2.1]; exact m3⟩, mm⟩, fun r hr' => ?_⟩, hr⟩, hb⟩
  obtain ⟨⟨c1, c2, c3⟩, c4, c5⟩ := hs r hr'
  have e : hd N L.1 r = hd M L.1 r := funext fun k => by
    show u32 (mA N (kH L.1) (260 * r + k)) = u32 (mA M (kH L.1) (260 * r + k))
    rw [qH.2.2]
  exact ⟨⟨by rw [qN.2.2]; exact c1, by rw [qS.2.2]; exact c2, c3⟩, by rw [e]; exact c4, by rw [e]; exact c5⟩
theorem MI.kq (hM : eM E = eq6 L) (h : MI G M0 M E s) : KQm L M0 M := fun a ha => h.1.2.2.2.2.2.2.2.2.2 a (by rw [hM]; exact ha)
theorem Wh.kg {x v : Nat} {b : Bool} (h : Wh G M x v b) (g : KG L M N) (h1 : x ≠ kO L.1) (h2 : mR M x 0 ∉ eq6 L) : Wh G N x v b := by
  have hA : mA N (mR M x 0) = mA M (mR M x 0) := by
    simp only [eq6, List.mem_cons, List.not_mem_nil, or_false, not_or] at h2
    exact g.2.2.2 _ h2.2.1 h2.2.2.1 h2.2.2.2.1 h2.2.2.2.2.1 h2.2.2.2.2.2
  have e : dgt N x = dgt M x := funext fun k => by
    show u32 (mA N (mR N x 0) k) = u32 (mA M (mR M x 0) k)
    rw [g.1, hA]
  refine ⟨?_, ?_, ?_, ?_⟩
  · show nl BB v ≤ G.2.2.1 (mR N x 0)
    rw [g.1]
    exact h.1
  · rw [g.2.2.1 _ _ h1]; exact h.2.1
  · rw [e]; exact h.2.2.1
  · rw [g.2.2.1 _ _ h1]; exact h.2.2.2
theorem Tp.kg {o q hh K : Nat} {tb : Nat → Int32} (t : Tp G M o q tb hh K) (g : KG L M N) (h1 : o ≠ kO L.1) (h2 : q ∉ eq6 L) : Tp G N o q tb hh K := by
  obtain ⟨a1, a2, a3, a4, a5, a6⟩ := t
  simp only [eq6, List.mem_cons, List.not_mem_nil, or_false, not_or] at h2
  exact ⟨by rw [g.1]; exact a1, a2, a3, a4, by rw [g.2.2.1 _ _ h1]; exact a5, fun i hi => by rw [g.2.2.2 _ h2.2.1 h2.2.2.1 h2.2.2.2.1 h2.2.2.2.2.1 h2.2.2.2.2.2]; exact a6 i hi⟩
theorem MI.kg (hE : SE G E) (hM : eM E = eq6 L) (h : MI G M0 M E s) (g : KG L M N) : MI G N N E s := by
  have hk : ∀ a, a ∈ eq6 L → G.2.1 a ≠ 8 ∧ (∀ k, k ≤ 9 → a ≠ eA E k) ∧ a ≠ eA E 15 ∧ a ≠ eA E 16 := fun a ha => hE.2.2.2.2.2.2 a (by rw [hM]; exact ha)
  have hO := hk (kO L.1) (by simp [eq6])
  have h8 : ∀ x, Is G 8 x → x ≠ kO L.1 := fun x hx e => hO.1 (by rw [← e]; exact hx.2)
  have hA : ∀ k, k ≤ 9 → eA E k ≠ kO L.1 := fun k hk e => hO.2.1 k hk e.symm
  have n15 : eA E 15 ∉ eq6 L := fun z => (hk _ z).2.2.1 rfl
  have n16 : eA E 16 ∉ eq6 L := fun z => (hk _ z).2.2.2 rfl
  obtain ⟨⟨⟨b1, b1'⟩, b2, b3, b4, b5, ⟨b6, b7, b8, b9⟩, ⟨b10, b11⟩, b12, b13, b14⟩, r, c, t, ⟨u, u2⟩, st⟩ := h
  have hq : ∀ x, Is G 8 x → mR M x 0 ∉ eq6 L := fun x hx => by
    have := (b13 x hx).2
    rw [hM] at this
    exact this
  have rw' : ∀ x, rmw G N x = rmw G M x := fun x => by unfold rmw; rw [g.1]
  refine ⟨⟨⟨fun x hx => by rw [rw']; exact b1 x hx, fun x y hx hy e => b1' x y hx hy (by rw [g.1, g.1] at e; exact e)⟩, fun k h1 h2 => by rw [g.1]; exact b2 k h1 h2, by rw [g.2.2.1 _ _ (hA 0 (by decide))]; exact b3, fun i hi => by rw [g.1]; exact b4 i hi, fun i hi => by rw [rw']; exact b5 i hi, ⟨fun c y h1 h2 h3 => by rw [rw']; exact b6 c y h1 h2 h3, by rw [rw']; exact b7, by rw [rw']; exact b8, by rw [rw']; exact b9⟩, ⟨b10.kg g (h8 _ hE.i12) (hq _ hE.i12), b11.kg g (h8 _ hE.i14) (hq _ hE.i14)⟩, by rw [g.1]; exact b12, fun x hx => by rw [g.1]; exact b13 x hx, fun a _ => ⟨fun _ => rfl, fun _ => rfl, rfl⟩⟩, fun i hi => (r i hi).kg g (h8 _ (hE.r8 hi)) (hq _ (hE.r8 hi)), fun c' h1 h2 => (c c' h1 h2).cg (fun k => g.1 _ _) (g.1 _ _), t.kg g (hA 8 (by decide)) n15, ⟨u.kg g (hA 9 (by decide)) n16, by rw [g.1]; exact u2⟩, by rw [g.2.2.1 _ _ (hA 0 (by decide))]; exact st⟩
/-- what holds at the loop's head -/
def LFx (G : SH) (E : EV) (L : LV) : Prop := SE G E ∧ ND G ∧ eM E = eq6 L ∧ Is G 9 (eA E 0) ∧ Is G 10 (kO L.1)
def LIv (G : SH) (E : EV) (L : LV) (s : ST) (M : MS) : Prop := MI G M M E s ∧ KJ G M L (en E) (ew E) s ∧ TYR G M.2.2.1
end Glue
