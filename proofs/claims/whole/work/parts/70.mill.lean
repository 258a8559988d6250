/-! THE MILL: where its objects lie, and what holds between calls -/
abbrev EV : Type := (Nat → Nat) × (Nat → List Nat) × (Nat → Nat) × (Nat → Nat) × List Nat × Nat × Nat
abbrev eA (E : EV) : Nat → Nat := E.1
abbrev eX (E : EV) : Nat → List Nat := E.2.1
abbrev eR (E : EV) : Nat → Nat := E.2.2.1
abbrev eT (E : EV) : Nat → Nat := E.2.2.2.1
abbrev eM (E : EV) : List Nat := E.2.2.2.2.1
abbrev en (E : EV) : Nat := E.2.2.2.2.2.1
abbrev ew (E : EV) : Nat := E.2.2.2.2.2.2
/-- what holds of the places alone -/
def SE (G : SH) (E : EV) : Prop := (1 ≤ en E ∧ en E ≤ 16 ∧ 1 ≤ ew E ∧ ew E ≤ 40) ∧ ((∀ i j, i ≤ 9 → j ≤ 9 → eA E i = eA E j → i = j) ∧ ∀ k, k ≤ 9 → G.2.1 (eA E k) ≠ 8) ∧
  ((∀ i, i < en E → Is G 8 (eR E i)) ∧ (Is G 8 (eA E 10) ∧ Is G 8 (eA E 11) ∧ Is G 8 (eA E 12) ∧ Is G 8 (eA E 13) ∧ Is G 8 (eA E 14) ∧ Is G 8 (eA E 17)) ∧ ∀ c y, 3 ≤ c → c ≤ 7 → y ∈ eX E c → Is G 8 y) ∧
  (∀ i j, i < en E → j < en E → eR E i = eR E j → i = j) ∧
  ((∀ i, i < en E → eT E (eR E i) = 100) ∧ (eT E (eA E 10) = 10 ∧ eT E (eA E 11) = 11 ∧ eT E (eA E 12) = 12 ∧ eT E (eA E 13) = 13 ∧ eT E (eA E 14) = 14 ∧ eT E (eA E 17) = 17) ∧ ∀ c y, 3 ≤ c → c ≤ 7 → y ∈ eX E c → y = eA E 13 ∨ eT E y = c) ∧
  (G.2.2.1 (eA E 1) = en E ∧ G.2.2.1 (eA E 15) = 1000 ∧ G.2.2.1 (eA E 16) = 10 * ew E + 2 ∧ G.2.1 (eA E 15) = 11 ∧ G.2.1 (eA E 16) = 11 ∧ eA E 15 ≠ eA E 16) ∧
  ∀ a, a ∈ eM E → G.2.1 a ≠ 8 ∧ (∀ k, k ≤ 9 → a ≠ eA E k) ∧ a ≠ eA E 15 ∧ a ≠ eA E 16
/-- the objects that work, by their field in the mill -/
def CP (G : SH) (M : MS) (E : EV) : Nat → Prop
  | 3 => ∃ u v w, DvR G M (eA E 3) (eA E 2) (eA E 13) (eA E 18) u v w ∧ eA E 13 ∈ eX E 3 ∧ eA E 18 ∈ eX E 3 ∧ u ∈ eX E 3 ∧ v ∈ eX E 3 ∧ w ∈ eX E 3 ∧ [eA E 13, eA E 18, u, v, w].Nodup
  | 4 => ∃ u v s t, LeR M (eA E 4) (eA E 2) (eA E 13) (eA E 19) u v s t ∧ (∀ y ∈ [eA E 13, eA E 19, u, v, s, t], y ∈ eX E 4) ∧ NDL [eA E 13, eA E 19, u, v, s, t]
  | 5 => ∃ fr fs ft fx fz fy fw, FaR M (eA E 5) (eA E 2) (eA E 13) (eA E 20) (eA E 21) fr fs ft fx fz fy fw ∧ (∀ y ∈ [eA E 13, eA E 20, eA E 21, fr, fs, ft, fx, fz, fy, fw], y ∈ eX E 5) ∧ NDL [eA E 13, eA E 20, eA E 21, fr, fs, ft, fx, fz, fy, fw]
  | 6 => ∃ u v w, ReR M (eA E 6) (eA E 2) (eA E 13) (eA E 22) (eA E 23) (eA E 24) (eA E 25) u v w ∧ (∀ y ∈ [eA E 13, eA E 22, eA E 23, eA E 24, eA E 25, u, v, w], y ∈ eX E 6) ∧ NDL [eA E 13, eA E 22, eA E 23, eA E 24, eA E 25, u, v, w]
  | 7 => ∃ gs nx, RoR M (eA E 7) (eA E 2) (eA E 13) (eA E 26) (eA E 27) (eA E 28) (eA E 29) (eA E 30) (eA E 14) gs nx ∧ (∀ y ∈ [eA E 13, eA E 26, eA E 27, eA E 28, eA E 29, eA E 30, gs, nx], y ∈ eX E 7) ∧ NDL [eA E 13, eA E 26, eA E 27, eA E 28, eA E 29, eA E 30, gs, nx]
  | _ => True
/-- what no call changes; M0: the state whose model's part still stands -/
def MB (G : SH) (M0 M : MS) (E : EV) : Prop := Ok G M ∧ (∀ k, 1 ≤ k → k ≤ 12 → mR M (eA E 0) k = eA E k) ∧ mI M (eA E 0) 0 = nI (ew E) ∧ (∀ i, i < en E → mR M (eA E 1) i = eR E i) ∧ (∀ i, i < en E → rmw G M (eR E i) = ew E) ∧
  ((∀ c y, 3 ≤ c → c ≤ 7 → y ∈ eX E c → rmw G M y = 2 * ew E + 2) ∧ rmw G M (eA E 10) = 2 * ew E + 2 ∧ rmw G M (eA E 11) = 2 * ew E + 2 ∧ rmw G M (eA E 17) = 2 * ew E + 2) ∧ (Wh G M (eA E 12) 1 false ∧ Wh G M (eA E 14) 1 false) ∧ mR M (eA E 2) 0 = eA E 13 ∧
  (∀ x, Is G 8 x → G.2.1 (mR M x 0) = 12 ∧ mR M x 0 ∉ eM E) ∧ ∀ a, a ∈ eM E → (∀ k, mI M a k = mI M0 a k) ∧ (∀ k, mR M a k = mR M0 a k) ∧ mA M a = mA M0 a
/-- registers; octets of the tape, how many; octets written, how many; steps -/
abbrev ST : Type := (Nat → Int) × (Nat → Int32) × Nat × (Nat → Int32) × Nat × Int32
def Rg (G : SH) (M : MS) (E : EV) (v : Nat → Int) : Prop := ∀ i, i < en E → Wh G M (eR E i) (v i).natAbs (decide (v i < 0))
def MI (G : SH) (M0 M : MS) (E : EV) (s : ST) : Prop := MB G M0 M E ∧ Rg G M E s.1 ∧ (∀ c, 3 ≤ c → c ≤ 7 → CP G M E c) ∧ Tp G M (eA E 8) (eA E 15) s.2.1 s.2.2.1 1000 ∧ (Tp G M (eA E 9) (eA E 16) s.2.2.2.1 s.2.2.2.2.1 (10 * ew E + 2) ∧ mR M (eA E 9) 2 = eA E 17) ∧ mI M (eA E 0) 13 = s.2.2.2.2.2
theorem CP.cg {G : SH} {M N : MS} {E : EV} {c : Nat} (h : CP G M E c) (h1 : ∀ k, mR N (eA E c) k = mR M (eA E c) k) (h2 : mR N (eA E 2) 0 = mR M (eA E 2) 0) : CP G N E c := by
  match c, h, h1 with
  | 3, ⟨u, v, w, ⟨a0, a1, a2, a3, a4, a5⟩, hh⟩, h1 => exact ⟨u, v, w, ⟨by rw [h1]; exact a0, by rw [h2]; exact a1, by rw [h1]; exact a2, by rw [h1]; exact a3, by rw [h1]; exact a4, by rw [h1]; exact a5⟩, hh⟩
  | 4, ⟨u, v, s, t, ⟨a0, a1, a2, a3, a4, a5, a6⟩, hh⟩, h1 => exact ⟨u, v, s, t, ⟨by rw [h1]; exact a0, by rw [h2]; exact a1, by rw [h1]; exact a2, by rw [h1]; exact a3, by rw [h1]; exact a4, by rw [h1]; exact a5, by rw [h1]; exact a6⟩, hh⟩
  | 5, ⟨fr, fs, ft, fx, fz, fy, fw, ⟨a0, a1, a2, a3, a4, a5, a6, a7, a8, a9, a10⟩, hh⟩, h1 => exact ⟨fr, fs, ft, fx, fz, fy, fw, ⟨by rw [h1]; exact a0, by rw [h2]; exact a1, by rw [h1]; exact a2, by rw [h1]; exact a3, by rw [h1]; exact a4, by rw [h1]; exact a5, by rw [h1]; exact a6, by rw [h1]; exact a7, by rw [h1]; exact a8, by rw [h1]; exact a9, by rw [h1]; exact a10⟩, hh⟩
  | 6, ⟨u, v, w, ⟨a0, a1, a2, a3, a4, a5, a6, a7, a8⟩, hh⟩, h1 => exact ⟨u, v, w, ⟨by rw [h1]; exact a0, by rw [h2]; exact a1, by rw [h1]; exact a2, by rw [h1]; exact a3, by rw [h1]; exact a4, by rw [h1]; exact a5, by rw [h1]; exact a6, by rw [h1]; exact a7, by rw [h1]; exact a8⟩, hh⟩
  | 7, ⟨gs, nx, ⟨a0, a1, a2, a3, a4, a5, a6, a7, a8, a9⟩, hh⟩, h1 => exact ⟨gs, nx, ⟨by rw [h1]; exact a0, by rw [h2]; exact a1, by rw [h1]; exact a2, by rw [h1]; exact a3, by rw [h1]; exact a4, by rw [h1]; exact a5, by rw [h1]; exact a6, by rw [h1]; exact a7, by rw [h1]; exact a8, by rw [h1]; exact a9⟩, hh⟩
  | 0, _, _ => trivial
  | 1, _, _ => trivial
  | 2, _, _ => trivial
  | (n + 8), _, _ => trivial
theorem Tp.fg {G : SH} {M N : MS} {X O L : List Nat} {o q h K : Nat} {tb : Nat → Int32} (t : Tp G M o q tb h K) (f : Fg G M N X O L) (ho : o ∉ O) (ho8 : o ∉ X) (hq : q ∉ L) (hqx : ∀ x ∈ X, q ≠ mR M x 0) : Tp G N o q tb h K := by
  obtain ⟨a1, a2, a3, a4, a5, a6⟩ := t
  exact ⟨by rw [f.2.2.1 o 1 ho]; exact a1, a2, a3, a4, by rw [f.2.2.2.2.1 o 0 ho8 ho]; exact a5, fun i hi => by rw [f.2.2.2.2.2 q hq hqx]; exact a6 i hi⟩
theorem SE.o8 {G : SH} {E : EV} (hE : SE G E) {k : Nat} (hk : k ≤ 9) : G.2.1 (eA E k) ≠ 8 := hE.2.1.2 k hk
theorem SE.ne {G : SH} {E : EV} (hE : SE G E) {i j : Nat} (hi : i ≤ 9) (hj : j ≤ 9) (h : i ≠ j) : eA E i ≠ eA E j := fun e => h (hE.2.1.1 i j hi hj e)
/-- scratch: no register, no constant -/
def sct (E : EV) (y : Nat) : Prop := eT E y ≠ 100 ∧ eT E y ≠ 12 ∧ eT E y ≠ 14
theorem SE.sX {G : SH} {E : EV} (hE : SE G E) {c y : Nat} (h3 : 3 ≤ c) (h7 : c ≤ 7) (hy : y ∈ eX E c) : sct E y := by
  rcases hE.2.2.2.2.1.2.2 c y h3 h7 hy with e | e
  · have := hE.2.2.2.2.1.2.1.2.2.2.1
    rw [e]
    unfold sct
    omega
  · unfold sct
    omega
theorem MB.fg {G : SH} {M0 M N : MS} {E : EV} {X O L : List Nat} (hE : SE G E) (h : MB G M0 M E) (f : Fg G M N X O L) (hX : ∀ y ∈ X, eT E y ≠ 12 ∧ eT E y ≠ 14) (hO : ∀ o ∈ O, ∃ c, 3 ≤ c ∧ c ≤ 9 ∧ o = eA E c) (hL : ∀ q ∈ L, q = eA E 15 ∨ q = eA E 16) : MB G M0 N E := by
  obtain ⟨b1, b2, b3, b4, b5, ⟨b6, b7, b8, b9⟩, ⟨b10, b11⟩, b12, b13, b14⟩ := h
  obtain ⟨-, -, ⟨i1, ⟨i2, i3, i4, i5, i6, i7⟩, i8⟩, -, ⟨t1, ⟨-, -, t12, -, t14, -⟩, t3⟩, ⟨-, -, -, k15, k16, -⟩, sm⟩ := id hE
  have nO : ∀ k, k ≤ 2 → eA E k ∉ O := fun k hk z => by
    obtain ⟨c, c1, c2, e⟩ := hO _ z
    exact hE.ne (by omega) (by omega) (by omega) e
  have nX : ∀ k, k ≤ 9 → eA E k ∉ X := fun k hk z => hE.o8 hk (f.1 _ z).2
  have nL : ∀ x, Is G 8 x → mR M x 0 ∉ L := fun x hx z => by
    have := (b13 x hx).1
    rcases hL _ z with e | e <;> rw [e] at this <;> omega
  refine ⟨f.ok b1, fun k k1 k2 => by rw [f.2.2.1 _ k (nO 0 (by decide))]; exact b2 k k1 k2, by rw [f.2.2.2.2.1 _ 0 (nX 0 (by decide)) (nO 0 (by decide))]; exact b3, fun i hi => by rw [f.2.2.1 _ i (nO 1 (by decide))]; exact b4 i hi, fun i hi => by rw [f.room (i1 i hi)]; exact b5 i hi, ⟨fun c y c3 c7 hy => by rw [f.room (i8 c y c3 c7 hy)]; exact b6 c y c3 c7 hy, by rw [f.room i2]; exact b7, by rw [f.room i3]; exact b8, by rw [f.room i7]; exact b9⟩, ⟨f.wh b1 i4 (fun z => (hX _ z).1 t12) (nL _ i4) b10, f.wh b1 i6 (fun z => (hX _ z).2 t14) (nL _ i6) b11⟩, by rw [f.2.2.1 _ 0 (nO 2 (by decide))]; exact b12, fun x hx => by rw [f.lim0 hx]; exact b13 x hx, fun a ha => ?_⟩
  have s := sm a ha
  have aX : a ∉ X := fun z => s.1 (f.1 a z).2
  have aO : a ∉ O := fun z => by
    obtain ⟨c, c1, c2, e⟩ := hO _ z
    exact s.2.1 c c2 e
  have aL : a ∉ L := fun z => by
    rcases hL _ z with e | e
    · exact s.2.2.1 e
    · exact s.2.2.2 e
  have b := b14 a ha
  exact ⟨fun k => by rw [f.2.2.2.2.1 a k aX aO]; exact b.1 k, fun k => by rw [f.2.2.1 a k aO]; exact b.2.1 k, by rw [f.2.2.2.2.2 a aL (fun x hx e => (b13 x (f.1 x hx)).2 (by rw [← e]; exact ha))]; exact b.2.2⟩
theorem MB.nL {G : SH} {M0 M : MS} {E : EV} (hE : SE G E) (h : MB G M0 M E) {x : Nat} (hx : Is G 8 x) : mR M x 0 ≠ eA E 15 ∧ mR M x 0 ≠ eA E 16 := by
  have h1 := (h.2.2.2.2.2.2.2.2.1 x hx).1
  have h2 := hE.2.2.2.2.2.1.2.2.2.1
  have h3 := hE.2.2.2.2.2.1.2.2.2.2.1
  exact ⟨fun e => by rw [e] at h1; omega, fun e => by rw [e] at h1; omega⟩
/-- scratch rows and objects that work -/
theorem MI.scr {G : SH} {M0 M N : MS} {E : EV} {s : ST} {X O : List Nat} (hE : SE G E) (h : MI G M0 M E s) (f : Fs G M N X O) (hX : ∀ y ∈ X, sct E y) (hO : ∀ o ∈ O, ∃ c, 3 ≤ c ∧ c ≤ 7 ∧ o = eA E c ∧ CP G N E c) : MI G M0 N E s := by
  have fg : Fg G M N X O [] := f.fg f.1 f.2.1 (fun _ h => h) (fun _ h => h)
  obtain ⟨b, r, c, t, ⟨u, u2⟩, st⟩ := h
  have nO : ∀ k, k ≤ 9 → (k ≤ 2 ∨ 8 ≤ k) → eA E k ∉ O := fun k hk hk2 z => by
    obtain ⟨c, c1, c2, e, -⟩ := hO _ z
    exact hE.ne (by omega) (by omega) (by omega) e
  have nX : ∀ k, k ≤ 9 → eA E k ∉ X := fun k hk z => hE.o8 hk (f.1 _ z).2
  refine ⟨b.fg hE fg (fun y hy => ⟨(hX y hy).2.1, (hX y hy).2.2⟩) (fun o ho => ?_) (by simp), fun i hi => ?_, fun k k3 k7 => ?_, ?_, ⟨?_, ?_⟩, ?_⟩
  · obtain ⟨c, c1, c2, e, -⟩ := hO o ho
    exact ⟨c, c1, by omega, e⟩
  · exact f.wh b.1 (hE.2.2.1.1 i hi) (fun z => (hX _ z).1 (hE.2.2.2.2.1.1 i hi)) (r i hi)
  · by_cases z : eA E k ∈ O
    · obtain ⟨c, c1, c2, e, p⟩ := hO _ z
      have : k = c := hE.2.1.1 k c (by omega) (by omega) e
      rw [this]
      exact p
    · exact (c k k3 k7).cg (fun j => f.2.2.1 _ j z) (f.2.2.1 _ 0 (nO 2 (by decide) (by decide)))
  · exact t.fg fg (nO 8 (by decide) (by decide)) (nX 8 (by decide)) (by simp) (fun x hx e => (b.nL hE (f.1 x hx)).1 e.symm)
  · exact u.fg fg (nO 9 (by decide) (by decide)) (nX 9 (by decide)) (by simp) (fun x hx e => (b.nL hE (f.1 x hx)).2 e.symm)
  · rw [f.2.2.1 _ 2 (nO 9 (by decide) (by decide))]; exact u2
  · rw [f.2.2.2.2.1 _ 13 (nX 0 (by decide)) (nO 0 (by decide) (by decide))]; exact st
theorem MI.fr {G : SH} {M0 M N : MS} {E : EV} {s : ST} {X : List Nat} (hE : SE G E) (h : MI G M0 M E s) (f : Fr G M N X) (hX : ∀ y ∈ X, sct E y) : MI G M0 N E s := h.scr hE (f.fs (O := []) f.1 (by simp) (fun _ h => h)) hX (by simp)
def setR (s : ST) (d : Nat) (z : Int) : ST := (fun i => if i = d then z else s.1 i, s.2)
theorem MI.put {G : SH} {M0 M N : MS} {E : EV} {s : ST} {d : Nat} {z : Int} (hE : SE G E) (h : MI G M0 M E s) (hd : d < en E) (f : Fr G M N [eR E d]) (wz : Wh G N (eR E d) z.natAbs (decide (z < 0))) : MI G M0 N E (setR s d z) := by
  have ir := hE.2.2.1.1 d hd
  have fg : Fg G M N [eR E d] [] [] := f.fg (all1 ir) (by simp) (fun _ h => h)
  have td := hE.2.2.2.2.1.1 d hd
  obtain ⟨b, r, c, t, ⟨u, u2⟩, st⟩ := h
  have nX : ∀ k, k ≤ 9 → eA E k ∉ [eR E d] := fun k hk z => hE.o8 hk (f.1 _ z).2
  refine ⟨b.fg hE fg (all1 ⟨by omega, by omega⟩) (by simp) (by simp), fun i hi => ?_, fun k k3 k7 => ?_, ?_, ⟨?_, ?_⟩, ?_⟩
  · show Wh G N (eR E i) (if i = d then z else s.1 i).natAbs (decide ((if i = d then z else s.1 i) < 0))
    by_cases e : i = d
    · rw [if_pos e, e]; exact wz
    · rw [if_neg e]
      exact f.wh b.1 (hE.2.2.1.1 i hi) (ni1 (fun q => e (hE.2.2.2.1 i d hi hd q))) (r i hi)
  · exact (c k k3 k7).cg (fun j => f.2.1 _ j) (f.2.1 _ 0)
  · exact t.fg fg (by simp) (nX 8 (by decide)) (by simp) (all1 (fun e => (b.nL hE ir).1 e.symm))
  · exact u.fg fg (by simp) (nX 9 (by decide)) (by simp) (all1 (fun e => (b.nL hE ir).2 e.symm))
  · rw [f.2.1]; exact u2
  · rw [f.io (hE.o8 (by decide))]; exact st
theorem MI.tape {G : SH} {M0 M N : MS} {E : EV} {s : ST} {tb : Nat → Int32} {h' : Nat} (hE : SE G E) (h : MI G M0 M E s) (f : Fg G M N [] [eA E 8] [eA E 15]) (tn : Tp G N (eA E 8) (eA E 15) tb h' 1000) : MI G M0 N E (s.1, tb, h', s.2.2.2) := by
  obtain ⟨b, r, c, t, ⟨u, u2⟩, st⟩ := h
  have nO : ∀ k, k ≤ 9 → k ≠ 8 → eA E k ∉ [eA E 8] := fun k hk hk2 => ni1 (hE.ne hk (by decide) hk2)
  refine ⟨b.fg hE f (by simp) (all1 ⟨8, by decide, by decide, rfl⟩) (all1 (Or.inl rfl)), fun i hi => ?_, fun k k3 k7 => ?_, tn, ⟨?_, ?_⟩, ?_⟩
  · exact f.wh b.1 (hE.2.2.1.1 i hi) (by simp) (ni1 (b.nL hE (hE.2.2.1.1 i hi)).1) (r i hi)
  · exact (c k k3 k7).cg (fun j => f.2.2.1 _ j (nO k (by omega) (by omega))) (f.2.2.1 _ 0 (nO 2 (by decide) (by decide)))
  · exact u.fg f (nO 9 (by decide) (by decide)) (by simp) (ni1 (hE.2.2.2.2.2.1.2.2.2.2.2).symm) (by simp)
  · rw [f.2.2.1 _ 2 (nO 9 (by decide) (by decide))]; exact u2
  · rw [f.2.2.2.2.1 _ 13 (by simp) (nO 0 (by decide) (by decide))]; exact st
theorem MI.out {G : SH} {M0 M N : MS} {E : EV} {s : ST} {ob : Nat → Int32} {oh : Nat} (hE : SE G E) (h : MI G M0 M E s) (f : Fg G M N [eA E 17] [eA E 9] [eA E 16]) (fr : ∀ a k, mR N a k = mR M a k) (tn : Tp G N (eA E 9) (eA E 16) ob oh (10 * ew E + 2)) : MI G M0 N E (s.1, s.2.1, s.2.2.1, ob, oh, s.2.2.2.2.2) := by
  obtain ⟨b, r, c, t, ⟨u, u2⟩, st⟩ := h
  have t17 := hE.2.2.2.2.1.2.1.2.2.2.2.2
  have i17 := hE.2.2.1.2.1.2.2.2.2.2
  have nO : ∀ k, k ≤ 9 → k ≠ 9 → eA E k ∉ [eA E 9] := fun k hk hk2 => ni1 (hE.ne hk (by decide) hk2)
  have nX : ∀ k, k ≤ 9 → eA E k ∉ [eA E 17] := fun k hk z => hE.o8 hk (f.1 _ z).2
  refine ⟨b.fg hE f (all1 ⟨by omega, by omega⟩) (all1 ⟨9, by decide, by decide, rfl⟩) (all1 (Or.inr rfl)), fun i hi => ?_, fun k k3 k7 => ?_, ?_, ⟨tn, ?_⟩, ?_⟩
  · exact f.wh b.1 (hE.2.2.1.1 i hi) (ni1 (fun e => by have := hE.2.2.2.2.1.1 i hi; rw [e] at this; omega)) (ni1 (b.nL hE (hE.2.2.1.1 i hi)).2) (r i hi)
  · exact (c k k3 k7).cg (fun j => fr _ j) (fr _ 0)
  · exact t.fg f (nO 8 (by decide) (by decide)) (nX 8 (by decide)) (ni1 (hE.2.2.2.2.2.1.2.2.2.2.2)) (all1 (fun e => (b.nL hE i17).1 e.symm))
  · rw [fr]; exact u2
  · rw [f.2.2.2.2.1 _ 13 (nX 0 (by decide)) (nO 0 (by decide) (by decide))]; exact st
theorem MI.step {G : SH} {M0 M : MS} {E : EV} {s : ST} (hE : SE G E) (h : MI G M0 M E s) (i : Int32) : MI G M0 (wI M (eA E 0) 13 i) E (s.1, s.2.1, s.2.2.1, s.2.2.2.1, s.2.2.2.2.1, i) := by
  obtain ⟨⟨b1, b2, b3, b4, b5, b6, ⟨b10, b11⟩, b12, b13, b14⟩, r, c, t, ⟨u, u2⟩, st⟩ := h
  have wk : ∀ {x v : Nat} {b : Bool}, Is G 8 x → Wh G M x v b → Wh G (wI M (eA E 0) 13 i) x v b := by
    intro x v b hx hw
    have hne : x ≠ eA E 0 := fun e => hE.o8 (show 0 ≤ 9 by decide) (by rw [← e]; exact hx.2)
    exact ⟨hw.1, by rw [mI_wI_a M i hne]; exact hw.2.1, hw.2.2.1, by rw [mI_wI_a M i hne]; exact hw.2.2.2⟩
  have i12 := hE.2.2.1.2.1.2.2.1
  have i14 := hE.2.2.1.2.1.2.2.2.2.1
  refine ⟨⟨b1, b2, by rw [mI_wI_k M i (by decide)]; exact b3, b4, b5, b6, ⟨wk i12 b10, wk i14 b11⟩, b12, b13, fun a ha => ⟨fun k => ?_, (b14 a ha).2.1, (b14 a ha).2.2⟩⟩, fun j hj => wk (hE.2.2.1.1 j hj) (r j hj), fun k k3 k7 => (c k k3 k7).cg (fun _ => rfl) rfl, ?_, ⟨?_, u2⟩, mI_wI_s _ _ _ _⟩
  · rw [mI_wI_a M i ((hE.2.2.2.2.2.2 a ha).2.1 0 (by decide))]
    exact (b14 a ha).1 k
  · obtain ⟨a1, a2, a3, a4, a5, a6⟩ := t
    exact ⟨a1, a2, a3, a4, by rw [mI_wI_k M i (by decide)]; exact a5, a6⟩
  · obtain ⟨a1, a2, a3, a4, a5, a6⟩ := u
    exact ⟨a1, a2, a3, a4, by rw [mI_wI_k M i (by decide)]; exact a5, a6⟩
