/-! the law's 'cell' -/
abbrev rm_cell : Room := { frames := 0, cells := 0, slots := 0, locals := 0 }
theorem va_X_moved {b L : Nat} {xs : Nat → Int32} {u U : State} {H : Heap} (hvm : u.vm.Alike U.vm) (h : va_X b L xs u H) : va_X b L xs U H := by
  obtain ⟨scr, h1, h2, h3, h4, h5⟩ := h
  exact ⟨scr, h1, State.isArrayOf_alike hvm h2, h3, h4, h5⟩
def cellV (len : Nat) (xs : Nat → Int32) (k : Nat) : Int32 := if k < len then xs k else 0
theorem c_L_cell {l : Launch} {b len k : Nat} {xs : Nat → Int32} (hk : k < 100) (hlen : len ≤ 3074) : Met l yL_cell (Cond.code yL_cell cL_cell 2 (some .int) :: GW) rm_cell (va_Pc [.ref b, .int (nI k)] (fun U => va_X b len xs U U.heap)) (QcRead (cellV len xs k)) 0 0 (fun _ => False) := by
  refine Met.ofW (cc := cL_cell) (maxL := 2) (ret := some .int) (by decide) rfl ?_
  intro p e s m args below meth c s₁ B hml hv
  obtain ⟨rfl, hX⟩ := hv
  have hbl : b < s.heap.size := by
    obtain ⟨scr, h1, -⟩ := hX
    exact (Array.getElem?_eq_some_iff.mp h1).1
  have hl := lv_entry [.ref b, .int (nI k)] (n := 2) (Nat.le_of_ble_eq_true rfl)
  rw [lg_entry_eq]
  generalize (lg_sl ([.ref b, .int (nI k)] : List Value) ++ List.replicate (2 - (lg_sl ([.ref b, .int (nI k)] : List Value)).length) Slot.unset).toArray = ls at hl ⊢
  have hl : lv_has ls 2 [(0, .ref b), (1, .int (nI k))] := hl
  have hS : va_S (fun _ => False) s.heap s.heap [] := va_S.rf
  have ex := B.exec
  have hb := B.bytes
  have hr := B.returns
  refine lv_iload_n (pc := 0) ex hb dL_cell_0 rfl (lv_at hl 1 rfl) ?_
  refine lv_aload_n (pc := 1) ex hb dL_cell_1 rfl (lv_at hl 0 rfl) ?_
  refine va_slen (pc := 2) ex hb hX hbl (fun z => z) hS dL_cell_2 ?_
  refine lv_icmp_ge (pc := 3) (tgt := 12) ex hb dL_cell_3 (by decide) (fun h => ?_) (fun h => ?_)
  · refine lv_iconst (pc := 12) (v := 0) ex hb dL_cell_12 (by decide) ?_
    have e0 : cellV len xs k = 0 := by
      unfold cellV
      rw [if_neg]
      intro z
      have h2 : (nI len) ≤ nI k := h
      rw [nI_leI (by omega) (by omega)] at h2
      omega
    exact W.iret (v := 0) ex hb hr (fun t ht hW => ⟨by rw [e0], ht⟩) (fun q hq => by cases hq) dL_cell_13 B.notSynchronized
  · refine lv_aload_n (pc := 6) ex hb dL_cell_6 rfl (lv_at hl 0 rfl) ?_
    refine lv_iload_n (pc := 7) ex hb dL_cell_7 rfl (lv_at hl 1 rfl) ?_
    have hk2 : k < len := by
      apply Classical.byContradiction
      intro z
      apply h
      show nI len ≤ nI k
      rw [nI_leI (by omega) (by omega)]
      omega
    refine va_sld (pc := 8) ex hb hX hbl (fun z => z) hS (vp_in_nI hk2 (by omega)) dL_cell_8 ?_
    refine lv_goto (pc := 9) (tgt := 13) ex hb dL_cell_9 (by decide) ?_
    have e0 : cellV len xs k = xs (nI k).toNatClampNeg := by
      unfold cellV
      rw [if_pos hk2, cl (by omega)]
    exact W.iret (v := xs (nI k).toNatClampNeg) ex hb hr (fun t ht hW => ⟨by rw [e0], ht⟩) (fun q hq => by cases hq) dL_cell_13 B.notSynchronized
section CellCall
variable {p : Program} {l : Launch} {e : Env} {R : Room} {s : State} {m : MethodId} {args : Array Value} {below : List Frame} {meth : Method} {c : Code} {H : Heap} {locs : List Loc} {cells slots : Nat} {Q : State → Prop} {cc : ByteArray} {pc nL : Nat} {ls : Array Slot} {rest : List Value}
theorem q_cell {b len k index : Nat} {xs : Nat → Int32} (S : CallFix p m c cc nL s args GW RL) (hk : k < 100) (hlen : len ≤ 3074) (hX : va_X b len xs s H) (hls : ls.size = nL) (hlink : Cond.methodLink RL index yL_cell ∈ GW) (hR : 1 ≤ R.frames ∧ 21 ≤ R.locals) (hRc : cells ≤ R.cells ∧ slots ≤ R.slots) (hW : (rest.map fun v => v.category).sum ≤ 8) (dg : decode cc pc = .ok (.invokestatic index, 3)) (kk : W p l e R s m args below meth c H locs cells slots Q (F0 m (pc + 3) ls (.int (cellV len xs k) :: rest))) : W p l e R s m args below meth c H locs cells slots Q (F0 m pc ls (.int (nI k) :: .ref b :: rest)) := by
  refine W.callR (g := F0 m pc ls (.int (nI k) :: .ref b :: rest)) (rest := rest) (a := ([.ref b, .int (nI k)] : List Value).toArray) (W.runS (As := [.ref b, .int (nI k)]) (rest := rest) (Ts := GW) (own := RL) (index := index) (n := 2) (y := yL_cell) (bytes := cL_cell) (maxL := 2) (ret := some .int) (rm := rm_cell) (mc := 0) (ms := 0) S (c_L_cell (b := b) (xs := xs) hk hlen) ⟨callB_of 2 S.2.2.2.2 (goodIn_g (gw_t4 31 rfl rfl)) rfl rfl rfl (S.2.2.2.2 _ (gw_t1 0 rfl rfl)) (S.2.2.2.2 _ hlink) (by decide +kernel) ⟨by show 0 + 1 ≤ R.frames; omega, by show 8 + (2 + 11) + 0 ≤ R.locals; omega⟩, S.2.2.2.2 _ (gw_t4 30 rfl rfl)⟩ ⟨fun A U g mk q => ⟨q.1, va_X_moved (u := U) (U := U.calling g mk A) (Vm.Alike.refl U.vm) q.2⟩, fun U hU hW => ⟨rfl, by show va_X b len xs U U.heap; rw [hU]; exact va_X_moved hW.alike hX⟩⟩ rfl rfl hls rfl (lv_room hW) dg hRc) kk
end CellCall
