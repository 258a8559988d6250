/-! THE LAW'S CASES (made by wip/gen/lawcases.py) -/
abbrev lvL (b : Nat) (E : EV) (L : LV) (o : Nat) (i : Int32) : List (Nat × Value) := [(0, .ref b), (1, .ref (eA E 0)), (2, .ref (kO L.1)), (3, .ref o), (4, .int i)]
def LCx (p : Program) (s : State) (m : MethodId) (args : Array Value) (c : Code) (D : va_G) (G : SH) (lc : ClassId) (o : Nat) (A : Nat → Prop) (E : EV) (L : LV) (b len : Nat) (xs : Nat → Int32) : Prop := CY p s m args c D G cL_law 7 RL lc o A ∧ LFx G E L ∧ va_X b len xs s s.heap ∧ b < s.heap.size ∧ ¬ A b
def HVx (i : Int32) (len : Nat) : Prop := vp_in (i + 1) len ∧ vp_in (i + 2) len ∧ vp_in (i + 3) len ∧ vp_in (i + 4) len ∧ vp_in (i + 5) len
abbrev RK (G : SH) (N : MS) (L : LV) (E : EV) (q : ST × Int32) : Int32 → MS → Prop := fun r N' => r = q.2 ∧ KG L N N' ∧ KJ G N' L (en E) (ew E) q.1
abbrev RX (G : SH) (N : MS) (L : LV) (E : EV) (r0 : Int32) (q : ST × Int32) : Int32 → MS → Prop := fun r N' => r = q.2 ∧ KG L N N' ∧ KJ G N' L (en E) (ew E) q.1 ∧ mI N' (kO L.1) 5 = (if isR (en E) r0 then 0 else 1)
section LawCases
variable {p : Program} {l : Launch} {e : Env} {s : State} {m : MethodId} {args : Array Value} {below : List Frame} {meth : Method} {c : Code} {D : va_G} {G : SH} {lc : ClassId} {o b len cells slots : Nat} {A : Nat → Prop} {Q : State → Prop} {E : EV} {L : LV} {xs : Nat → Int32} {i : Int32} {st : ST} {M : MS × Int64}
theorem law_0 (F : LCx p s m args c D G lc o A E L b len xs) (hv : HVx i len) (hRc : cells ≤ room_1.cells ∧ slots ≤ room_1.slots) (hI : LIv G E L st M.1) (next : ∀ (N : MS × Int64) (st1 : ST), LIv G E L st1 N.1 → LW p l e room_1 s m args below meth c D G 7 lc o A cells slots Q 1485 (lvL b E L o i) [] N) : LW p l e room_1 s m args below meth c D G 7 lc o A cells slots Q 192 (lvL b E L o i) [] M := by
  obtain ⟨hE, hND, hM6, hI9, hI10⟩ := F.2.1
  refine q_aload_n (pc := 192) F.1 dL_law_192 rfl 1 rfl ?_
  refine q_aload_n (pc := 193) F.1 dL_law_193 rfl 0 rfl ?_
  refine q_iload (pc := 194) F.1 dL_law_194 4 rfl ?_
  refine q_iconst (pc := 196) (v := 1) F.1 dL_law_196 (by decide) ?_
  refine q_iadd (pc := 197) F.1 dL_law_197 ?_
  refine q_sld (pc := 198) F.1 F.2.2.1 F.2.2.2.1 F.2.2.2.2 hv.1 dL_law_198 ?_
  refine q_aload_n (pc := 199) F.1 dL_law_199 rfl 0 rfl ?_
  refine q_iload (pc := 200) F.1 dL_law_200 4 rfl ?_
  refine q_iconst (pc := 202) (v := 2) F.1 dL_law_202 (by decide) ?_
  refine q_iadd (pc := 203) F.1 dL_law_203 ?_
  refine q_sld (pc := 204) F.1 F.2.2.1 F.2.2.2.1 F.2.2.2.2 hv.2.1 dL_law_204 ?_
  refine q_callVi (pc := 205) (rest := []) (Qp := RE G M.1 E (oPush (en E) (ew E) st (xs (i + 1).toNatClampNeg) (xs (i + 2).toNatClampNeg))) [.int (xs (i + 1).toNatClampNeg), .int (xs (i + 2).toNatClampNeg)] F.1 (c_X10_pushLimb hND hI.2.2 hI9 (m_push hE hI.1 (fun N h => ⟨rfl, h⟩))) cf_X10_pushLimb cv_X10_pushLimb (gw_t2 116 rfl rfl) hI9 ⟨by decide, rfl, rfl⟩ ⟨rfl, rfl⟩ ⟨Nat.le_of_ble_eq_true rfl, Nat.le_of_ble_eq_true rfl⟩ hRc rfl rfl (Nat.le_of_ble_eq_true rfl) dL_law_205 (fun r1 N1 hq1 hT1 => ?_)
  have hK1 : KJ G N1 L (en E) (ew E) st := hI.2.1.keep (MI.kq hM6 hq1.2)
  refine q_aload_n (pc := 208) F.1 dL_law_208 rfl 2 rfl ?_
  refine q_aload_n (pc := 209) F.1 dL_law_209 rfl 0 rfl ?_
  refine q_iload (pc := 210) F.1 dL_law_210 4 rfl ?_
  refine q_iconst (pc := 212) (v := 1) F.1 dL_law_212 (by decide) ?_
  refine q_iadd (pc := 213) F.1 dL_law_213 ?_
  refine q_sld (pc := 214) F.1 F.2.2.1 F.2.2.2.1 F.2.2.2.2 hv.1 dL_law_214 ?_
  refine q_aload_n (pc := 215) F.1 dL_law_215 rfl 0 rfl ?_
  refine q_iload (pc := 216) F.1 dL_law_216 4 rfl ?_
  refine q_iconst (pc := 218) (v := 2) F.1 dL_law_218 (by decide) ?_
  refine q_iadd (pc := 219) F.1 dL_law_219 ?_
  refine q_sld (pc := 220) F.1 F.2.2.1 F.2.2.2.1 F.2.2.2.2 hv.2.1 dL_law_220 ?_
  refine q_callVi (pc := 221) (rest := [.int r1]) (Qp := RK G N1 L E (oPush (en E) (ew E) st (xs (i + 1).toNatClampNeg) (xs (i + 2).toNatClampNeg))) [.int (xs (i + 1).toNatClampNeg), .int (xs (i + 2).toNatClampNeg)] F.1 (c_X11_pushLimb hND hT1 hI10 (k_push hK1 (fun N g j _ => ⟨rfl, g, j⟩))) cf_X11_pushLimb cv_X11_pushLimb (gw_t4 199 rfl rfl) hI10 ⟨by decide, rfl, rfl⟩ ⟨rfl, rfl⟩ ⟨Nat.le_of_ble_eq_true rfl, Nat.le_of_ble_eq_true rfl⟩ hRc rfl rfl (Nat.le_of_ble_eq_true rfl) dL_law_221 (fun r2 N2 hq2 hT2 => ?_)
  exact q_icmp_eq (pc := 224) (tgt := 1485) F.1 dL_law_224 (by decide) (fun _ => next (N2, M.2) _ ⟨MI.kg hE hM6 hq1.2 hq2.2.1, hq2.2.2, hT2⟩) (fun hc => absurd (hq1.1.trans hq2.1.symm) hc)
theorem law_1 (F : LCx p s m args c D G lc o A E L b len xs) (hv : HVx i len) (hRc : cells ≤ room_1.cells ∧ slots ≤ room_1.slots) (hI : LIv G E L st M.1) (next : ∀ (N : MS × Int64) (st1 : ST), LIv G E L st1 N.1 → LW p l e room_1 s m args below meth c D G 7 lc o A cells slots Q 1485 (lvL b E L o i) [] N) : LW p l e room_1 s m args below meth c D G 7 lc o A cells slots Q 229 (lvL b E L o i) [] M := by
  obtain ⟨hE, hND, hM6, hI9, hI10⟩ := F.2.1
  refine q_aload_n (pc := 229) F.1 dL_law_229 rfl 1 rfl ?_
  refine q_aload_n (pc := 230) F.1 dL_law_230 rfl 0 rfl ?_
  refine q_iload (pc := 231) F.1 dL_law_231 4 rfl ?_
  refine q_iconst (pc := 233) (v := 1) F.1 dL_law_233 (by decide) ?_
  refine q_iadd (pc := 234) F.1 dL_law_234 ?_
  refine q_sld (pc := 235) F.1 F.2.2.1 F.2.2.2.1 F.2.2.2.2 hv.1 dL_law_235 ?_
  refine q_callVi (pc := 236) (rest := []) (Qp := RE G M.1 E (oClear (en E) st (xs (i + 1).toNatClampNeg))) [.int (xs (i + 1).toNatClampNeg)] F.1 (c_X10_clear hND hI.2.2 hI9 (m_clear hE hI.1 (fun N h => ⟨rfl, h⟩))) cf_X10_clear cv_X10_clear (gw_t2 152 rfl rfl) hI9 ⟨by decide, rfl, rfl⟩ ⟨rfl, rfl⟩ ⟨Nat.le_of_ble_eq_true rfl, Nat.le_of_ble_eq_true rfl⟩ hRc rfl rfl (Nat.le_of_ble_eq_true rfl) dL_law_236 (fun r1 N1 hq1 hT1 => ?_)
  have hK1 : KJ G N1 L (en E) (ew E) st := hI.2.1.keep (MI.kq hM6 hq1.2)
  refine q_aload_n (pc := 239) F.1 dL_law_239 rfl 2 rfl ?_
  refine q_aload_n (pc := 240) F.1 dL_law_240 rfl 0 rfl ?_
  refine q_iload (pc := 241) F.1 dL_law_241 4 rfl ?_
  refine q_iconst (pc := 243) (v := 1) F.1 dL_law_243 (by decide) ?_
  refine q_iadd (pc := 244) F.1 dL_law_244 ?_
  refine q_sld (pc := 245) F.1 F.2.2.1 F.2.2.2.1 F.2.2.2.2 hv.1 dL_law_245 ?_
  refine q_callVi (pc := 246) (rest := [.int r1]) (Qp := RK G N1 L E (oClear (en E) st (xs (i + 1).toNatClampNeg))) [.int (xs (i + 1).toNatClampNeg)] F.1 (c_X11_clear hND hT1 hI10 (k_clear hK1 (fun N g j _ => ⟨rfl, g, j⟩))) cf_X11_clear cv_X11_clear (gw_t4 224 rfl rfl) hI10 ⟨by decide, rfl, rfl⟩ ⟨rfl, rfl⟩ ⟨Nat.le_of_ble_eq_true rfl, Nat.le_of_ble_eq_true rfl⟩ hRc rfl rfl (Nat.le_of_ble_eq_true rfl) dL_law_246 (fun r2 N2 hq2 hT2 => ?_)
  exact q_icmp_eq (pc := 249) (tgt := 1485) F.1 dL_law_249 (by decide) (fun _ => next (N2, M.2) _ ⟨MI.kg hE hM6 hq1.2 hq2.2.1, hq2.2.2, hT2⟩) (fun hc => absurd (hq1.1.trans hq2.1.symm) hc)
theorem law_2 (F : LCx p s m args c D G lc o A E L b len xs) (hv : HVx i len) (hRc : cells ≤ room_1.cells ∧ slots ≤ room_1.slots) (hI : LIv G E L st M.1) (next : ∀ (N : MS × Int64) (st1 : ST), LIv G E L st1 N.1 → LW p l e room_1 s m args below meth c D G 7 lc o A cells slots Q 1485 (lvL b E L o i) [] N) : LW p l e room_1 s m args below meth c D G 7 lc o A cells slots Q 254 (lvL b E L o i) [] M := by
  obtain ⟨hE, hND, hM6, hI9, hI10⟩ := F.2.1
  refine q_aload_n (pc := 254) F.1 dL_law_254 rfl 1 rfl ?_
  refine q_aload_n (pc := 255) F.1 dL_law_255 rfl 0 rfl ?_
  refine q_iload (pc := 256) F.1 dL_law_256 4 rfl ?_
  refine q_iconst (pc := 258) (v := 1) F.1 dL_law_258 (by decide) ?_
  refine q_iadd (pc := 259) F.1 dL_law_259 ?_
  refine q_sld (pc := 260) F.1 F.2.2.1 F.2.2.2.1 F.2.2.2.2 hv.1 dL_law_260 ?_
  refine q_aload_n (pc := 261) F.1 dL_law_261 rfl 0 rfl ?_
  refine q_iload (pc := 262) F.1 dL_law_262 4 rfl ?_
  refine q_iconst (pc := 264) (v := 2) F.1 dL_law_264 (by decide) ?_
  refine q_iadd (pc := 265) F.1 dL_law_265 ?_
  refine q_sld (pc := 266) F.1 F.2.2.1 F.2.2.2.1 F.2.2.2.2 hv.2.1 dL_law_266 ?_
  refine q_callVi (pc := 267) (rest := []) (Qp := RE G M.1 E (oNeg (en E) (ew E) st (xs (i + 1).toNatClampNeg) (xs (i + 2).toNatClampNeg))) [.int (xs (i + 1).toNatClampNeg), .int (xs (i + 2).toNatClampNeg)] F.1 (c_X10_negate hND hI.2.2 hI9 (m_neg hE hI.1 (fun N h => ⟨rfl, h⟩))) cf_X10_negate cv_X10_negate (gw_t2 156 rfl rfl) hI9 ⟨by decide, rfl, rfl⟩ ⟨rfl, rfl⟩ ⟨Nat.le_of_ble_eq_true rfl, Nat.le_of_ble_eq_true rfl⟩ hRc rfl rfl (Nat.le_of_ble_eq_true rfl) dL_law_267 (fun r1 N1 hq1 hT1 => ?_)
  have hK1 : KJ G N1 L (en E) (ew E) st := hI.2.1.keep (MI.kq hM6 hq1.2)
  refine q_aload_n (pc := 270) F.1 dL_law_270 rfl 2 rfl ?_
  refine q_aload_n (pc := 271) F.1 dL_law_271 rfl 0 rfl ?_
  refine q_iload (pc := 272) F.1 dL_law_272 4 rfl ?_
  refine q_iconst (pc := 274) (v := 1) F.1 dL_law_274 (by decide) ?_
  refine q_iadd (pc := 275) F.1 dL_law_275 ?_
  refine q_sld (pc := 276) F.1 F.2.2.1 F.2.2.2.1 F.2.2.2.2 hv.1 dL_law_276 ?_
  refine q_aload_n (pc := 277) F.1 dL_law_277 rfl 0 rfl ?_
  refine q_iload (pc := 278) F.1 dL_law_278 4 rfl ?_
  refine q_iconst (pc := 280) (v := 2) F.1 dL_law_280 (by decide) ?_
  refine q_iadd (pc := 281) F.1 dL_law_281 ?_
  refine q_sld (pc := 282) F.1 F.2.2.1 F.2.2.2.1 F.2.2.2.2 hv.2.1 dL_law_282 ?_
  refine q_callVi (pc := 283) (rest := [.int r1]) (Qp := RK G N1 L E (oNeg (en E) (ew E) st (xs (i + 1).toNatClampNeg) (xs (i + 2).toNatClampNeg))) [.int (xs (i + 1).toNatClampNeg), .int (xs (i + 2).toNatClampNeg)] F.1 (c_X11_negate hND hT1 hI10 (k_neg hK1 (fun N g j _ => ⟨rfl, g, j⟩))) cf_X11_negate cv_X11_negate (gw_t4 232 rfl rfl) hI10 ⟨by decide, rfl, rfl⟩ ⟨rfl, rfl⟩ ⟨Nat.le_of_ble_eq_true rfl, Nat.le_of_ble_eq_true rfl⟩ hRc rfl rfl (Nat.le_of_ble_eq_true rfl) dL_law_283 (fun r2 N2 hq2 hT2 => ?_)
  exact q_icmp_eq (pc := 286) (tgt := 1485) F.1 dL_law_286 (by decide) (fun _ => next (N2, M.2) _ ⟨MI.kg hE hM6 hq1.2 hq2.2.1, hq2.2.2, hT2⟩) (fun hc => absurd (hq1.1.trans hq2.1.symm) hc)
theorem law_3 (F : LCx p s m args c D G lc o A E L b len xs) (hv : HVx i len) (hRc : cells ≤ room_1.cells ∧ slots ≤ room_1.slots) (hI : LIv G E L st M.1) (next : ∀ (N : MS × Int64) (st1 : ST), LIv G E L st1 N.1 → LW p l e room_1 s m args below meth c D G 7 lc o A cells slots Q 1485 (lvL b E L o i) [] N) : LW p l e room_1 s m args below meth c D G 7 lc o A cells slots Q 291 (lvL b E L o i) [] M := by
  obtain ⟨hE, hND, hM6, hI9, hI10⟩ := F.2.1
  refine q_aload_n (pc := 291) F.1 dL_law_291 rfl 1 rfl ?_
  refine q_aload_n (pc := 292) F.1 dL_law_292 rfl 0 rfl ?_
  refine q_iload (pc := 293) F.1 dL_law_293 4 rfl ?_
  refine q_iconst (pc := 295) (v := 1) F.1 dL_law_295 (by decide) ?_
  refine q_iadd (pc := 296) F.1 dL_law_296 ?_
  refine q_sld (pc := 297) F.1 F.2.2.1 F.2.2.2.1 F.2.2.2.2 hv.1 dL_law_297 ?_
  refine q_aload_n (pc := 298) F.1 dL_law_298 rfl 0 rfl ?_
  refine q_iload (pc := 299) F.1 dL_law_299 4 rfl ?_
  refine q_iconst (pc := 301) (v := 2) F.1 dL_law_301 (by decide) ?_
  refine q_iadd (pc := 302) F.1 dL_law_302 ?_
  refine q_sld (pc := 303) F.1 F.2.2.1 F.2.2.2.1 F.2.2.2.2 hv.2.1 dL_law_303 ?_
  refine q_aload_n (pc := 304) F.1 dL_law_304 rfl 0 rfl ?_
  refine q_iload (pc := 305) F.1 dL_law_305 4 rfl ?_
  refine q_iconst (pc := 307) (v := 3) F.1 dL_law_307 (by decide) ?_
  refine q_iadd (pc := 308) F.1 dL_law_308 ?_
  refine q_sld (pc := 309) F.1 F.2.2.1 F.2.2.2.1 F.2.2.2.2 hv.2.2.1 dL_law_309 ?_
  refine q_callVi (pc := 310) (rest := []) (Qp := RE G M.1 E (oAdd (en E) (ew E) st (xs (i + 1).toNatClampNeg) (xs (i + 2).toNatClampNeg) (xs (i + 3).toNatClampNeg))) [.int (xs (i + 1).toNatClampNeg), .int (xs (i + 2).toNatClampNeg), .int (xs (i + 3).toNatClampNeg)] F.1 (c_X10_add hND hI.2.2 hI9 (m_add hE hI.1 (fun N h => ⟨rfl, h⟩))) cf_X10_add cv_X10_add (gw_t2 164 rfl rfl) hI9 ⟨by decide, rfl, rfl⟩ ⟨rfl, rfl⟩ ⟨Nat.le_of_ble_eq_true rfl, Nat.le_of_ble_eq_true rfl⟩ hRc rfl rfl (Nat.le_of_ble_eq_true rfl) dL_law_310 (fun r1 N1 hq1 hT1 => ?_)
  have hK1 : KJ G N1 L (en E) (ew E) st := hI.2.1.keep (MI.kq hM6 hq1.2)
  refine q_aload_n (pc := 313) F.1 dL_law_313 rfl 2 rfl ?_
  refine q_aload_n (pc := 314) F.1 dL_law_314 rfl 0 rfl ?_
  refine q_iload (pc := 315) F.1 dL_law_315 4 rfl ?_
  refine q_iconst (pc := 317) (v := 1) F.1 dL_law_317 (by decide) ?_
  refine q_iadd (pc := 318) F.1 dL_law_318 ?_
  refine q_sld (pc := 319) F.1 F.2.2.1 F.2.2.2.1 F.2.2.2.2 hv.1 dL_law_319 ?_
  refine q_aload_n (pc := 320) F.1 dL_law_320 rfl 0 rfl ?_
  refine q_iload (pc := 321) F.1 dL_law_321 4 rfl ?_
  refine q_iconst (pc := 323) (v := 2) F.1 dL_law_323 (by decide) ?_
  refine q_iadd (pc := 324) F.1 dL_law_324 ?_
  refine q_sld (pc := 325) F.1 F.2.2.1 F.2.2.2.1 F.2.2.2.2 hv.2.1 dL_law_325 ?_
  refine q_aload_n (pc := 326) F.1 dL_law_326 rfl 0 rfl ?_
  refine q_iload (pc := 327) F.1 dL_law_327 4 rfl ?_
  refine q_iconst (pc := 329) (v := 3) F.1 dL_law_329 (by decide) ?_
  refine q_iadd (pc := 330) F.1 dL_law_330 ?_
  refine q_sld (pc := 331) F.1 F.2.2.1 F.2.2.2.1 F.2.2.2.2 hv.2.2.1 dL_law_331 ?_
  refine q_callVi (pc := 332) (rest := [.int r1]) (Qp := RK G N1 L E (oAdd (en E) (ew E) st (xs (i + 1).toNatClampNeg) (xs (i + 2).toNatClampNeg) (xs (i + 3).toNatClampNeg))) [.int (xs (i + 1).toNatClampNeg), .int (xs (i + 2).toNatClampNeg), .int (xs (i + 3).toNatClampNeg)] F.1 (c_X11_add hND hT1 hI10 (k_add hK1 (fun N g j _ => ⟨rfl, g, j⟩))) cf_X11_add cv_X11_add (gw_t4 236 rfl rfl) hI10 ⟨by decide, rfl, rfl⟩ ⟨rfl, rfl⟩ ⟨Nat.le_of_ble_eq_true rfl, Nat.le_of_ble_eq_true rfl⟩ hRc rfl rfl (Nat.le_of_ble_eq_true rfl) dL_law_332 (fun r2 N2 hq2 hT2 => ?_)
  exact q_icmp_eq (pc := 335) (tgt := 1485) F.1 dL_law_335 (by decide) (fun _ => next (N2, M.2) _ ⟨MI.kg hE hM6 hq1.2 hq2.2.1, hq2.2.2, hT2⟩) (fun hc => absurd (hq1.1.trans hq2.1.symm) hc)
theorem law_4 (F : LCx p s m args c D G lc o A E L b len xs) (hv : HVx i len) (hRc : cells ≤ room_1.cells ∧ slots ≤ room_1.slots) (hI : LIv G E L st M.1) (next : ∀ (N : MS × Int64) (st1 : ST), LIv G E L st1 N.1 → LW p l e room_1 s m args below meth c D G 7 lc o A cells slots Q 1485 (lvL b E L o i) [] N) : LW p l e room_1 s m args below meth c D G 7 lc o A cells slots Q 340 (lvL b E L o i) [] M := by
  obtain ⟨hE, hND, hM6, hI9, hI10⟩ := F.2.1
  refine q_aload_n (pc := 340) F.1 dL_law_340 rfl 1 rfl ?_
  refine q_aload_n (pc := 341) F.1 dL_law_341 rfl 0 rfl ?_
  refine q_iload (pc := 342) F.1 dL_law_342 4 rfl ?_
  refine q_iconst (pc := 344) (v := 1) F.1 dL_law_344 (by decide) ?_
  refine q_iadd (pc := 345) F.1 dL_law_345 ?_
  refine q_sld (pc := 346) F.1 F.2.2.1 F.2.2.2.1 F.2.2.2.2 hv.1 dL_law_346 ?_
  refine q_aload_n (pc := 347) F.1 dL_law_347 rfl 0 rfl ?_
  refine q_iload (pc := 348) F.1 dL_law_348 4 rfl ?_
  refine q_iconst (pc := 350) (v := 2) F.1 dL_law_350 (by decide) ?_
  refine q_iadd (pc := 351) F.1 dL_law_351 ?_
  refine q_sld (pc := 352) F.1 F.2.2.1 F.2.2.2.1 F.2.2.2.2 hv.2.1 dL_law_352 ?_
  refine q_aload_n (pc := 353) F.1 dL_law_353 rfl 0 rfl ?_
  refine q_iload (pc := 354) F.1 dL_law_354 4 rfl ?_
  refine q_iconst (pc := 356) (v := 3) F.1 dL_law_356 (by decide) ?_
  refine q_iadd (pc := 357) F.1 dL_law_357 ?_
  refine q_sld (pc := 358) F.1 F.2.2.1 F.2.2.2.1 F.2.2.2.2 hv.2.2.1 dL_law_358 ?_
  refine q_callVi (pc := 359) (rest := []) (Qp := RE G M.1 E (oSub (en E) (ew E) st (xs (i + 1).toNatClampNeg) (xs (i + 2).toNatClampNeg) (xs (i + 3).toNatClampNeg))) [.int (xs (i + 1).toNatClampNeg), .int (xs (i + 2).toNatClampNeg), .int (xs (i + 3).toNatClampNeg)] F.1 (c_X10_subtract hND hI.2.2 hI9 (m_sub hE hI.1 (fun N h => ⟨rfl, h⟩))) cf_X10_subtract cv_X10_subtract (gw_t2 183 rfl rfl) hI9 ⟨by decide, rfl, rfl⟩ ⟨rfl, rfl⟩ ⟨Nat.le_of_ble_eq_true rfl, Nat.le_of_ble_eq_true rfl⟩ hRc rfl rfl (Nat.le_of_ble_eq_true rfl) dL_law_359 (fun r1 N1 hq1 hT1 => ?_)
  have hK1 : KJ G N1 L (en E) (ew E) st := hI.2.1.keep (MI.kq hM6 hq1.2)
  refine q_aload_n (pc := 362) F.1 dL_law_362 rfl 2 rfl ?_
  refine q_aload_n (pc := 363) F.1 dL_law_363 rfl 0 rfl ?_
  refine q_iload (pc := 364) F.1 dL_law_364 4 rfl ?_
  refine q_iconst (pc := 366) (v := 1) F.1 dL_law_366 (by decide) ?_
  refine q_iadd (pc := 367) F.1 dL_law_367 ?_
  refine q_sld (pc := 368) F.1 F.2.2.1 F.2.2.2.1 F.2.2.2.2 hv.1 dL_law_368 ?_
  refine q_aload_n (pc := 369) F.1 dL_law_369 rfl 0 rfl ?_
  refine q_iload (pc := 370) F.1 dL_law_370 4 rfl ?_
  refine q_iconst (pc := 372) (v := 2) F.1 dL_law_372 (by decide) ?_
  refine q_iadd (pc := 373) F.1 dL_law_373 ?_
  refine q_sld (pc := 374) F.1 F.2.2.1 F.2.2.2.1 F.2.2.2.2 hv.2.1 dL_law_374 ?_
  refine q_aload_n (pc := 375) F.1 dL_law_375 rfl 0 rfl ?_
  refine q_iload (pc := 376) F.1 dL_law_376 4 rfl ?_
  refine q_iconst (pc := 378) (v := 3) F.1 dL_law_378 (by decide) ?_
  refine q_iadd (pc := 379) F.1 dL_law_379 ?_
  refine q_sld (pc := 380) F.1 F.2.2.1 F.2.2.2.1 F.2.2.2.2 hv.2.2.1 dL_law_380 ?_
  refine q_callVi (pc := 381) (rest := [.int r1]) (Qp := RK G N1 L E (oSub (en E) (ew E) st (xs (i + 1).toNatClampNeg) (xs (i + 2).toNatClampNeg) (xs (i + 3).toNatClampNeg))) [.int (xs (i + 1).toNatClampNeg), .int (xs (i + 2).toNatClampNeg), .int (xs (i + 3).toNatClampNeg)] F.1 (c_X11_subtract hND hT1 hI10 (k_sub hK1 (fun N g j _ => ⟨rfl, g, j⟩))) cf_X11_subtract cv_X11_subtract (gw_t5 20 rfl rfl) hI10 ⟨by decide, rfl, rfl⟩ ⟨rfl, rfl⟩ ⟨Nat.le_of_ble_eq_true rfl, Nat.le_of_ble_eq_true rfl⟩ hRc rfl rfl (Nat.le_of_ble_eq_true rfl) dL_law_381 (fun r2 N2 hq2 hT2 => ?_)
  exact q_icmp_eq (pc := 384) (tgt := 1485) F.1 dL_law_384 (by decide) (fun _ => next (N2, M.2) _ ⟨MI.kg hE hM6 hq1.2 hq2.2.1, hq2.2.2, hT2⟩) (fun hc => absurd (hq1.1.trans hq2.1.symm) hc)
theorem law_5 (F : LCx p s m args c D G lc o A E L b len xs) (hv : HVx i len) (hRc : cells ≤ room_1.cells ∧ slots ≤ room_1.slots) (hI : LIv G E L st M.1) (next : ∀ (N : MS × Int64) (st1 : ST), LIv G E L st1 N.1 → LW p l e room_1 s m args below meth c D G 7 lc o A cells slots Q 1485 (lvL b E L o i) [] N) : LW p l e room_1 s m args below meth c D G 7 lc o A cells slots Q 389 (lvL b E L o i) [] M := by
  obtain ⟨hE, hND, hM6, hI9, hI10⟩ := F.2.1
  refine q_aload_n (pc := 389) F.1 dL_law_389 rfl 1 rfl ?_
  refine q_aload_n (pc := 390) F.1 dL_law_390 rfl 0 rfl ?_
  refine q_iload (pc := 391) F.1 dL_law_391 4 rfl ?_
  refine q_iconst (pc := 393) (v := 1) F.1 dL_law_393 (by decide) ?_
  refine q_iadd (pc := 394) F.1 dL_law_394 ?_
  refine q_sld (pc := 395) F.1 F.2.2.1 F.2.2.2.1 F.2.2.2.2 hv.1 dL_law_395 ?_
  refine q_aload_n (pc := 396) F.1 dL_law_396 rfl 0 rfl ?_
  refine q_iload (pc := 397) F.1 dL_law_397 4 rfl ?_
  refine q_iconst (pc := 399) (v := 2) F.1 dL_law_399 (by decide) ?_
  refine q_iadd (pc := 400) F.1 dL_law_400 ?_
  refine q_sld (pc := 401) F.1 F.2.2.1 F.2.2.2.1 F.2.2.2.2 hv.2.1 dL_law_401 ?_
  refine q_aload_n (pc := 402) F.1 dL_law_402 rfl 0 rfl ?_
  refine q_iload (pc := 403) F.1 dL_law_403 4 rfl ?_
  refine q_iconst (pc := 405) (v := 3) F.1 dL_law_405 (by decide) ?_
  refine q_iadd (pc := 406) F.1 dL_law_406 ?_
  refine q_sld (pc := 407) F.1 F.2.2.1 F.2.2.2.1 F.2.2.2.2 hv.2.2.1 dL_law_407 ?_
  refine q_callVi (pc := 408) (rest := []) (Qp := RE G M.1 E (oMul (en E) (ew E) st (xs (i + 1).toNatClampNeg) (xs (i + 2).toNatClampNeg) (xs (i + 3).toNatClampNeg))) [.int (xs (i + 1).toNatClampNeg), .int (xs (i + 2).toNatClampNeg), .int (xs (i + 3).toNatClampNeg)] F.1 (c_X10_multiply hND hI.2.2 hI9 (m_mul hE hI.1 (fun N h => ⟨rfl, h⟩))) cf_X10_multiply cv_X10_multiply (gw_t2 187 rfl rfl) hI9 ⟨by decide, rfl, rfl⟩ ⟨rfl, rfl⟩ ⟨Nat.le_of_ble_eq_true rfl, Nat.le_of_ble_eq_true rfl⟩ hRc rfl rfl (Nat.le_of_ble_eq_true rfl) dL_law_408 (fun r1 N1 hq1 hT1 => ?_)
  have hK1 : KJ G N1 L (en E) (ew E) st := hI.2.1.keep (MI.kq hM6 hq1.2)
  refine q_aload_n (pc := 411) F.1 dL_law_411 rfl 2 rfl ?_
  refine q_aload_n (pc := 412) F.1 dL_law_412 rfl 0 rfl ?_
  refine q_iload (pc := 413) F.1 dL_law_413 4 rfl ?_
  refine q_iconst (pc := 415) (v := 1) F.1 dL_law_415 (by decide) ?_
  refine q_iadd (pc := 416) F.1 dL_law_416 ?_
  refine q_sld (pc := 417) F.1 F.2.2.1 F.2.2.2.1 F.2.2.2.2 hv.1 dL_law_417 ?_
  refine q_aload_n (pc := 418) F.1 dL_law_418 rfl 0 rfl ?_
  refine q_iload (pc := 419) F.1 dL_law_419 4 rfl ?_
  refine q_iconst (pc := 421) (v := 2) F.1 dL_law_421 (by decide) ?_
  refine q_iadd (pc := 422) F.1 dL_law_422 ?_
  refine q_sld (pc := 423) F.1 F.2.2.1 F.2.2.2.1 F.2.2.2.2 hv.2.1 dL_law_423 ?_
  refine q_aload_n (pc := 424) F.1 dL_law_424 rfl 0 rfl ?_
  refine q_iload (pc := 425) F.1 dL_law_425 4 rfl ?_
  refine q_iconst (pc := 427) (v := 3) F.1 dL_law_427 (by decide) ?_
  refine q_iadd (pc := 428) F.1 dL_law_428 ?_
  refine q_sld (pc := 429) F.1 F.2.2.1 F.2.2.2.1 F.2.2.2.2 hv.2.2.1 dL_law_429 ?_
  refine q_callVi (pc := 430) (rest := [.int r1]) (Qp := RK G N1 L E (oMul (en E) (ew E) st (xs (i + 1).toNatClampNeg) (xs (i + 2).toNatClampNeg) (xs (i + 3).toNatClampNeg))) [.int (xs (i + 1).toNatClampNeg), .int (xs (i + 2).toNatClampNeg), .int (xs (i + 3).toNatClampNeg)] F.1 (c_X11_multiply hND hT1 hI10 (k_mul hK1 (fun N g j _ => ⟨rfl, g, j⟩))) cf_X11_multiply cv_X11_multiply (gw_t5 24 rfl rfl) hI10 ⟨by decide, rfl, rfl⟩ ⟨rfl, rfl⟩ ⟨Nat.le_of_ble_eq_true rfl, Nat.le_of_ble_eq_true rfl⟩ hRc rfl rfl (Nat.le_of_ble_eq_true rfl) dL_law_430 (fun r2 N2 hq2 hT2 => ?_)
  exact q_icmp_eq (pc := 433) (tgt := 1485) F.1 dL_law_433 (by decide) (fun _ => next (N2, M.2) _ ⟨MI.kg hE hM6 hq1.2 hq2.2.1, hq2.2.2, hT2⟩) (fun hc => absurd (hq1.1.trans hq2.1.symm) hc)
theorem law_6 (F : LCx p s m args c D G lc o A E L b len xs) (hv : HVx i len) (hRc : cells ≤ room_1.cells ∧ slots ≤ room_1.slots) (hI : LIv G E L st M.1) (next : ∀ (N : MS × Int64) (st1 : ST), LIv G E L st1 N.1 → LW p l e room_1 s m args below meth c D G 7 lc o A cells slots Q 1485 (lvL b E L o i) [] N) : LW p l e room_1 s m args below meth c D G 7 lc o A cells slots Q 438 (lvL b E L o i) [] M := by
  obtain ⟨hE, hND, hM6, hI9, hI10⟩ := F.2.1
  refine q_aload_n (pc := 438) F.1 dL_law_438 rfl 1 rfl ?_
  refine q_aload_n (pc := 439) F.1 dL_law_439 rfl 0 rfl ?_
  refine q_iload (pc := 440) F.1 dL_law_440 4 rfl ?_
  refine q_iconst (pc := 442) (v := 1) F.1 dL_law_442 (by decide) ?_
  refine q_iadd (pc := 443) F.1 dL_law_443 ?_
  refine q_sld (pc := 444) F.1 F.2.2.1 F.2.2.2.1 F.2.2.2.2 hv.1 dL_law_444 ?_
  refine q_aload_n (pc := 445) F.1 dL_law_445 rfl 0 rfl ?_
  refine q_iload (pc := 446) F.1 dL_law_446 4 rfl ?_
  refine q_iconst (pc := 448) (v := 2) F.1 dL_law_448 (by decide) ?_
  refine q_iadd (pc := 449) F.1 dL_law_449 ?_
  refine q_sld (pc := 450) F.1 F.2.2.1 F.2.2.2.1 F.2.2.2.2 hv.2.1 dL_law_450 ?_
  refine q_aload_n (pc := 451) F.1 dL_law_451 rfl 0 rfl ?_
  refine q_iload (pc := 452) F.1 dL_law_452 4 rfl ?_
  refine q_iconst (pc := 454) (v := 3) F.1 dL_law_454 (by decide) ?_
  refine q_iadd (pc := 455) F.1 dL_law_455 ?_
  refine q_sld (pc := 456) F.1 F.2.2.1 F.2.2.2.1 F.2.2.2.2 hv.2.2.1 dL_law_456 ?_
  refine q_aload_n (pc := 457) F.1 dL_law_457 rfl 0 rfl ?_
  refine q_iload (pc := 458) F.1 dL_law_458 4 rfl ?_
  refine q_iconst (pc := 460) (v := 4) F.1 dL_law_460 (by decide) ?_
  refine q_iadd (pc := 461) F.1 dL_law_461 ?_
  refine q_sld (pc := 462) F.1 F.2.2.1 F.2.2.2.1 F.2.2.2.2 hv.2.2.2.1 dL_law_462 ?_
  refine q_callVi (pc := 463) (rest := []) (Qp := RE G M.1 E (oDiv (en E) (ew E) st (xs (i + 1).toNatClampNeg) (xs (i + 2).toNatClampNeg) (xs (i + 3).toNatClampNeg) (xs (i + 4).toNatClampNeg))) [.int (xs (i + 1).toNatClampNeg), .int (xs (i + 2).toNatClampNeg), .int (xs (i + 3).toNatClampNeg), .int (xs (i + 4).toNatClampNeg)] F.1 (c_X10_divide hND hI.2.2 hI9 (m_div hE hI.1 (fun N h => ⟨rfl, h⟩))) cf_X10_divide cv_X10_divide (gw_t2 195 rfl rfl) hI9 ⟨by decide, rfl, rfl⟩ ⟨rfl, rfl⟩ ⟨Nat.le_of_ble_eq_true rfl, Nat.le_of_ble_eq_true rfl⟩ hRc rfl rfl (Nat.le_of_ble_eq_true rfl) dL_law_463 (fun r1 N1 hq1 hT1 => ?_)
  have hK1 : KJ G N1 L (en E) (ew E) st := hI.2.1.keep (MI.kq hM6 hq1.2)
  refine q_aload_n (pc := 466) F.1 dL_law_466 rfl 2 rfl ?_
  refine q_aload_n (pc := 467) F.1 dL_law_467 rfl 0 rfl ?_
  refine q_iload (pc := 468) F.1 dL_law_468 4 rfl ?_
  refine q_iconst (pc := 470) (v := 1) F.1 dL_law_470 (by decide) ?_
  refine q_iadd (pc := 471) F.1 dL_law_471 ?_
  refine q_sld (pc := 472) F.1 F.2.2.1 F.2.2.2.1 F.2.2.2.2 hv.1 dL_law_472 ?_
  refine q_aload_n (pc := 473) F.1 dL_law_473 rfl 0 rfl ?_
  refine q_iload (pc := 474) F.1 dL_law_474 4 rfl ?_
  refine q_iconst (pc := 476) (v := 2) F.1 dL_law_476 (by decide) ?_
  refine q_iadd (pc := 477) F.1 dL_law_477 ?_
  refine q_sld (pc := 478) F.1 F.2.2.1 F.2.2.2.1 F.2.2.2.2 hv.2.1 dL_law_478 ?_
  refine q_aload_n (pc := 479) F.1 dL_law_479 rfl 0 rfl ?_
  refine q_iload (pc := 480) F.1 dL_law_480 4 rfl ?_
  refine q_iconst (pc := 482) (v := 3) F.1 dL_law_482 (by decide) ?_
  refine q_iadd (pc := 483) F.1 dL_law_483 ?_
  refine q_sld (pc := 484) F.1 F.2.2.1 F.2.2.2.1 F.2.2.2.2 hv.2.2.1 dL_law_484 ?_
  refine q_aload_n (pc := 485) F.1 dL_law_485 rfl 0 rfl ?_
  refine q_iload (pc := 486) F.1 dL_law_486 4 rfl ?_
  refine q_iconst (pc := 488) (v := 4) F.1 dL_law_488 (by decide) ?_
  refine q_iadd (pc := 489) F.1 dL_law_489 ?_
  refine q_sld (pc := 490) F.1 F.2.2.1 F.2.2.2.1 F.2.2.2.2 hv.2.2.2.1 dL_law_490 ?_
  refine q_callVi (pc := 491) (rest := [.int r1]) (Qp := RK G N1 L E (oDiv (en E) (ew E) st (xs (i + 1).toNatClampNeg) (xs (i + 2).toNatClampNeg) (xs (i + 3).toNatClampNeg) (xs (i + 4).toNatClampNeg))) [.int (xs (i + 1).toNatClampNeg), .int (xs (i + 2).toNatClampNeg), .int (xs (i + 3).toNatClampNeg), .int (xs (i + 4).toNatClampNeg)] F.1 (c_X11_divide hND hT1 hI10 (k_div hK1 (fun N g j _ => ⟨rfl, g, j⟩))) cf_X11_divide cv_X11_divide (gw_t5 33 rfl rfl) hI10 ⟨by decide, rfl, rfl⟩ ⟨rfl, rfl⟩ ⟨Nat.le_of_ble_eq_true rfl, Nat.le_of_ble_eq_true rfl⟩ hRc rfl rfl (Nat.le_of_ble_eq_true rfl) dL_law_491 (fun r2 N2 hq2 hT2 => ?_)
  exact q_icmp_eq (pc := 494) (tgt := 1485) F.1 dL_law_494 (by decide) (fun _ => next (N2, M.2) _ ⟨MI.kg hE hM6 hq1.2 hq2.2.1, hq2.2.2, hT2⟩) (fun hc => absurd (hq1.1.trans hq2.1.symm) hc)
theorem law_7 (F : LCx p s m args c D G lc o A E L b len xs) (hv : HVx i len) (hRc : cells ≤ room_1.cells ∧ slots ≤ room_1.slots) (hI : LIv G E L st M.1) (next : ∀ (N : MS × Int64) (st1 : ST), LIv G E L st1 N.1 → LW p l e room_1 s m args below meth c D G 7 lc o A cells slots Q 1485 (lvL b E L o i) [] N) : LW p l e room_1 s m args below meth c D G 7 lc o A cells slots Q 499 (lvL b E L o i) [] M := by
  obtain ⟨hE, hND, hM6, hI9, hI10⟩ := F.2.1
  refine q_aload_n (pc := 499) F.1 dL_law_499 rfl 1 rfl ?_
  refine q_aload_n (pc := 500) F.1 dL_law_500 rfl 0 rfl ?_
  refine q_iload (pc := 501) F.1 dL_law_501 4 rfl ?_
  refine q_iconst (pc := 503) (v := 1) F.1 dL_law_503 (by decide) ?_
  refine q_iadd (pc := 504) F.1 dL_law_504 ?_
  refine q_sld (pc := 505) F.1 F.2.2.1 F.2.2.2.1 F.2.2.2.2 hv.1 dL_law_505 ?_
  refine q_aload_n (pc := 506) F.1 dL_law_506 rfl 0 rfl ?_
  refine q_iload (pc := 507) F.1 dL_law_507 4 rfl ?_
  refine q_iconst (pc := 509) (v := 2) F.1 dL_law_509 (by decide) ?_
  refine q_iadd (pc := 510) F.1 dL_law_510 ?_
  refine q_sld (pc := 511) F.1 F.2.2.1 F.2.2.2.1 F.2.2.2.2 hv.2.1 dL_law_511 ?_
  refine q_aload_n (pc := 512) F.1 dL_law_512 rfl 0 rfl ?_
  refine q_iload (pc := 513) F.1 dL_law_513 4 rfl ?_
  refine q_iconst (pc := 515) (v := 3) F.1 dL_law_515 (by decide) ?_
  refine q_iadd (pc := 516) F.1 dL_law_516 ?_
  refine q_sld (pc := 517) F.1 F.2.2.1 F.2.2.2.1 F.2.2.2.2 hv.2.2.1 dL_law_517 ?_
  refine q_callVi (pc := 518) (rest := []) (Qp := RE G M.1 E (oShift (en E) (ew E) st (xs (i + 1).toNatClampNeg) (xs (i + 2).toNatClampNeg) (xs (i + 3).toNatClampNeg))) [.int (xs (i + 1).toNatClampNeg), .int (xs (i + 2).toNatClampNeg), .int (xs (i + 3).toNatClampNeg)] F.1 (c_X10_shift hND hI.2.2 hI9 (m_shift hE hI.1 (fun N h => ⟨rfl, h⟩))) cf_X10_shift cv_X10_shift (gw_t3 9 rfl rfl) hI9 ⟨by decide, rfl, rfl⟩ ⟨rfl, rfl⟩ ⟨Nat.le_of_ble_eq_true rfl, Nat.le_of_ble_eq_true rfl⟩ hRc rfl rfl (Nat.le_of_ble_eq_true rfl) dL_law_518 (fun r1 N1 hq1 hT1 => ?_)
  have hK1 : KJ G N1 L (en E) (ew E) st := hI.2.1.keep (MI.kq hM6 hq1.2)
  refine q_aload_n (pc := 521) F.1 dL_law_521 rfl 2 rfl ?_
  refine q_aload_n (pc := 522) F.1 dL_law_522 rfl 0 rfl ?_
  refine q_iload (pc := 523) F.1 dL_law_523 4 rfl ?_
  refine q_iconst (pc := 525) (v := 1) F.1 dL_law_525 (by decide) ?_
  refine q_iadd (pc := 526) F.1 dL_law_526 ?_
  refine q_sld (pc := 527) F.1 F.2.2.1 F.2.2.2.1 F.2.2.2.2 hv.1 dL_law_527 ?_
  refine q_aload_n (pc := 528) F.1 dL_law_528 rfl 0 rfl ?_
  refine q_iload (pc := 529) F.1 dL_law_529 4 rfl ?_
  refine q_iconst (pc := 531) (v := 2) F.1 dL_law_531 (by decide) ?_
  refine q_iadd (pc := 532) F.1 dL_law_532 ?_
  refine q_sld (pc := 533) F.1 F.2.2.1 F.2.2.2.1 F.2.2.2.2 hv.2.1 dL_law_533 ?_
  refine q_aload_n (pc := 534) F.1 dL_law_534 rfl 0 rfl ?_
  refine q_iload (pc := 535) F.1 dL_law_535 4 rfl ?_
  refine q_iconst (pc := 537) (v := 3) F.1 dL_law_537 (by decide) ?_
  refine q_iadd (pc := 538) F.1 dL_law_538 ?_
  refine q_sld (pc := 539) F.1 F.2.2.1 F.2.2.2.1 F.2.2.2.2 hv.2.2.1 dL_law_539 ?_
  refine q_callVi (pc := 540) (rest := [.int r1]) (Qp := RK G N1 L E (oShift (en E) (ew E) st (xs (i + 1).toNatClampNeg) (xs (i + 2).toNatClampNeg) (xs (i + 3).toNatClampNeg))) [.int (xs (i + 1).toNatClampNeg), .int (xs (i + 2).toNatClampNeg), .int (xs (i + 3).toNatClampNeg)] F.1 (c_X11_shift hND hT1 hI10 (k_shift hK1 (fun N g j _ => ⟨rfl, g, j⟩))) cf_X11_shift cv_X11_shift (gw_t5 49 rfl rfl) hI10 ⟨by decide, rfl, rfl⟩ ⟨rfl, rfl⟩ ⟨Nat.le_of_ble_eq_true rfl, Nat.le_of_ble_eq_true rfl⟩ hRc rfl rfl (Nat.le_of_ble_eq_true rfl) dL_law_540 (fun r2 N2 hq2 hT2 => ?_)
  exact q_icmp_eq (pc := 543) (tgt := 1485) F.1 dL_law_543 (by decide) (fun _ => next (N2, M.2) _ ⟨MI.kg hE hM6 hq1.2 hq2.2.1, hq2.2.2, hT2⟩) (fun hc => absurd (hq1.1.trans hq2.1.symm) hc)
theorem law_8 (F : LCx p s m args c D G lc o A E L b len xs) (hv : HVx i len) (hRc : cells ≤ room_1.cells ∧ slots ≤ room_1.slots) (hI : LIv G E L st M.1) (next : ∀ (N : MS × Int64) (st1 : ST), LIv G E L st1 N.1 → LW p l e room_1 s m args below meth c D G 7 lc o A cells slots Q 1485 (lvL b E L o i) [] N) : LW p l e room_1 s m args below meth c D G 7 lc o A cells slots Q 548 (lvL b E L o i) [] M := by
  obtain ⟨hE, hND, hM6, hI9, hI10⟩ := F.2.1
  refine q_aload_n (pc := 548) F.1 dL_law_548 rfl 1 rfl ?_
  refine q_aload_n (pc := 549) F.1 dL_law_549 rfl 0 rfl ?_
  refine q_iload (pc := 550) F.1 dL_law_550 4 rfl ?_
  refine q_iconst (pc := 552) (v := 1) F.1 dL_law_552 (by decide) ?_
  refine q_iadd (pc := 553) F.1 dL_law_553 ?_
  refine q_sld (pc := 554) F.1 F.2.2.1 F.2.2.2.1 F.2.2.2.2 hv.1 dL_law_554 ?_
  refine q_aload_n (pc := 555) F.1 dL_law_555 rfl 0 rfl ?_
  refine q_iload (pc := 556) F.1 dL_law_556 4 rfl ?_
  refine q_iconst (pc := 558) (v := 2) F.1 dL_law_558 (by decide) ?_
  refine q_iadd (pc := 559) F.1 dL_law_559 ?_
  refine q_sld (pc := 560) F.1 F.2.2.1 F.2.2.2.1 F.2.2.2.2 hv.2.1 dL_law_560 ?_
  refine q_callVi (pc := 561) (rest := []) (Qp := RE G M.1 E (oCmp (en E) st (xs (i + 1).toNatClampNeg) (xs (i + 2).toNatClampNeg))) [.int (xs (i + 1).toNatClampNeg), .int (xs (i + 2).toNatClampNeg)] F.1 (c_X10_compare hND hI.2.2 hI9 (m_cmp hE hI.1 (fun N h => ⟨rfl, h⟩))) cf_X10_compare cv_X10_compare (gw_t3 31 rfl rfl) hI9 ⟨by decide, rfl, rfl⟩ ⟨rfl, rfl⟩ ⟨Nat.le_of_ble_eq_true rfl, Nat.le_of_ble_eq_true rfl⟩ hRc rfl rfl (Nat.le_of_ble_eq_true rfl) dL_law_561 (fun r1 N1 hq1 hT1 => ?_)
  have hK1 : KJ G N1 L (en E) (ew E) st := hI.2.1.keep (MI.kq hM6 hq1.2)
  refine q_aload_n (pc := 564) F.1 dL_law_564 rfl 2 rfl ?_
  refine q_aload_n (pc := 565) F.1 dL_law_565 rfl 0 rfl ?_
  refine q_iload (pc := 566) F.1 dL_law_566 4 rfl ?_
  refine q_iconst (pc := 568) (v := 1) F.1 dL_law_568 (by decide) ?_
  refine q_iadd (pc := 569) F.1 dL_law_569 ?_
  refine q_sld (pc := 570) F.1 F.2.2.1 F.2.2.2.1 F.2.2.2.2 hv.1 dL_law_570 ?_
  refine q_aload_n (pc := 571) F.1 dL_law_571 rfl 0 rfl ?_
  refine q_iload (pc := 572) F.1 dL_law_572 4 rfl ?_
  refine q_iconst (pc := 574) (v := 2) F.1 dL_law_574 (by decide) ?_
  refine q_iadd (pc := 575) F.1 dL_law_575 ?_
  refine q_sld (pc := 576) F.1 F.2.2.1 F.2.2.2.1 F.2.2.2.2 hv.2.1 dL_law_576 ?_
  refine q_callVi (pc := 577) (rest := [.int r1]) (Qp := RK G N1 L E (oCmp (en E) st (xs (i + 1).toNatClampNeg) (xs (i + 2).toNatClampNeg))) [.int (xs (i + 1).toNatClampNeg), .int (xs (i + 2).toNatClampNeg)] F.1 (c_X11_compare hND hT1 hI10 (k_cmp hK1 (fun N g j _ => ⟨rfl, g, j⟩))) cf_X11_compare cv_X11_compare (gw_t5 71 rfl rfl) hI10 ⟨by decide, rfl, rfl⟩ ⟨rfl, rfl⟩ ⟨Nat.le_of_ble_eq_true rfl, Nat.le_of_ble_eq_true rfl⟩ hRc rfl rfl (Nat.le_of_ble_eq_true rfl) dL_law_577 (fun r2 N2 hq2 hT2 => ?_)
  exact q_icmp_eq (pc := 580) (tgt := 1485) F.1 dL_law_580 (by decide) (fun _ => next (N2, M.2) _ ⟨MI.kg hE hM6 hq1.2 hq2.2.1, hq2.2.2, hT2⟩) (fun hc => absurd (hq1.1.trans hq2.1.symm) hc)
theorem law_9 (F : LCx p s m args c D G lc o A E L b len xs) (hv : HVx i len) (hRc : cells ≤ room_1.cells ∧ slots ≤ room_1.slots) (hI : LIv G E L st M.1) (next : ∀ (N : MS × Int64) (st1 : ST), LIv G E L st1 N.1 → LW p l e room_1 s m args below meth c D G 7 lc o A cells slots Q 1485 (lvL b E L o i) [] N) : LW p l e room_1 s m args below meth c D G 7 lc o A cells slots Q 585 (lvL b E L o i) [] M := by
  obtain ⟨hE, hND, hM6, hI9, hI10⟩ := F.2.1
  refine q_aload_n (pc := 585) F.1 dL_law_585 rfl 1 rfl ?_
  refine q_aload_n (pc := 586) F.1 dL_law_586 rfl 0 rfl ?_
  refine q_iload (pc := 587) F.1 dL_law_587 4 rfl ?_
  refine q_iconst (pc := 589) (v := 1) F.1 dL_law_589 (by decide) ?_
  refine q_iadd (pc := 590) F.1 dL_law_590 ?_
  refine q_sld (pc := 591) F.1 F.2.2.1 F.2.2.2.1 F.2.2.2.2 hv.1 dL_law_591 ?_
  refine q_aload_n (pc := 592) F.1 dL_law_592 rfl 0 rfl ?_
  refine q_iload (pc := 593) F.1 dL_law_593 4 rfl ?_
  refine q_iconst (pc := 595) (v := 2) F.1 dL_law_595 (by decide) ?_
  refine q_iadd (pc := 596) F.1 dL_law_596 ?_
  refine q_sld (pc := 597) F.1 F.2.2.1 F.2.2.2.1 F.2.2.2.2 hv.2.1 dL_law_597 ?_
  refine q_aload_n (pc := 598) F.1 dL_law_598 rfl 0 rfl ?_
  refine q_iload (pc := 599) F.1 dL_law_599 4 rfl ?_
  refine q_iconst (pc := 601) (v := 3) F.1 dL_law_601 (by decide) ?_
  refine q_iadd (pc := 602) F.1 dL_law_602 ?_
  refine q_sld (pc := 603) F.1 F.2.2.1 F.2.2.2.1 F.2.2.2.2 hv.2.2.1 dL_law_603 ?_
  refine q_callVi (pc := 604) (rest := []) (Qp := RE G M.1 E (oGcd (en E) st (xs (i + 1).toNatClampNeg) (xs (i + 2).toNatClampNeg) (xs (i + 3).toNatClampNeg))) [.int (xs (i + 1).toNatClampNeg), .int (xs (i + 2).toNatClampNeg), .int (xs (i + 3).toNatClampNeg)] F.1 (c_X10_gcdBinary hND hI.2.2 hI9 (m_gcdB hE hI.1 (fun N h => ⟨rfl, h⟩))) cf_X10_gcdBinary cv_X10_gcdBinary (gw_t3 36 rfl rfl) hI9 ⟨by decide, rfl, rfl⟩ ⟨rfl, rfl⟩ ⟨Nat.le_of_ble_eq_true rfl, Nat.le_of_ble_eq_true rfl⟩ hRc rfl rfl (Nat.le_of_ble_eq_true rfl) dL_law_604 (fun r1 N1 hq1 hT1 => ?_)
  have hK1 : KJ G N1 L (en E) (ew E) st := hI.2.1.keep (MI.kq hM6 hq1.2)
  refine q_aload_n (pc := 607) F.1 dL_law_607 rfl 2 rfl ?_
  refine q_aload_n (pc := 608) F.1 dL_law_608 rfl 0 rfl ?_
  refine q_iload (pc := 609) F.1 dL_law_609 4 rfl ?_
  refine q_iconst (pc := 611) (v := 1) F.1 dL_law_611 (by decide) ?_
  refine q_iadd (pc := 612) F.1 dL_law_612 ?_
  refine q_sld (pc := 613) F.1 F.2.2.1 F.2.2.2.1 F.2.2.2.2 hv.1 dL_law_613 ?_
  refine q_aload_n (pc := 614) F.1 dL_law_614 rfl 0 rfl ?_
  refine q_iload (pc := 615) F.1 dL_law_615 4 rfl ?_
  refine q_iconst (pc := 617) (v := 2) F.1 dL_law_617 (by decide) ?_
  refine q_iadd (pc := 618) F.1 dL_law_618 ?_
  refine q_sld (pc := 619) F.1 F.2.2.1 F.2.2.2.1 F.2.2.2.2 hv.2.1 dL_law_619 ?_
  refine q_aload_n (pc := 620) F.1 dL_law_620 rfl 0 rfl ?_
  refine q_iload (pc := 621) F.1 dL_law_621 4 rfl ?_
  refine q_iconst (pc := 623) (v := 3) F.1 dL_law_623 (by decide) ?_
  refine q_iadd (pc := 624) F.1 dL_law_624 ?_
  refine q_sld (pc := 625) F.1 F.2.2.1 F.2.2.2.1 F.2.2.2.2 hv.2.2.1 dL_law_625 ?_
  refine q_callVi (pc := 626) (rest := [.int r1]) (Qp := RK G N1 L E (oGcd (en E) st (xs (i + 1).toNatClampNeg) (xs (i + 2).toNatClampNeg) (xs (i + 3).toNatClampNeg))) [.int (xs (i + 1).toNatClampNeg), .int (xs (i + 2).toNatClampNeg), .int (xs (i + 3).toNatClampNeg)] F.1 (c_X11_gcdBinary hND hT1 hI10 (by unfold w_X11_gcdBinary; exact k_gcd hK1 (fun N g j _ => ⟨rfl, g, j⟩))) cf_X11_gcdBinary cv_X11_gcdBinary (gw_t5 75 rfl rfl) hI10 ⟨by decide, rfl, rfl⟩ ⟨rfl, rfl⟩ ⟨Nat.le_of_ble_eq_true rfl, Nat.le_of_ble_eq_true rfl⟩ hRc rfl rfl (Nat.le_of_ble_eq_true rfl) dL_law_626 (fun r2 N2 hq2 hT2 => ?_)
  exact q_icmp_eq (pc := 629) (tgt := 1485) F.1 dL_law_629 (by decide) (fun _ => next (N2, M.2) _ ⟨MI.kg hE hM6 hq1.2 hq2.2.1, hq2.2.2, hT2⟩) (fun hc => absurd (hq1.1.trans hq2.1.symm) hc)
theorem law_10 (F : LCx p s m args c D G lc o A E L b len xs) (hv : HVx i len) (hRc : cells ≤ room_1.cells ∧ slots ≤ room_1.slots) (hI : LIv G E L st M.1) (next : ∀ (N : MS × Int64) (st1 : ST), LIv G E L st1 N.1 → LW p l e room_1 s m args below meth c D G 7 lc o A cells slots Q 1485 (lvL b E L o i) [] N) : LW p l e room_1 s m args below meth c D G 7 lc o A cells slots Q 634 (lvL b E L o i) [] M := by
  obtain ⟨hE, hND, hM6, hI9, hI10⟩ := F.2.1
  refine q_aload_n (pc := 634) F.1 dL_law_634 rfl 1 rfl ?_
  refine q_aload_n (pc := 635) F.1 dL_law_635 rfl 0 rfl ?_
  refine q_iload (pc := 636) F.1 dL_law_636 4 rfl ?_
  refine q_iconst (pc := 638) (v := 1) F.1 dL_law_638 (by decide) ?_
  refine q_iadd (pc := 639) F.1 dL_law_639 ?_
  refine q_sld (pc := 640) F.1 F.2.2.1 F.2.2.2.1 F.2.2.2.2 hv.1 dL_law_640 ?_
  refine q_aload_n (pc := 641) F.1 dL_law_641 rfl 0 rfl ?_
  refine q_iload (pc := 642) F.1 dL_law_642 4 rfl ?_
  refine q_iconst (pc := 644) (v := 2) F.1 dL_law_644 (by decide) ?_
  refine q_iadd (pc := 645) F.1 dL_law_645 ?_
  refine q_sld (pc := 646) F.1 F.2.2.1 F.2.2.2.1 F.2.2.2.2 hv.2.1 dL_law_646 ?_
  refine q_aload_n (pc := 647) F.1 dL_law_647 rfl 0 rfl ?_
  refine q_iload (pc := 648) F.1 dL_law_648 4 rfl ?_
  refine q_iconst (pc := 650) (v := 3) F.1 dL_law_650 (by decide) ?_
  refine q_iadd (pc := 651) F.1 dL_law_651 ?_
  refine q_sld (pc := 652) F.1 F.2.2.1 F.2.2.2.1 F.2.2.2.2 hv.2.2.1 dL_law_652 ?_
  refine q_callVi (pc := 653) (rest := []) (Qp := RE G M.1 E (oGcd (en E) st (xs (i + 1).toNatClampNeg) (xs (i + 2).toNatClampNeg) (xs (i + 3).toNatClampNeg))) [.int (xs (i + 1).toNatClampNeg), .int (xs (i + 2).toNatClampNeg), .int (xs (i + 3).toNatClampNeg)] F.1 (c_X10_gcdEuclid hND hI.2.2 hI9 (m_gcdE hE hI.1 (fun N h => ⟨rfl, h⟩))) cf_X10_gcdEuclid cv_X10_gcdEuclid (gw_t3 56 rfl rfl) hI9 ⟨by decide, rfl, rfl⟩ ⟨rfl, rfl⟩ ⟨Nat.le_of_ble_eq_true rfl, Nat.le_of_ble_eq_true rfl⟩ hRc rfl rfl (Nat.le_of_ble_eq_true rfl) dL_law_653 (fun r1 N1 hq1 hT1 => ?_)
  have hK1 : KJ G N1 L (en E) (ew E) st := hI.2.1.keep (MI.kq hM6 hq1.2)
  refine q_aload_n (pc := 656) F.1 dL_law_656 rfl 2 rfl ?_
  refine q_aload_n (pc := 657) F.1 dL_law_657 rfl 0 rfl ?_
  refine q_iload (pc := 658) F.1 dL_law_658 4 rfl ?_
  refine q_iconst (pc := 660) (v := 1) F.1 dL_law_660 (by decide) ?_
  refine q_iadd (pc := 661) F.1 dL_law_661 ?_
  refine q_sld (pc := 662) F.1 F.2.2.1 F.2.2.2.1 F.2.2.2.2 hv.1 dL_law_662 ?_
  refine q_aload_n (pc := 663) F.1 dL_law_663 rfl 0 rfl ?_
  refine q_iload (pc := 664) F.1 dL_law_664 4 rfl ?_
  refine q_iconst (pc := 666) (v := 2) F.1 dL_law_666 (by decide) ?_
  refine q_iadd (pc := 667) F.1 dL_law_667 ?_
  refine q_sld (pc := 668) F.1 F.2.2.1 F.2.2.2.1 F.2.2.2.2 hv.2.1 dL_law_668 ?_
  refine q_aload_n (pc := 669) F.1 dL_law_669 rfl 0 rfl ?_
  refine q_iload (pc := 670) F.1 dL_law_670 4 rfl ?_
  refine q_iconst (pc := 672) (v := 3) F.1 dL_law_672 (by decide) ?_
  refine q_iadd (pc := 673) F.1 dL_law_673 ?_
  refine q_sld (pc := 674) F.1 F.2.2.1 F.2.2.2.1 F.2.2.2.2 hv.2.2.1 dL_law_674 ?_
  refine q_callVi (pc := 675) (rest := [.int r1]) (Qp := RK G N1 L E (oGcd (en E) st (xs (i + 1).toNatClampNeg) (xs (i + 2).toNatClampNeg) (xs (i + 3).toNatClampNeg))) [.int (xs (i + 1).toNatClampNeg), .int (xs (i + 2).toNatClampNeg), .int (xs (i + 3).toNatClampNeg)] F.1 (c_X11_gcdEuclid hND hT1 hI10 (by unfold w_X11_gcdEuclid; exact k_gcd hK1 (fun N g j _ => ⟨rfl, g, j⟩))) cf_X11_gcdEuclid cv_X11_gcdEuclid (gw_t5 91 rfl rfl) hI10 ⟨by decide, rfl, rfl⟩ ⟨rfl, rfl⟩ ⟨Nat.le_of_ble_eq_true rfl, Nat.le_of_ble_eq_true rfl⟩ hRc rfl rfl (Nat.le_of_ble_eq_true rfl) dL_law_675 (fun r2 N2 hq2 hT2 => ?_)
  exact q_icmp_eq (pc := 678) (tgt := 1485) F.1 dL_law_678 (by decide) (fun _ => next (N2, M.2) _ ⟨MI.kg hE hM6 hq1.2 hq2.2.1, hq2.2.2, hT2⟩) (fun hc => absurd (hq1.1.trans hq2.1.symm) hc)
theorem law_11 (F : LCx p s m args c D G lc o A E L b len xs) (hv : HVx i len) (hRc : cells ≤ room_1.cells ∧ slots ≤ room_1.slots) (hI : LIv G E L st M.1) (next : ∀ (N : MS × Int64) (st1 : ST), LIv G E L st1 N.1 → LW p l e room_1 s m args below meth c D G 7 lc o A cells slots Q 1485 (lvL b E L o i) [] N) : LW p l e room_1 s m args below meth c D G 7 lc o A cells slots Q 683 (lvL b E L o i) [] M := by
  obtain ⟨hE, hND, hM6, hI9, hI10⟩ := F.2.1
  refine q_aload_n (pc := 683) F.1 dL_law_683 rfl 1 rfl ?_
  refine q_aload_n (pc := 684) F.1 dL_law_684 rfl 0 rfl ?_
  refine q_iload (pc := 685) F.1 dL_law_685 4 rfl ?_
  refine q_iconst (pc := 687) (v := 1) F.1 dL_law_687 (by decide) ?_
  refine q_iadd (pc := 688) F.1 dL_law_688 ?_
  refine q_sld (pc := 689) F.1 F.2.2.1 F.2.2.2.1 F.2.2.2.2 hv.1 dL_law_689 ?_
  refine q_aload_n (pc := 690) F.1 dL_law_690 rfl 0 rfl ?_
  refine q_iload (pc := 691) F.1 dL_law_691 4 rfl ?_
  refine q_iconst (pc := 693) (v := 2) F.1 dL_law_693 (by decide) ?_
  refine q_iadd (pc := 694) F.1 dL_law_694 ?_
  refine q_sld (pc := 695) F.1 F.2.2.1 F.2.2.2.1 F.2.2.2.2 hv.2.1 dL_law_695 ?_
  refine q_aload_n (pc := 696) F.1 dL_law_696 rfl 0 rfl ?_
  refine q_iload (pc := 697) F.1 dL_law_697 4 rfl ?_
  refine q_iconst (pc := 699) (v := 3) F.1 dL_law_699 (by decide) ?_
  refine q_iadd (pc := 700) F.1 dL_law_700 ?_
  refine q_sld (pc := 701) F.1 F.2.2.1 F.2.2.2.1 F.2.2.2.2 hv.2.2.1 dL_law_701 ?_
  refine q_callVi (pc := 702) (rest := []) (Qp := RE G M.1 E (oLeh (en E) st (xs (i + 1).toNatClampNeg) (xs (i + 2).toNatClampNeg) (xs (i + 3).toNatClampNeg))) [.int (xs (i + 1).toNatClampNeg), .int (xs (i + 2).toNatClampNeg), .int (xs (i + 3).toNatClampNeg)] F.1 (c_X10_gcdLehmer hND hI.2.2 hI9 (m_leh hE hI.1 (fun N h => ⟨rfl, h⟩))) cf_X10_gcdLehmer cv_X10_gcdLehmer (gw_t3 65 rfl rfl) hI9 ⟨by decide, rfl, rfl⟩ ⟨rfl, rfl⟩ ⟨Nat.le_of_ble_eq_true rfl, Nat.le_of_ble_eq_true rfl⟩ hRc rfl rfl (Nat.le_of_ble_eq_true rfl) dL_law_702 (fun r1 N1 hq1 hT1 => ?_)
  have hK1 : KJ G N1 L (en E) (ew E) st := hI.2.1.keep (MI.kq hM6 hq1.2)
  refine q_aload_n (pc := 705) F.1 dL_law_705 rfl 2 rfl ?_
  refine q_aload_n (pc := 706) F.1 dL_law_706 rfl 0 rfl ?_
  refine q_iload (pc := 707) F.1 dL_law_707 4 rfl ?_
  refine q_iconst (pc := 709) (v := 1) F.1 dL_law_709 (by decide) ?_
  refine q_iadd (pc := 710) F.1 dL_law_710 ?_
  refine q_sld (pc := 711) F.1 F.2.2.1 F.2.2.2.1 F.2.2.2.2 hv.1 dL_law_711 ?_
  refine q_aload_n (pc := 712) F.1 dL_law_712 rfl 0 rfl ?_
  refine q_iload (pc := 713) F.1 dL_law_713 4 rfl ?_
  refine q_iconst (pc := 715) (v := 2) F.1 dL_law_715 (by decide) ?_
  refine q_iadd (pc := 716) F.1 dL_law_716 ?_
  refine q_sld (pc := 717) F.1 F.2.2.1 F.2.2.2.1 F.2.2.2.2 hv.2.1 dL_law_717 ?_
  refine q_aload_n (pc := 718) F.1 dL_law_718 rfl 0 rfl ?_
  refine q_iload (pc := 719) F.1 dL_law_719 4 rfl ?_
  refine q_iconst (pc := 721) (v := 3) F.1 dL_law_721 (by decide) ?_
  refine q_iadd (pc := 722) F.1 dL_law_722 ?_
  refine q_sld (pc := 723) F.1 F.2.2.1 F.2.2.2.1 F.2.2.2.2 hv.2.2.1 dL_law_723 ?_
  refine q_callVi (pc := 724) (rest := [.int r1]) (Qp := RK G N1 L E (oLeh (en E) st (xs (i + 1).toNatClampNeg) (xs (i + 2).toNatClampNeg) (xs (i + 3).toNatClampNeg))) [.int (xs (i + 1).toNatClampNeg), .int (xs (i + 2).toNatClampNeg), .int (xs (i + 3).toNatClampNeg)] F.1 (c_X11_gcdLehmer hND hT1 hI10 (k_leh hK1 (fun N g j _ => ⟨rfl, g, j⟩))) cf_X11_gcdLehmer cv_X11_gcdLehmer (gw_t5 95 rfl rfl) hI10 ⟨by decide, rfl, rfl⟩ ⟨rfl, rfl⟩ ⟨Nat.le_of_ble_eq_true rfl, Nat.le_of_ble_eq_true rfl⟩ hRc rfl rfl (Nat.le_of_ble_eq_true rfl) dL_law_724 (fun r2 N2 hq2 hT2 => ?_)
  exact q_icmp_eq (pc := 727) (tgt := 1485) F.1 dL_law_727 (by decide) (fun _ => next (N2, M.2) _ ⟨MI.kg hE hM6 hq1.2 hq2.2.1, hq2.2.2, hT2⟩) (fun hc => absurd (hq1.1.trans hq2.1.symm) hc)
theorem law_12 (F : LCx p s m args c D G lc o A E L b len xs) (hv : HVx i len) (hRc : cells ≤ room_1.cells ∧ slots ≤ room_1.slots) (hI : LIv G E L st M.1) (next : ∀ (N : MS × Int64) (st1 : ST), LIv G E L st1 N.1 → LW p l e room_1 s m args below meth c D G 7 lc o A cells slots Q 1485 (lvL b E L o i) [] N) : LW p l e room_1 s m args below meth c D G 7 lc o A cells slots Q 732 (lvL b E L o i) [] M := by
  obtain ⟨hE, hND, hM6, hI9, hI10⟩ := F.2.1
  refine q_aload_n (pc := 732) F.1 dL_law_732 rfl 1 rfl ?_
  refine q_callVi (pc := 733) (rest := []) (Qp := RE G M.1 E (st, st.2.2.2.2.2)) [] F.1 (c_X10_lastSteps hND hI.2.2 hI9 (m_last hI.1 (fun N h => ⟨rfl, h⟩))) cf_X10_lastSteps cv_X10_lastSteps (gw_t3 102 rfl rfl) hI9 ⟨by decide, rfl, rfl⟩ ⟨rfl, rfl⟩ ⟨Nat.le_of_ble_eq_true rfl, Nat.le_of_ble_eq_true rfl⟩ hRc rfl rfl (Nat.le_of_ble_eq_true rfl) dL_law_733 (fun r1 N1 hq1 hT1 => ?_)
  have hK1 : KJ G N1 L (en E) (ew E) st := hI.2.1.keep (MI.kq hM6 hq1.2)
  refine q_aload_n (pc := 736) F.1 dL_law_736 rfl 2 rfl ?_
  refine q_callVi (pc := 737) (rest := [.int r1]) (Qp := RK G N1 L E (st, st.2.2.2.2.2)) [] F.1 (c_X11_lastSteps hND hT1 hI10 (k_last hK1 (fun N g j _ => ⟨rfl, g, j⟩))) cf_X11_lastSteps cv_X11_lastSteps (gw_t5 119 rfl rfl) hI10 ⟨by decide, rfl, rfl⟩ ⟨rfl, rfl⟩ ⟨Nat.le_of_ble_eq_true rfl, Nat.le_of_ble_eq_true rfl⟩ hRc rfl rfl (Nat.le_of_ble_eq_true rfl) dL_law_737 (fun r2 N2 hq2 hT2 => ?_)
  exact q_icmp_eq (pc := 740) (tgt := 1485) F.1 dL_law_740 (by decide) (fun _ => next (N2, M.2) _ ⟨MI.kg hE hM6 hq1.2 hq2.2.1, hq2.2.2, hT2⟩) (fun hc => absurd (hq1.1.trans hq2.1.symm) hc)
theorem law_13 (F : LCx p s m args c D G lc o A E L b len xs) (hv : HVx i len) (hRc : cells ≤ room_1.cells ∧ slots ≤ room_1.slots) (hI : LIv G E L st M.1) (next : ∀ (N : MS × Int64) (st1 : ST), LIv G E L st1 N.1 → LW p l e room_1 s m args below meth c D G 7 lc o A cells slots Q 1485 (lvL b E L o i) [] N) : LW p l e room_1 s m args below meth c D G 7 lc o A cells slots Q 745 (lvL b E L o i) [] M := by
  obtain ⟨hE, hND, hM6, hI9, hI10⟩ := F.2.1
  refine q_aload_n (pc := 745) F.1 dL_law_745 rfl 1 rfl ?_
  refine q_aload_n (pc := 746) F.1 dL_law_746 rfl 0 rfl ?_
  refine q_iload (pc := 747) F.1 dL_law_747 4 rfl ?_
  refine q_iconst (pc := 749) (v := 1) F.1 dL_law_749 (by decide) ?_
  refine q_iadd (pc := 750) F.1 dL_law_750 ?_
  refine q_sld (pc := 751) F.1 F.2.2.1 F.2.2.2.1 F.2.2.2.2 hv.1 dL_law_751 ?_
  refine q_aload_n (pc := 752) F.1 dL_law_752 rfl 0 rfl ?_
  refine q_iload (pc := 753) F.1 dL_law_753 4 rfl ?_
  refine q_iconst (pc := 755) (v := 2) F.1 dL_law_755 (by decide) ?_
  refine q_iadd (pc := 756) F.1 dL_law_756 ?_
  refine q_sld (pc := 757) F.1 F.2.2.1 F.2.2.2.1 F.2.2.2.2 hv.2.1 dL_law_757 ?_
  refine q_aload_n (pc := 758) F.1 dL_law_758 rfl 0 rfl ?_
  refine q_iload (pc := 759) F.1 dL_law_759 4 rfl ?_
  refine q_iconst (pc := 761) (v := 3) F.1 dL_law_761 (by decide) ?_
  refine q_iadd (pc := 762) F.1 dL_law_762 ?_
  refine q_sld (pc := 763) F.1 F.2.2.1 F.2.2.2.1 F.2.2.2.2 hv.2.2.1 dL_law_763 ?_
  refine q_aload_n (pc := 764) F.1 dL_law_764 rfl 0 rfl ?_
  refine q_iload (pc := 765) F.1 dL_law_765 4 rfl ?_
  refine q_iconst (pc := 767) (v := 4) F.1 dL_law_767 (by decide) ?_
  refine q_iadd (pc := 768) F.1 dL_law_768 ?_
  refine q_sld (pc := 769) F.1 F.2.2.1 F.2.2.2.1 F.2.2.2.2 hv.2.2.2.1 dL_law_769 ?_
  refine q_aload_n (pc := 770) F.1 dL_law_770 rfl 0 rfl ?_
  refine q_iload (pc := 771) F.1 dL_law_771 4 rfl ?_
  refine q_iconst (pc := 773) (v := 5) F.1 dL_law_773 (by decide) ?_
  refine q_iadd (pc := 774) F.1 dL_law_774 ?_
  refine q_sld (pc := 775) F.1 F.2.2.1 F.2.2.2.1 F.2.2.2.2 hv.2.2.2.2 dL_law_775 ?_
  refine q_callVi (pc := 776) (rest := []) (Qp := RE G M.1 E (oBez (en E) (ew E) st (xs (i + 1).toNatClampNeg) (xs (i + 2).toNatClampNeg) (xs (i + 3).toNatClampNeg) (xs (i + 4).toNatClampNeg) (xs (i + 5).toNatClampNeg))) [.int (xs (i + 1).toNatClampNeg), .int (xs (i + 2).toNatClampNeg), .int (xs (i + 3).toNatClampNeg), .int (xs (i + 4).toNatClampNeg), .int (xs (i + 5).toNatClampNeg)] F.1 (c_X10_bezout hND hI.2.2 hI9 (m_bez hE hI.1 (fun N h => ⟨rfl, h⟩))) cf_X10_bezout cv_X10_bezout (gw_t3 106 rfl rfl) hI9 ⟨by decide, rfl, rfl⟩ ⟨rfl, rfl⟩ ⟨Nat.le_of_ble_eq_true rfl, Nat.le_of_ble_eq_true rfl⟩ hRc rfl rfl (Nat.le_of_ble_eq_true rfl) dL_law_776 (fun r1 N1 hq1 hT1 => ?_)
  have hK1 : KJ G N1 L (en E) (ew E) st := hI.2.1.keep (MI.kq hM6 hq1.2)
  refine q_aload_n (pc := 779) F.1 dL_law_779 rfl 2 rfl ?_
  refine q_aload_n (pc := 780) F.1 dL_law_780 rfl 0 rfl ?_
  refine q_iload (pc := 781) F.1 dL_law_781 4 rfl ?_
  refine q_iconst (pc := 783) (v := 1) F.1 dL_law_783 (by decide) ?_
  refine q_iadd (pc := 784) F.1 dL_law_784 ?_
  refine q_sld (pc := 785) F.1 F.2.2.1 F.2.2.2.1 F.2.2.2.2 hv.1 dL_law_785 ?_
  refine q_aload_n (pc := 786) F.1 dL_law_786 rfl 0 rfl ?_
  refine q_iload (pc := 787) F.1 dL_law_787 4 rfl ?_
  refine q_iconst (pc := 789) (v := 2) F.1 dL_law_789 (by decide) ?_
  refine q_iadd (pc := 790) F.1 dL_law_790 ?_
  refine q_sld (pc := 791) F.1 F.2.2.1 F.2.2.2.1 F.2.2.2.2 hv.2.1 dL_law_791 ?_
  refine q_aload_n (pc := 792) F.1 dL_law_792 rfl 0 rfl ?_
  refine q_iload (pc := 793) F.1 dL_law_793 4 rfl ?_
  refine q_iconst (pc := 795) (v := 3) F.1 dL_law_795 (by decide) ?_
  refine q_iadd (pc := 796) F.1 dL_law_796 ?_
  refine q_sld (pc := 797) F.1 F.2.2.1 F.2.2.2.1 F.2.2.2.2 hv.2.2.1 dL_law_797 ?_
  refine q_aload_n (pc := 798) F.1 dL_law_798 rfl 0 rfl ?_
  refine q_iload (pc := 799) F.1 dL_law_799 4 rfl ?_
  refine q_iconst (pc := 801) (v := 4) F.1 dL_law_801 (by decide) ?_
  refine q_iadd (pc := 802) F.1 dL_law_802 ?_
  refine q_sld (pc := 803) F.1 F.2.2.1 F.2.2.2.1 F.2.2.2.2 hv.2.2.2.1 dL_law_803 ?_
  refine q_aload_n (pc := 804) F.1 dL_law_804 rfl 0 rfl ?_
  refine q_iload (pc := 805) F.1 dL_law_805 4 rfl ?_
  refine q_iconst (pc := 807) (v := 5) F.1 dL_law_807 (by decide) ?_
  refine q_iadd (pc := 808) F.1 dL_law_808 ?_
  refine q_sld (pc := 809) F.1 F.2.2.1 F.2.2.2.1 F.2.2.2.2 hv.2.2.2.2 dL_law_809 ?_
  refine q_callVi (pc := 810) (rest := [.int r1]) (Qp := RK G N1 L E (oBez (en E) (ew E) st (xs (i + 1).toNatClampNeg) (xs (i + 2).toNatClampNeg) (xs (i + 3).toNatClampNeg) (xs (i + 4).toNatClampNeg) (xs (i + 5).toNatClampNeg))) [.int (xs (i + 1).toNatClampNeg), .int (xs (i + 2).toNatClampNeg), .int (xs (i + 3).toNatClampNeg), .int (xs (i + 4).toNatClampNeg), .int (xs (i + 5).toNatClampNeg)] F.1 (c_X11_bezout hND hT1 hI10 (k_bez hK1 (fun N g j _ => ⟨rfl, g, j⟩))) cf_X11_bezout cv_X11_bezout (gw_t5 123 rfl rfl) hI10 ⟨by decide, rfl, rfl⟩ ⟨rfl, rfl⟩ ⟨Nat.le_of_ble_eq_true rfl, Nat.le_of_ble_eq_true rfl⟩ hRc rfl rfl (Nat.le_of_ble_eq_true rfl) dL_law_810 (fun r2 N2 hq2 hT2 => ?_)
  exact q_icmp_eq (pc := 813) (tgt := 1485) F.1 dL_law_813 (by decide) (fun _ => next (N2, M.2) _ ⟨MI.kg hE hM6 hq1.2 hq2.2.1, hq2.2.2, hT2⟩) (fun hc => absurd (hq1.1.trans hq2.1.symm) hc)
theorem law_14 (F : LCx p s m args c D G lc o A E L b len xs) (hv : HVx i len) (hRc : cells ≤ room_1.cells ∧ slots ≤ room_1.slots) (hI : LIv G E L st M.1) (next : ∀ (N : MS × Int64) (st1 : ST), LIv G E L st1 N.1 → LW p l e room_1 s m args below meth c D G 7 lc o A cells slots Q 1485 (lvL b E L o i) [] N) : LW p l e room_1 s m args below meth c D G 7 lc o A cells slots Q 818 (lvL b E L o i) [] M := by
  obtain ⟨hE, hND, hM6, hI9, hI10⟩ := F.2.1
  refine q_aload_n (pc := 818) F.1 dL_law_818 rfl 1 rfl ?_
  refine q_aload_n (pc := 819) F.1 dL_law_819 rfl 0 rfl ?_
  refine q_iload (pc := 820) F.1 dL_law_820 4 rfl ?_
  refine q_iconst (pc := 822) (v := 1) F.1 dL_law_822 (by decide) ?_
  refine q_iadd (pc := 823) F.1 dL_law_823 ?_
  refine q_sld (pc := 824) F.1 F.2.2.1 F.2.2.2.1 F.2.2.2.2 hv.1 dL_law_824 ?_
  refine q_aload_n (pc := 825) F.1 dL_law_825 rfl 0 rfl ?_
  refine q_iload (pc := 826) F.1 dL_law_826 4 rfl ?_
  refine q_iconst (pc := 828) (v := 2) F.1 dL_law_828 (by decide) ?_
  refine q_iadd (pc := 829) F.1 dL_law_829 ?_
  refine q_sld (pc := 830) F.1 F.2.2.1 F.2.2.2.1 F.2.2.2.2 hv.2.1 dL_law_830 ?_
  refine q_aload_n (pc := 831) F.1 dL_law_831 rfl 0 rfl ?_
  refine q_iload (pc := 832) F.1 dL_law_832 4 rfl ?_
  refine q_iconst (pc := 834) (v := 3) F.1 dL_law_834 (by decide) ?_
  refine q_iadd (pc := 835) F.1 dL_law_835 ?_
  refine q_sld (pc := 836) F.1 F.2.2.1 F.2.2.2.1 F.2.2.2.2 hv.2.2.1 dL_law_836 ?_
  refine q_callVi (pc := 837) (rest := []) (Qp := RE G M.1 E (oInv (en E) st (xs (i + 1).toNatClampNeg) (xs (i + 2).toNatClampNeg) (xs (i + 3).toNatClampNeg))) [.int (xs (i + 1).toNatClampNeg), .int (xs (i + 2).toNatClampNeg), .int (xs (i + 3).toNatClampNeg)] F.1 (c_X10_inverse hND hI.2.2 hI9 (m_inv hE hI.1 (fun N h => ⟨rfl, h⟩))) cf_X10_inverse cv_X10_inverse (gw_t3 129 rfl rfl) hI9 ⟨by decide, rfl, rfl⟩ ⟨rfl, rfl⟩ ⟨Nat.le_of_ble_eq_true rfl, Nat.le_of_ble_eq_true rfl⟩ hRc rfl rfl (Nat.le_of_ble_eq_true rfl) dL_law_837 (fun r1 N1 hq1 hT1 => ?_)
  have hK1 : KJ G N1 L (en E) (ew E) st := hI.2.1.keep (MI.kq hM6 hq1.2)
  refine q_aload_n (pc := 840) F.1 dL_law_840 rfl 2 rfl ?_
  refine q_aload_n (pc := 841) F.1 dL_law_841 rfl 0 rfl ?_
  refine q_iload (pc := 842) F.1 dL_law_842 4 rfl ?_
  refine q_iconst (pc := 844) (v := 1) F.1 dL_law_844 (by decide) ?_
  refine q_iadd (pc := 845) F.1 dL_law_845 ?_
  refine q_sld (pc := 846) F.1 F.2.2.1 F.2.2.2.1 F.2.2.2.2 hv.1 dL_law_846 ?_
  refine q_aload_n (pc := 847) F.1 dL_law_847 rfl 0 rfl ?_
  refine q_iload (pc := 848) F.1 dL_law_848 4 rfl ?_
  refine q_iconst (pc := 850) (v := 2) F.1 dL_law_850 (by decide) ?_
  refine q_iadd (pc := 851) F.1 dL_law_851 ?_
  refine q_sld (pc := 852) F.1 F.2.2.1 F.2.2.2.1 F.2.2.2.2 hv.2.1 dL_law_852 ?_
  refine q_aload_n (pc := 853) F.1 dL_law_853 rfl 0 rfl ?_
  refine q_iload (pc := 854) F.1 dL_law_854 4 rfl ?_
  refine q_iconst (pc := 856) (v := 3) F.1 dL_law_856 (by decide) ?_
  refine q_iadd (pc := 857) F.1 dL_law_857 ?_
  refine q_sld (pc := 858) F.1 F.2.2.1 F.2.2.2.1 F.2.2.2.2 hv.2.2.1 dL_law_858 ?_
  refine q_callVi (pc := 859) (rest := [.int r1]) (Qp := RK G N1 L E (oInv (en E) st (xs (i + 1).toNatClampNeg) (xs (i + 2).toNatClampNeg) (xs (i + 3).toNatClampNeg))) [.int (xs (i + 1).toNatClampNeg), .int (xs (i + 2).toNatClampNeg), .int (xs (i + 3).toNatClampNeg)] F.1 (c_X11_inverse hND hT1 hI10 (k_inv hK1 (fun N g j _ => ⟨rfl, g, j⟩))) cf_X11_inverse cv_X11_inverse (gw_t5 131 rfl rfl) hI10 ⟨by decide, rfl, rfl⟩ ⟨rfl, rfl⟩ ⟨Nat.le_of_ble_eq_true rfl, Nat.le_of_ble_eq_true rfl⟩ hRc rfl rfl (Nat.le_of_ble_eq_true rfl) dL_law_859 (fun r2 N2 hq2 hT2 => ?_)
  exact q_icmp_eq (pc := 862) (tgt := 1485) F.1 dL_law_862 (by decide) (fun _ => next (N2, M.2) _ ⟨MI.kg hE hM6 hq1.2 hq2.2.1, hq2.2.2, hT2⟩) (fun hc => absurd (hq1.1.trans hq2.1.symm) hc)
end LawCases
