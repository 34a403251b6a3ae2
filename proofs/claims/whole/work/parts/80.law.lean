/-! the law: its cases, one after another -/
theorem yl_L_48 : Cond.constantLong RL 48 (i64 4294967295) ∈ Ztbl := Ztb 1739 (by decide +kernel) rfl
/-- what the law may write: what was not there at its start -/
def LA (s : State) : Nat → Prop := fun q => s.heap.size ≤ q
def fdV (x y : Int) : Int64 := (i64 x <<< ((i32 32).toInt64 &&& 63)) ||| (i64 y &&& i64 4294967295)
/-- the number k places on, in the script -/
def xN (xs : Nat → Int32) (i k : Nat) : Int := (xs (i + k)).toInt
theorem xN_r (xs : Nat → Int32) (i k : Nat) : InR (xN xs i k) := InR_of _
theorem LT_ok {z : ZI} (h : Zok z) : LT z := fun i _ _ => h.1 31 i (by decide)
/-- what does not change in the law's run -/
def LC (p : Program) (s : State) (m : MethodId) (c : Code) (b L : Nat) (xs : Nat → Int32) : Prop := CallFix p m c cL_law 4 s #[Value.ref b] Ztbl RL ∧ va_X b L xs s s.heap ∧ b < s.heap.size ∧ L ≤ 320
section LAWROWS
variable {p : Program} {l : Launch} {e : Env} {s : State} {m : MethodId} {below : List Frame} {meth : Method} {c : Code} {H : Heap} {locs : List Loc} {cells slots : Nat} {Q : State → Prop} {ls : Array Slot} {rest : List Value}
variable {D : va_G} {cA : Nat → ClassId} {ad : Nat → Nat} {z : ZI} {b L : Nat} {xs : Nat → Int32}
theorem Lset {pc : Nat} {v : Int64} (kk : W p l e room_1 s m #[Value.ref b] below meth c H locs cells slots Q (F0 m pc ls (.long (i64 v.toInt) :: rest))) : W p l e room_1 s m #[Value.ref b] below meth c H locs cells slots Q (F0 m pc ls (.long v :: rest)) := by
  rw [i64_self] at kk
  exact kk
theorem Larg {pc i : Nat} {q1 q2 : Nat} (C : LC p s m c b L xs) (hS : va_S (LA s) s.heap H locs) (hl : lv_has ls 4 [(3, .int (i32 (i : Int))), (2, .ref q2), (1, .ref q1), (0, .ref b)]) (k : Nat) (hk : k ≤ 4) (hi : i + 5 ≤ L) (d0 : decode cL_law pc = .ok (.aload_n 0, 1)) (d1 : decode cL_law (pc + 1) = .ok (.iload_n 3, 1)) {v : Int} (d2 : decode cL_law (pc + 2) = .ok (.iconst v, 1)) (hv : Int32.ofInt v = i32 (k : Int)) (d3 : decode cL_law (pc + 3) = .ok (.iadd, 1)) (d4 : decode cL_law (pc + 4) = .ok (.iaload, 1)) (kk : W p l e room_1 s m #[Value.ref b] below meth c H locs cells slots Q (F0 m (pc + 5) ls (.int (i32 (xN xs i k)) :: rest))) : W p l e room_1 s m #[Value.ref b] below meth c H locs cells slots Q (F0 m pc ls rest) := by
  obtain ⟨S, hX, hbl, hL⟩ := C
  have r : InR ((i : Int) + (k : Int)) := ⟨by omega, by omega⟩
  have e : (i32 ((i : Int) + (k : Int))).toNatClampNeg = i + k := by rw [i32_clamp r]; omega
  refine lv_aload_n S.1 S.2.1 d0 rfl (lv_at hl 3 rfl) ?_
  refine lv_iload_n S.1 S.2.1 d1 rfl (lv_at hl 0 rfl) ?_
  refine lv_iconst (v := i32 (k : Int)) S.1 S.2.1 d2 hv ?_
  refine Yiadd S d3 ?_
  refine va_sld S.1 S.2.1 hX hbl (Nat.not_le.mpr hbl) hS (Zin (IJ_b r ⟨by omega, by omega⟩)) d4 ?_
  rw [e, ← i32_self (xs (i + k))]
  exact kk
theorem L_days (C : LC p s m c b L xs) {n : Int} {i : Nat} (hn : n ≤ 1000) (hi : i + 5 ≤ L) (hdj : Zdj ad) (hzz : Zok z) (hK : K z) (hN : JN n z) (hw : ZW D cA ad (LA s) (Zc z) s H locs) (hcs : cells ≤ room_1.cells ∧ slots ≤ room_1.slots) (hl : lv_has ls 4 [(3, .int (i32 (i : Int))), (2, .ref (ad 68)), (1, .ref (ad 0)), (0, .ref b)]) (kk : ∀ (z2 : ZI) (H1 : Heap) (locs1 : List Loc), Zok z2 → K z2 → JN (n + 1) z2 → ZW D cA ad (LA s) (Zc z2) s H1 locs1 → W p l e room_1 s m #[Value.ref b] below meth c H1 locs1 cells slots Q (F0 m 1413 ls [])) : W p l e room_1 s m #[Value.ref b] below meth c H locs cells slots Q (F0 m 196 ls []) := by
  have S := C.1
  obtain ⟨r, z1, z2, e1, e2, hK2, hN2⟩ := t_days hK hN hn (xN xs i 1)
  refine lv_aload_n S.1 S.2.1 dL_law_196 rfl (lv_at hl 2 rfl) ?_
  refine Larg C hw.2.2.2 hl 1 (by decide) hi dL_law_197 dL_law_198 dL_law_199 ic_1 dL_law_200 dL_law_201 ?_
  refine YcallVi (rest := []) S hw (c_X10_days hdj hzz (xN_r xs i 1) e1) my_X10_days mi_X10_days ml_L_13 zd_0 zc_X10 rfl ⟨by decide, by decide⟩ hcs hl.1 rfl rfl (Nat.le_of_ble_eq_true rfl) dL_law_202 (fun hr hz1 H locs hw => ?_)
  refine lv_aload_n S.1 S.2.1 dL_law_205 rfl (lv_at hl 1 rfl) ?_
  refine Larg C hw.2.2.2 hl 1 (by decide) hi dL_law_206 dL_law_207 dL_law_208 ic_1 dL_law_209 dL_law_210 ?_
  refine YcallVi (rest := [.int (i32 r)]) S hw (c_X11_days hdj hz1 (xN_r xs i 1) e2) my_X11_days mi_X11_days ml_L_17 zd_68 zc_X11 rfl ⟨by decide, by decide⟩ hcs hl.1 rfl rfl (Nat.le_of_ble_eq_true rfl) dL_law_211 (fun _ hz2 H locs hw => ?_)
  refine Yicmp_eq (tgt := 1413) S hr hr dL_law_214 (by decide) (fun _ => ?_) (fun h => absurd rfl h)
  exact kk z2 H locs hz2 hK2 hN2 hw
theorem L_height (C : LC p s m c b L xs) {n : Int} {i : Nat} (hn : n ≤ 1000) (hi : i + 5 ≤ L) (hdj : Zdj ad) (hzz : Zok z) (hK : K z) (hN : JN n z) (hw : ZW D cA ad (LA s) (Zc z) s H locs) (hcs : cells ≤ room_1.cells ∧ slots ≤ room_1.slots) (hl : lv_has ls 4 [(3, .int (i32 (i : Int))), (2, .ref (ad 68)), (1, .ref (ad 0)), (0, .ref b)]) (kk : ∀ (z2 : ZI) (H1 : Heap) (locs1 : List Loc), Zok z2 → K z2 → JN (n + 1) z2 → ZW D cA ad (LA s) (Zc z2) s H1 locs1 → W p l e room_1 s m #[Value.ref b] below meth c H1 locs1 cells slots Q (F0 m 1413 ls [])) : W p l e room_1 s m #[Value.ref b] below meth c H locs cells slots Q (F0 m 219 ls []) := by
  have S := C.1
  obtain ⟨r, z1, z2, e1, e2, hK2, hN2⟩ := t_height hK hN hn (xN xs i 1) (xN xs i 2)
  refine lv_aload_n S.1 S.2.1 dL_law_219 rfl (lv_at hl 2 rfl) ?_
  refine Larg C hw.2.2.2 hl 1 (by decide) hi dL_law_220 dL_law_221 dL_law_222 ic_1 dL_law_223 dL_law_224 ?_
  refine Larg C hw.2.2.2 hl 2 (by decide) hi dL_law_225 dL_law_226 dL_law_227 ic_2 dL_law_228 dL_law_229 ?_
  refine YcallVi (rest := []) S hw (c_X10_height hdj hzz (xN_r xs i 1) (xN_r xs i 2) e1) my_X10_height mi_X10_height ml_L_18 zd_0 zc_X10 rfl ⟨by decide, by decide⟩ hcs hl.1 rfl rfl (Nat.le_of_ble_eq_true rfl) dL_law_230 (fun hr hz1 H locs hw => ?_)
  refine lv_aload_n S.1 S.2.1 dL_law_233 rfl (lv_at hl 1 rfl) ?_
  refine Larg C hw.2.2.2 hl 1 (by decide) hi dL_law_234 dL_law_235 dL_law_236 ic_1 dL_law_237 dL_law_238 ?_
  refine Larg C hw.2.2.2 hl 2 (by decide) hi dL_law_239 dL_law_240 dL_law_241 ic_2 dL_law_242 dL_law_243 ?_
  refine YcallVi (rest := [.int (i32 r)]) S hw (c_X11_height hdj hz1 (xN_r xs i 1) (xN_r xs i 2) e2) my_X11_height mi_X11_height ml_L_22 zd_68 zc_X11 rfl ⟨by decide, by decide⟩ hcs hl.1 rfl rfl (Nat.le_of_ble_eq_true rfl) dL_law_244 (fun _ hz2 H locs hw => ?_)
  refine Yicmp_eq (tgt := 1413) S hr hr dL_law_247 (by decide) (fun _ => ?_) (fun h => absurd rfl h)
  exact kk z2 H locs hz2 hK2 hN2 hw
theorem L_down (C : LC p s m c b L xs) {n : Int} {i : Nat} (hn : n ≤ 1000) (hi : i + 5 ≤ L) (hdj : Zdj ad) (hzz : Zok z) (hK : K z) (hN : JN n z) (hw : ZW D cA ad (LA s) (Zc z) s H locs) (hcs : cells ≤ room_1.cells ∧ slots ≤ room_1.slots) (hl : lv_has ls 4 [(3, .int (i32 (i : Int))), (2, .ref (ad 68)), (1, .ref (ad 0)), (0, .ref b)]) (kk : ∀ (z2 : ZI) (H1 : Heap) (locs1 : List Loc), Zok z2 → K z2 → JN (n + 1) z2 → ZW D cA ad (LA s) (Zc z2) s H1 locs1 → W p l e room_1 s m #[Value.ref b] below meth c H1 locs1 cells slots Q (F0 m 1413 ls [])) : W p l e room_1 s m #[Value.ref b] below meth c H locs cells slots Q (F0 m 252 ls []) := by
  have S := C.1
  obtain ⟨r, z1, z2, e1, e2, hK2, hN2⟩ := t_down hK hN hn (xN xs i 1)
  refine lv_aload_n S.1 S.2.1 dL_law_252 rfl (lv_at hl 2 rfl) ?_
  refine Larg C hw.2.2.2 hl 1 (by decide) hi dL_law_253 dL_law_254 dL_law_255 ic_1 dL_law_256 dL_law_257 ?_
  refine YcallVi (rest := []) S hw (c_X10_down hdj hzz (xN_r xs i 1) e1) my_X10_down mi_X10_down ml_L_23 zd_0 zc_X10 rfl ⟨by decide, by decide⟩ hcs hl.1 rfl rfl (Nat.le_of_ble_eq_true rfl) dL_law_258 (fun hr hz1 H locs hw => ?_)
  refine lv_aload_n S.1 S.2.1 dL_law_261 rfl (lv_at hl 1 rfl) ?_
  refine Larg C hw.2.2.2 hl 1 (by decide) hi dL_law_262 dL_law_263 dL_law_264 ic_1 dL_law_265 dL_law_266 ?_
  refine YcallVi (rest := [.int (i32 r)]) S hw (c_X11_down hdj hz1 (xN_r xs i 1) e2) my_X11_down mi_X11_down ml_L_26 zd_68 zc_X11 rfl ⟨by decide, by decide⟩ hcs hl.1 rfl rfl (Nat.le_of_ble_eq_true rfl) dL_law_267 (fun _ hz2 H locs hw => ?_)
  refine Yicmp_eq (tgt := 1413) S hr hr dL_law_270 (by decide) (fun _ => ?_) (fun h => absurd rfl h)
  exact kk z2 H locs hz2 hK2 hN2 hw
theorem L_house (C : LC p s m c b L xs) {n : Int} {i : Nat} (hn : n ≤ 1000) (hi : i + 5 ≤ L) (hdj : Zdj ad) (hzz : Zok z) (hK : K z) (hN : JN n z) (hw : ZW D cA ad (LA s) (Zc z) s H locs) (hcs : cells ≤ room_1.cells ∧ slots ≤ room_1.slots) (hl : lv_has ls 4 [(3, .int (i32 (i : Int))), (2, .ref (ad 68)), (1, .ref (ad 0)), (0, .ref b)]) (kk : ∀ (z2 : ZI) (H1 : Heap) (locs1 : List Loc), Zok z2 → K z2 → JN (n + 1) z2 → ZW D cA ad (LA s) (Zc z2) s H1 locs1 → W p l e room_1 s m #[Value.ref b] below meth c H1 locs1 cells slots Q (F0 m 1413 ls [])) : W p l e room_1 s m #[Value.ref b] below meth c H locs cells slots Q (F0 m 275 ls []) := by
  have S := C.1
  obtain ⟨r, z1, z2, e1, e2, hK2, hN2⟩ := t_house hK hN hn (xN xs i 1) (xN xs i 2)
  refine lv_aload_n S.1 S.2.1 dL_law_275 rfl (lv_at hl 2 rfl) ?_
  refine Larg C hw.2.2.2 hl 1 (by decide) hi dL_law_276 dL_law_277 dL_law_278 ic_1 dL_law_279 dL_law_280 ?_
  refine Larg C hw.2.2.2 hl 2 (by decide) hi dL_law_281 dL_law_282 dL_law_283 ic_2 dL_law_284 dL_law_285 ?_
  refine YcallVi (rest := []) S hw (c_X10_house hdj hzz (xN_r xs i 1) (xN_r xs i 2) e1) my_X10_house mi_X10_house ml_L_27 zd_0 zc_X10 rfl ⟨by decide, by decide⟩ hcs hl.1 rfl rfl (Nat.le_of_ble_eq_true rfl) dL_law_286 (fun hr hz1 H locs hw => ?_)
  refine lv_aload_n S.1 S.2.1 dL_law_289 rfl (lv_at hl 1 rfl) ?_
  refine Larg C hw.2.2.2 hl 1 (by decide) hi dL_law_290 dL_law_291 dL_law_292 ic_1 dL_law_293 dL_law_294 ?_
  refine Larg C hw.2.2.2 hl 2 (by decide) hi dL_law_295 dL_law_296 dL_law_297 ic_2 dL_law_298 dL_law_299 ?_
  refine YcallVi (rest := [.int (i32 r)]) S hw (c_X11_house hdj hz1 (xN_r xs i 1) (xN_r xs i 2) e2) my_X11_house mi_X11_house ml_L_30 zd_68 zc_X11 rfl ⟨by decide, by decide⟩ hcs hl.1 rfl rfl (Nat.le_of_ble_eq_true rfl) dL_law_300 (fun _ hz2 H locs hw => ?_)
  refine Yicmp_eq (tgt := 1413) S hr hr dL_law_303 (by decide) (fun _ => ?_) (fun h => absurd rfl h)
  exact kk z2 H locs hz2 hK2 hN2 hw
theorem L_person (C : LC p s m c b L xs) {n : Int} {i : Nat} (hn : n ≤ 1000) (hi : i + 5 ≤ L) (hdj : Zdj ad) (hzz : Zok z) (hK : K z) (hN : JN n z) (hw : ZW D cA ad (LA s) (Zc z) s H locs) (hcs : cells ≤ room_1.cells ∧ slots ≤ room_1.slots) (hl : lv_has ls 4 [(3, .int (i32 (i : Int))), (2, .ref (ad 68)), (1, .ref (ad 0)), (0, .ref b)]) (kk : ∀ (z2 : ZI) (H1 : Heap) (locs1 : List Loc), Zok z2 → K z2 → JN (n + 1) z2 → ZW D cA ad (LA s) (Zc z2) s H1 locs1 → W p l e room_1 s m #[Value.ref b] below meth c H1 locs1 cells slots Q (F0 m 1413 ls [])) : W p l e room_1 s m #[Value.ref b] below meth c H locs cells slots Q (F0 m 308 ls []) := by
  have S := C.1
  obtain ⟨r, z1, z2, e1, e2, hK2, hN2⟩ := t_person hK hN hn (xN xs i 1) (xN xs i 2) (xN xs i 3)
  refine lv_aload_n S.1 S.2.1 dL_law_308 rfl (lv_at hl 2 rfl) ?_
  refine Larg C hw.2.2.2 hl 1 (by decide) hi dL_law_309 dL_law_310 dL_law_311 ic_1 dL_law_312 dL_law_313 ?_
  refine Larg C hw.2.2.2 hl 2 (by decide) hi dL_law_314 dL_law_315 dL_law_316 ic_2 dL_law_317 dL_law_318 ?_
  refine Larg C hw.2.2.2 hl 3 (by decide) hi dL_law_319 dL_law_320 dL_law_321 ic_3 dL_law_322 dL_law_323 ?_
  refine YcallVi (rest := []) S hw (c_X10_person hdj hzz (xN_r xs i 1) (xN_r xs i 2) (xN_r xs i 3) e1) my_X10_person mi_X10_person ml_L_31 zd_0 zc_X10 rfl ⟨by decide, by decide⟩ hcs hl.1 rfl rfl (Nat.le_of_ble_eq_true rfl) dL_law_324 (fun hr hz1 H locs hw => ?_)
  refine lv_aload_n S.1 S.2.1 dL_law_327 rfl (lv_at hl 1 rfl) ?_
  refine Larg C hw.2.2.2 hl 1 (by decide) hi dL_law_328 dL_law_329 dL_law_330 ic_1 dL_law_331 dL_law_332 ?_
  refine Larg C hw.2.2.2 hl 2 (by decide) hi dL_law_333 dL_law_334 dL_law_335 ic_2 dL_law_336 dL_law_337 ?_
  refine Larg C hw.2.2.2 hl 3 (by decide) hi dL_law_338 dL_law_339 dL_law_340 ic_3 dL_law_341 dL_law_342 ?_
  refine YcallVi (rest := [.int (i32 r)]) S hw (c_X11_person hdj hz1 (xN_r xs i 1) (xN_r xs i 2) (xN_r xs i 3) e2) my_X11_person mi_X11_person ml_L_35 zd_68 zc_X11 rfl ⟨by decide, by decide⟩ hcs hl.1 rfl rfl (Nat.le_of_ble_eq_true rfl) dL_law_343 (fun _ hz2 H locs hw => ?_)
  refine Yicmp_eq (tgt := 1413) S hr hr dL_law_346 (by decide) (fun _ => ?_) (fun h => absurd rfl h)
  exact kk z2 H locs hz2 hK2 hN2 hw
theorem L_state (C : LC p s m c b L xs) {n : Int} {i : Nat} (hn : n ≤ 1000) (hi : i + 5 ≤ L) (hdj : Zdj ad) (hzz : Zok z) (hK : K z) (hN : JN n z) (hw : ZW D cA ad (LA s) (Zc z) s H locs) (hcs : cells ≤ room_1.cells ∧ slots ≤ room_1.slots) (hl : lv_has ls 4 [(3, .int (i32 (i : Int))), (2, .ref (ad 68)), (1, .ref (ad 0)), (0, .ref b)]) (kk : ∀ (z2 : ZI) (H1 : Heap) (locs1 : List Loc), Zok z2 → K z2 → JN (n + 1) z2 → ZW D cA ad (LA s) (Zc z2) s H1 locs1 → W p l e room_1 s m #[Value.ref b] below meth c H1 locs1 cells slots Q (F0 m 1413 ls [])) : W p l e room_1 s m #[Value.ref b] below meth c H locs cells slots Q (F0 m 351 ls []) := by
  have S := C.1
  obtain ⟨r, z1, z2, e1, e2, hK2, hN2⟩ := t_state hK hN hn (xN xs i 1) (xN xs i 2)
  refine lv_aload_n S.1 S.2.1 dL_law_351 rfl (lv_at hl 2 rfl) ?_
  refine Larg C hw.2.2.2 hl 1 (by decide) hi dL_law_352 dL_law_353 dL_law_354 ic_1 dL_law_355 dL_law_356 ?_
  refine Larg C hw.2.2.2 hl 2 (by decide) hi dL_law_357 dL_law_358 dL_law_359 ic_2 dL_law_360 dL_law_361 ?_
  refine YcallVi (rest := []) S hw (c_X10_state hdj hzz (xN_r xs i 1) (xN_r xs i 2) e1) my_X10_state mi_X10_state ml_L_36 zd_0 zc_X10 rfl ⟨by decide, by decide⟩ hcs hl.1 rfl rfl (Nat.le_of_ble_eq_true rfl) dL_law_362 (fun hr hz1 H locs hw => ?_)
  refine lv_aload_n S.1 S.2.1 dL_law_365 rfl (lv_at hl 1 rfl) ?_
  refine Larg C hw.2.2.2 hl 1 (by decide) hi dL_law_366 dL_law_367 dL_law_368 ic_1 dL_law_369 dL_law_370 ?_
  refine Larg C hw.2.2.2 hl 2 (by decide) hi dL_law_371 dL_law_372 dL_law_373 ic_2 dL_law_374 dL_law_375 ?_
  refine YcallVi (rest := [.int (i32 r)]) S hw (c_X11_state hdj hz1 (xN_r xs i 1) (xN_r xs i 2) e2) my_X11_state mi_X11_state ml_L_39 zd_68 zc_X11 rfl ⟨by decide, by decide⟩ hcs hl.1 rfl rfl (Nat.le_of_ble_eq_true rfl) dL_law_376 (fun _ hz2 H locs hw => ?_)
  refine Yicmp_eq (tgt := 1413) S hr hr dL_law_379 (by decide) (fun _ => ?_) (fun h => absurd rfl h)
  exact kk z2 H locs hz2 hK2 hN2 hw
theorem L_stateOf (C : LC p s m c b L xs) {n : Int} {i : Nat} (hn : n ≤ 1000) (hi : i + 5 ≤ L) (hdj : Zdj ad) (hzz : Zok z) (hK : K z) (hN : JN n z) (hw : ZW D cA ad (LA s) (Zc z) s H locs) (hcs : cells ≤ room_1.cells ∧ slots ≤ room_1.slots) (hl : lv_has ls 4 [(3, .int (i32 (i : Int))), (2, .ref (ad 68)), (1, .ref (ad 0)), (0, .ref b)]) (kk : ∀ (z2 : ZI) (H1 : Heap) (locs1 : List Loc), Zok z2 → K z2 → JN (n + 1) z2 → ZW D cA ad (LA s) (Zc z2) s H1 locs1 → W p l e room_1 s m #[Value.ref b] below meth c H1 locs1 cells slots Q (F0 m 1413 ls [])) : W p l e room_1 s m #[Value.ref b] below meth c H locs cells slots Q (F0 m 384 ls []) := by
  have S := C.1
  obtain ⟨r, z1, z2, e1, e2, hK2, hN2⟩ := t_stateOf hK hN hn (xN xs i 1) (xN xs i 2)
  refine lv_aload_n S.1 S.2.1 dL_law_384 rfl (lv_at hl 2 rfl) ?_
  refine Larg C hw.2.2.2 hl 1 (by decide) hi dL_law_385 dL_law_386 dL_law_387 ic_1 dL_law_388 dL_law_389 ?_
  refine Larg C hw.2.2.2 hl 2 (by decide) hi dL_law_390 dL_law_391 dL_law_392 ic_2 dL_law_393 dL_law_394 ?_
  refine YcallVi (rest := []) S hw (c_X10_stateOf hdj hzz (xN_r xs i 1) (xN_r xs i 2) e1) my_X10_stateOf mi_X10_stateOf ml_L_40 zd_0 zc_X10 rfl ⟨by decide, by decide⟩ hcs hl.1 rfl rfl (Nat.le_of_ble_eq_true rfl) dL_law_395 (fun hr hz1 H locs hw => ?_)
  refine lv_aload_n S.1 S.2.1 dL_law_398 rfl (lv_at hl 1 rfl) ?_
  refine Larg C hw.2.2.2 hl 1 (by decide) hi dL_law_399 dL_law_400 dL_law_401 ic_1 dL_law_402 dL_law_403 ?_
  refine Larg C hw.2.2.2 hl 2 (by decide) hi dL_law_404 dL_law_405 dL_law_406 ic_2 dL_law_407 dL_law_408 ?_
  refine YcallVi (rest := [.int (i32 r)]) S hw (c_X11_stateOf hdj hz1 (xN_r xs i 1) (xN_r xs i 2) e2) my_X11_stateOf mi_X11_stateOf ml_L_43 zd_68 zc_X11 rfl ⟨by decide, by decide⟩ hcs hl.1 rfl rfl (Nat.le_of_ble_eq_true rfl) dL_law_409 (fun _ hz2 H locs hw => ?_)
  refine Yicmp_eq (tgt := 1413) S hr hr dL_law_412 (by decide) (fun _ => ?_) (fun h => absurd rfl h)
  exact kk z2 H locs hz2 hK2 hN2 hw
theorem L_here (C : LC p s m c b L xs) {n : Int} {i : Nat} (hn : n ≤ 1000) (hi : i + 5 ≤ L) (hdj : Zdj ad) (hzz : Zok z) (hK : K z) (hN : JN n z) (hw : ZW D cA ad (LA s) (Zc z) s H locs) (hcs : cells ≤ room_1.cells ∧ slots ≤ room_1.slots) (hl : lv_has ls 4 [(3, .int (i32 (i : Int))), (2, .ref (ad 68)), (1, .ref (ad 0)), (0, .ref b)]) (kk : ∀ (z2 : ZI) (H1 : Heap) (locs1 : List Loc), Zok z2 → K z2 → JN (n + 1) z2 → ZW D cA ad (LA s) (Zc z2) s H1 locs1 → W p l e room_1 s m #[Value.ref b] below meth c H1 locs1 cells slots Q (F0 m 1413 ls [])) : W p l e room_1 s m #[Value.ref b] below meth c H locs cells slots Q (F0 m 417 ls []) := by
  have S := C.1
  obtain ⟨r, z1, z2, e1, e2, hK2, hN2⟩ := t_here hK hN hn (xN xs i 1) (xN xs i 2)
  refine lv_aload_n S.1 S.2.1 dL_law_417 rfl (lv_at hl 2 rfl) ?_
  refine Larg C hw.2.2.2 hl 1 (by decide) hi dL_law_418 dL_law_419 dL_law_420 ic_1 dL_law_421 dL_law_422 ?_
  refine Larg C hw.2.2.2 hl 2 (by decide) hi dL_law_423 dL_law_424 dL_law_425 ic_2 dL_law_426 dL_law_427 ?_
  refine YcallVi (rest := []) S hw (c_X10_here hdj hzz (xN_r xs i 1) (xN_r xs i 2) e1) my_X10_here mi_X10_here ml_L_44 zd_0 zc_X10 rfl ⟨by decide, by decide⟩ hcs hl.1 rfl rfl (Nat.le_of_ble_eq_true rfl) dL_law_428 (fun hr hz1 H locs hw => ?_)
  refine lv_aload_n S.1 S.2.1 dL_law_431 rfl (lv_at hl 1 rfl) ?_
  refine Larg C hw.2.2.2 hl 1 (by decide) hi dL_law_432 dL_law_433 dL_law_434 ic_1 dL_law_435 dL_law_436 ?_
  refine Larg C hw.2.2.2 hl 2 (by decide) hi dL_law_437 dL_law_438 dL_law_439 ic_2 dL_law_440 dL_law_441 ?_
  refine YcallVi (rest := [.int (i32 r)]) S hw (c_X11_here hdj hz1 (xN_r xs i 1) (xN_r xs i 2) e2) my_X11_here mi_X11_here ml_L_47 zd_68 zc_X11 rfl ⟨by decide, by decide⟩ hcs hl.1 rfl rfl (Nat.le_of_ble_eq_true rfl) dL_law_442 (fun _ hz2 H locs hw => ?_)
  refine Yicmp_eq (tgt := 1413) S hr hr dL_law_445 (by decide) (fun _ => ?_) (fun h => absurd rfl h)
  exact kk z2 H locs hz2 hK2 hN2 hw
theorem L_feed (C : LC p s m c b L xs) {n : Int} {i : Nat} (hn : n ≤ 1000) (hi : i + 5 ≤ L) (hdj : Zdj ad) (hzz : Zok z) (hK : K z) (hN : JN n z) (hw : ZW D cA ad (LA s) (Zc z) s H locs) (hcs : cells ≤ room_1.cells ∧ slots ≤ room_1.slots) (hl : lv_has ls 4 [(3, .int (i32 (i : Int))), (2, .ref (ad 68)), (1, .ref (ad 0)), (0, .ref b)]) (kk : ∀ (z2 : ZI) (H1 : Heap) (locs1 : List Loc), Zok z2 → K z2 → JN (n + 1) z2 → ZW D cA ad (LA s) (Zc z2) s H1 locs1 → W p l e room_1 s m #[Value.ref b] below meth c H1 locs1 cells slots Q (F0 m 1413 ls [])) : W p l e room_1 s m #[Value.ref b] below meth c H locs cells slots Q (F0 m 450 ls []) := by
  have S := C.1
  obtain ⟨r, z1, z2, e1, e2, hK2, hN2⟩ := t_feed hK hN hn (xN xs i 1) (fdV (xN xs i 2) (xN xs i 3)).toInt
  refine lv_aload_n S.1 S.2.1 dL_law_450 rfl (lv_at hl 2 rfl) ?_
  refine Larg C hw.2.2.2 hl 1 (by decide) hi dL_law_451 dL_law_452 dL_law_453 ic_1 dL_law_454 dL_law_455 ?_
  refine Larg C hw.2.2.2 hl 2 (by decide) hi dL_law_456 dL_law_457 dL_law_458 ic_2 dL_law_459 dL_law_460 ?_
  refine Yi2l S (xN_r xs i 2) dL_law_461 ?_
  refine lv_bipush (v := i32 32) S.1 S.2.1 dL_law_462 rfl ?_
  refine lv_lshl S.1 S.2.1 dL_law_464 rfl ?_
  refine Larg C hw.2.2.2 hl 3 (by decide) hi dL_law_465 dL_law_466 dL_law_467 ic_3 dL_law_468 dL_law_469 ?_
  refine Yi2l S (xN_r xs i 3) dL_law_470 ?_
  refine lv_ldc2 S.1 S.2.1 S.2.2.2.1 (S.2.2.2.2 _ yl_L_48) dL_law_471 ?_
  refine lv_land S.1 S.2.1 dL_law_474 ?_
  refine lv_lor S.1 S.2.1 dL_law_475 ?_
  refine Lset (v := fdV (xN xs i 2) (xN xs i 3)) ?_
  refine YcallVi (rest := []) S hw (c_X10_feed hdj hzz (xN_r xs i 1) (InL_of _) e1) my_X10_feed mi_X10_feed ml_L_50 zd_0 zc_X10 rfl ⟨by decide, by decide⟩ hcs hl.1 rfl rfl (Nat.le_of_ble_eq_true rfl) dL_law_476 (fun hr hz1 H locs hw => ?_)
  refine lv_aload_n S.1 S.2.1 dL_law_479 rfl (lv_at hl 1 rfl) ?_
  refine Larg C hw.2.2.2 hl 1 (by decide) hi dL_law_480 dL_law_481 dL_law_482 ic_1 dL_law_483 dL_law_484 ?_
  refine Larg C hw.2.2.2 hl 2 (by decide) hi dL_law_485 dL_law_486 dL_law_487 ic_2 dL_law_488 dL_law_489 ?_
  refine Yi2l S (xN_r xs i 2) dL_law_490 ?_
  refine lv_bipush (v := i32 32) S.1 S.2.1 dL_law_491 rfl ?_
  refine lv_lshl S.1 S.2.1 dL_law_493 rfl ?_
  refine Larg C hw.2.2.2 hl 3 (by decide) hi dL_law_494 dL_law_495 dL_law_496 ic_3 dL_law_497 dL_law_498 ?_
  refine Yi2l S (xN_r xs i 3) dL_law_499 ?_
  refine lv_ldc2 S.1 S.2.1 S.2.2.2.1 (S.2.2.2.2 _ yl_L_48) dL_law_500 ?_
  refine lv_land S.1 S.2.1 dL_law_503 ?_
  refine lv_lor S.1 S.2.1 dL_law_504 ?_
  refine Lset (v := fdV (xN xs i 2) (xN xs i 3)) ?_
  refine YcallVi (rest := [.int (i32 r)]) S hw (c_X11_feed hdj hz1 (xN_r xs i 1) (InL_of _) e2) my_X11_feed mi_X11_feed ml_L_54 zd_68 zc_X11 rfl ⟨by decide, by decide⟩ hcs hl.1 rfl rfl (Nat.le_of_ble_eq_true rfl) dL_law_505 (fun _ hz2 H locs hw => ?_)
  refine Yicmp_eq (tgt := 1413) S hr hr dL_law_508 (by decide) (fun _ => ?_) (fun h => absurd rfl h)
  exact kk z2 H locs hz2 hK2 hN2 hw
theorem L_rule (C : LC p s m c b L xs) {n : Int} {i : Nat} (hn : n ≤ 1000) (hi : i + 5 ≤ L) (hdj : Zdj ad) (hzz : Zok z) (hK : K z) (hN : JN n z) (hw : ZW D cA ad (LA s) (Zc z) s H locs) (hcs : cells ≤ room_1.cells ∧ slots ≤ room_1.slots) (hl : lv_has ls 4 [(3, .int (i32 (i : Int))), (2, .ref (ad 68)), (1, .ref (ad 0)), (0, .ref b)]) (kk : ∀ (z2 : ZI) (H1 : Heap) (locs1 : List Loc), Zok z2 → K z2 → JN (n + 1) z2 → ZW D cA ad (LA s) (Zc z2) s H1 locs1 → W p l e room_1 s m #[Value.ref b] below meth c H1 locs1 cells slots Q (F0 m 1413 ls [])) : W p l e room_1 s m #[Value.ref b] below meth c H locs cells slots Q (F0 m 513 ls []) := by
  have S := C.1
  obtain ⟨r, z1, z2, e1, e2, hK2, hN2⟩ := t_rule hK hN hn (xN xs i 1) (xN xs i 2) (LT_ok hzz)
  refine lv_aload_n S.1 S.2.1 dL_law_513 rfl (lv_at hl 2 rfl) ?_
  refine Larg C hw.2.2.2 hl 1 (by decide) hi dL_law_514 dL_law_515 dL_law_516 ic_1 dL_law_517 dL_law_518 ?_
  refine Larg C hw.2.2.2 hl 2 (by decide) hi dL_law_519 dL_law_520 dL_law_521 ic_2 dL_law_522 dL_law_523 ?_
  refine YcallVi (rest := []) S hw (c_X10_rule hdj hzz (xN_r xs i 1) (xN_r xs i 2) e1) my_X10_rule mi_X10_rule ml_L_55 zd_0 zc_X10 rfl ⟨by decide, by decide⟩ hcs hl.1 rfl rfl (Nat.le_of_ble_eq_true rfl) dL_law_524 (fun hr hz1 H locs hw => ?_)
  refine lv_aload_n S.1 S.2.1 dL_law_527 rfl (lv_at hl 1 rfl) ?_
  refine Larg C hw.2.2.2 hl 1 (by decide) hi dL_law_528 dL_law_529 dL_law_530 ic_1 dL_law_531 dL_law_532 ?_
  refine Larg C hw.2.2.2 hl 2 (by decide) hi dL_law_533 dL_law_534 dL_law_535 ic_2 dL_law_536 dL_law_537 ?_
  refine YcallVi (rest := [.int (i32 r)]) S hw (c_X11_rule hdj hz1 (xN_r xs i 1) (xN_r xs i 2) e2) my_X11_rule mi_X11_rule ml_L_58 zd_68 zc_X11 rfl ⟨by decide, by decide⟩ hcs hl.1 rfl rfl (Nat.le_of_ble_eq_true rfl) dL_law_538 (fun _ hz2 H locs hw => ?_)
  refine Yicmp_eq (tgt := 1413) S hr hr dL_law_541 (by decide) (fun _ => ?_) (fun h => absurd rfl h)
  exact kk z2 H locs hz2 hK2 hN2 hw
theorem L_card (C : LC p s m c b L xs) {n : Int} {i : Nat} (hn : n ≤ 1000) (hi : i + 5 ≤ L) (hdj : Zdj ad) (hzz : Zok z) (hK : K z) (hN : JN n z) (hw : ZW D cA ad (LA s) (Zc z) s H locs) (hcs : cells ≤ room_1.cells ∧ slots ≤ room_1.slots) (hl : lv_has ls 4 [(3, .int (i32 (i : Int))), (2, .ref (ad 68)), (1, .ref (ad 0)), (0, .ref b)]) (kk : ∀ (z2 : ZI) (H1 : Heap) (locs1 : List Loc), Zok z2 → K z2 → JN (n + 1) z2 → ZW D cA ad (LA s) (Zc z2) s H1 locs1 → W p l e room_1 s m #[Value.ref b] below meth c H1 locs1 cells slots Q (F0 m 1413 ls [])) : W p l e room_1 s m #[Value.ref b] below meth c H locs cells slots Q (F0 m 546 ls []) := by
  have S := C.1
  obtain ⟨r, z1, z2, e1, e2, hK2, hN2⟩ := t_card hK hN hn (xN xs i 1)
  refine lv_aload_n S.1 S.2.1 dL_law_546 rfl (lv_at hl 2 rfl) ?_
  refine Larg C hw.2.2.2 hl 1 (by decide) hi dL_law_547 dL_law_548 dL_law_549 ic_1 dL_law_550 dL_law_551 ?_
  refine YcallVi (rest := []) S hw (c_X10_card hdj hzz (xN_r xs i 1) e1) my_X10_card mi_X10_card ml_L_59 zd_0 zc_X10 rfl ⟨by decide, by decide⟩ hcs hl.1 rfl rfl (Nat.le_of_ble_eq_true rfl) dL_law_552 (fun hr hz1 H locs hw => ?_)
  refine lv_aload_n S.1 S.2.1 dL_law_555 rfl (lv_at hl 1 rfl) ?_
  refine Larg C hw.2.2.2 hl 1 (by decide) hi dL_law_556 dL_law_557 dL_law_558 ic_1 dL_law_559 dL_law_560 ?_
  refine YcallVi (rest := [.int (i32 r)]) S hw (c_X11_card hdj hz1 (xN_r xs i 1) e2) my_X11_card mi_X11_card ml_L_62 zd_68 zc_X11 rfl ⟨by decide, by decide⟩ hcs hl.1 rfl rfl (Nat.le_of_ble_eq_true rfl) dL_law_561 (fun _ hz2 H locs hw => ?_)
  refine Yicmp_eq (tgt := 1413) S hr hr dL_law_564 (by decide) (fun _ => ?_) (fun h => absurd rfl h)
  exact kk z2 H locs hz2 hK2 hN2 hw
theorem L_end (C : LC p s m c b L xs) {n : Int} {i : Nat} (hn : n ≤ 1000) (hi : i + 5 ≤ L) (hdj : Zdj ad) (hzz : Zok z) (hK : K z) (hN : JN n z) (hw : ZW D cA ad (LA s) (Zc z) s H locs) (hcs : cells ≤ room_1.cells ∧ slots ≤ room_1.slots) (hl : lv_has ls 4 [(3, .int (i32 (i : Int))), (2, .ref (ad 68)), (1, .ref (ad 0)), (0, .ref b)]) (kk : ∀ (z2 : ZI) (H1 : Heap) (locs1 : List Loc), Zok z2 → K z2 → JN (n + 1) z2 → ZW D cA ad (LA s) (Zc z2) s H1 locs1 → W p l e room_1 s m #[Value.ref b] below meth c H1 locs1 cells slots Q (F0 m 1413 ls [])) : W p l e room_1 s m #[Value.ref b] below meth c H locs cells slots Q (F0 m 569 ls []) := by
  have S := C.1
  obtain ⟨r, z1, z2, e1, e2, hK2, hN2⟩ := t_end hK hN hn (xN xs i 1)
  refine lv_aload_n S.1 S.2.1 dL_law_569 rfl (lv_at hl 2 rfl) ?_
  refine Larg C hw.2.2.2 hl 1 (by decide) hi dL_law_570 dL_law_571 dL_law_572 ic_1 dL_law_573 dL_law_574 ?_
  refine YcallVi (rest := []) S hw (c_X10_end hdj hzz (xN_r xs i 1) e1) my_X10_end mi_X10_end ml_L_63 zd_0 zc_X10 rfl ⟨by decide, by decide⟩ hcs hl.1 rfl rfl (Nat.le_of_ble_eq_true rfl) dL_law_575 (fun hr hz1 H locs hw => ?_)
  refine lv_aload_n S.1 S.2.1 dL_law_578 rfl (lv_at hl 1 rfl) ?_
  refine Larg C hw.2.2.2 hl 1 (by decide) hi dL_law_579 dL_law_580 dL_law_581 ic_1 dL_law_582 dL_law_583 ?_
  refine YcallVi (rest := [.int (i32 r)]) S hw (c_X11_end hdj hz1 (xN_r xs i 1) e2) my_X11_end mi_X11_end ml_L_66 zd_68 zc_X11 rfl ⟨by decide, by decide⟩ hcs hl.1 rfl rfl (Nat.le_of_ble_eq_true rfl) dL_law_584 (fun _ hz2 H locs hw => ?_)
  refine Yicmp_eq (tgt := 1413) S hr hr dL_law_587 (by decide) (fun _ => ?_) (fun h => absurd rfl h)
  exact kk z2 H locs hz2 hK2 hN2 hw
theorem L_draw (C : LC p s m c b L xs) {n : Int} {i : Nat} (hn : n ≤ 1000) (hi : i + 5 ≤ L) (hdj : Zdj ad) (hzz : Zok z) (hK : K z) (hN : JN n z) (hw : ZW D cA ad (LA s) (Zc z) s H locs) (hcs : cells ≤ room_1.cells ∧ slots ≤ room_1.slots) (hl : lv_has ls 4 [(3, .int (i32 (i : Int))), (2, .ref (ad 68)), (1, .ref (ad 0)), (0, .ref b)]) (kk : ∀ (z2 : ZI) (H1 : Heap) (locs1 : List Loc), Zok z2 → K z2 → JN (n + 1) z2 → ZW D cA ad (LA s) (Zc z2) s H1 locs1 → W p l e room_1 s m #[Value.ref b] below meth c H1 locs1 cells slots Q (F0 m 1413 ls [])) : W p l e room_1 s m #[Value.ref b] below meth c H locs cells slots Q (F0 m 592 ls []) := by
  have S := C.1
  obtain ⟨r, z1, z2, e1, e2, hK2, hN2⟩ := t_draw hK hN hn (xN xs i 1) (xN xs i 2)
  refine lv_aload_n S.1 S.2.1 dL_law_592 rfl (lv_at hl 2 rfl) ?_
  refine Larg C hw.2.2.2 hl 1 (by decide) hi dL_law_593 dL_law_594 dL_law_595 ic_1 dL_law_596 dL_law_597 ?_
  refine Larg C hw.2.2.2 hl 2 (by decide) hi dL_law_598 dL_law_599 dL_law_600 ic_2 dL_law_601 dL_law_602 ?_
  refine YcallVi (rest := []) S hw (c_X10_draw hdj hzz (xN_r xs i 1) (xN_r xs i 2) e1) my_X10_draw mi_X10_draw ml_L_67 zd_0 zc_X10 rfl ⟨by decide, by decide⟩ hcs hl.1 rfl rfl (Nat.le_of_ble_eq_true rfl) dL_law_603 (fun hr hz1 H locs hw => ?_)
  refine lv_aload_n S.1 S.2.1 dL_law_606 rfl (lv_at hl 1 rfl) ?_
  refine Larg C hw.2.2.2 hl 1 (by decide) hi dL_law_607 dL_law_608 dL_law_609 ic_1 dL_law_610 dL_law_611 ?_
  refine Larg C hw.2.2.2 hl 2 (by decide) hi dL_law_612 dL_law_613 dL_law_614 ic_2 dL_law_615 dL_law_616 ?_
  refine YcallVi (rest := [.int (i32 r)]) S hw (c_X11_draw hdj hz1 (xN_r xs i 1) (xN_r xs i 2) e2) my_X11_draw mi_X11_draw ml_L_70 zd_68 zc_X11 rfl ⟨by decide, by decide⟩ hcs hl.1 rfl rfl (Nat.le_of_ble_eq_true rfl) dL_law_617 (fun _ hz2 H locs hw => ?_)
  refine Yicmp_eq (tgt := 1413) S hr hr dL_law_620 (by decide) (fun _ => ?_) (fun h => absurd rfl h)
  exact kk z2 H locs hz2 hK2 hN2 hw
theorem L_points (C : LC p s m c b L xs) {n : Int} {i : Nat} (hn : n ≤ 1000) (hi : i + 5 ≤ L) (hdj : Zdj ad) (hzz : Zok z) (hK : K z) (hN : JN n z) (hw : ZW D cA ad (LA s) (Zc z) s H locs) (hcs : cells ≤ room_1.cells ∧ slots ≤ room_1.slots) (hl : lv_has ls 4 [(3, .int (i32 (i : Int))), (2, .ref (ad 68)), (1, .ref (ad 0)), (0, .ref b)]) (kk : ∀ (z2 : ZI) (H1 : Heap) (locs1 : List Loc), Zok z2 → K z2 → JN (n + 1) z2 → ZW D cA ad (LA s) (Zc z2) s H1 locs1 → W p l e room_1 s m #[Value.ref b] below meth c H1 locs1 cells slots Q (F0 m 1413 ls [])) : W p l e room_1 s m #[Value.ref b] below meth c H locs cells slots Q (F0 m 625 ls []) := by
  have S := C.1
  obtain ⟨r, z1, z2, e1, e2, hK2, hN2⟩ := t_points hK hN hn (xN xs i 1) (xN xs i 2)
  refine lv_aload_n S.1 S.2.1 dL_law_625 rfl (lv_at hl 2 rfl) ?_
  refine Larg C hw.2.2.2 hl 1 (by decide) hi dL_law_626 dL_law_627 dL_law_628 ic_1 dL_law_629 dL_law_630 ?_
  refine Larg C hw.2.2.2 hl 2 (by decide) hi dL_law_631 dL_law_632 dL_law_633 ic_2 dL_law_634 dL_law_635 ?_
  refine YcallVi (rest := []) S hw (c_X10_points hdj hzz (xN_r xs i 1) (xN_r xs i 2) e1) my_X10_points mi_X10_points ml_L_71 zd_0 zc_X10 rfl ⟨by decide, by decide⟩ hcs hl.1 rfl rfl (Nat.le_of_ble_eq_true rfl) dL_law_636 (fun hr hz1 H locs hw => ?_)
  refine lv_aload_n S.1 S.2.1 dL_law_639 rfl (lv_at hl 1 rfl) ?_
  refine Larg C hw.2.2.2 hl 1 (by decide) hi dL_law_640 dL_law_641 dL_law_642 ic_1 dL_law_643 dL_law_644 ?_
  refine Larg C hw.2.2.2 hl 2 (by decide) hi dL_law_645 dL_law_646 dL_law_647 ic_2 dL_law_648 dL_law_649 ?_
  refine YcallVi (rest := [.int (i32 r)]) S hw (c_X11_points hdj hz1 (xN_r xs i 1) (xN_r xs i 2) e2) my_X11_points mi_X11_points ml_L_74 zd_68 zc_X11 rfl ⟨by decide, by decide⟩ hcs hl.1 rfl rfl (Nat.le_of_ble_eq_true rfl) dL_law_650 (fun _ hz2 H locs hw => ?_)
  refine Yicmp_eq (tgt := 1413) S hr hr dL_law_653 (by decide) (fun _ => ?_) (fun h => absurd rfl h)
  exact kk z2 H locs hz2 hK2 hN2 hw
theorem L_handed (C : LC p s m c b L xs) {n : Int} {i : Nat} (hn : n ≤ 1000) (hi : i + 5 ≤ L) (hdj : Zdj ad) (hzz : Zok z) (hK : K z) (hN : JN n z) (hw : ZW D cA ad (LA s) (Zc z) s H locs) (hcs : cells ≤ room_1.cells ∧ slots ≤ room_1.slots) (hl : lv_has ls 4 [(3, .int (i32 (i : Int))), (2, .ref (ad 68)), (1, .ref (ad 0)), (0, .ref b)]) (kk : ∀ (z2 : ZI) (H1 : Heap) (locs1 : List Loc), Zok z2 → K z2 → JN (n + 1) z2 → ZW D cA ad (LA s) (Zc z2) s H1 locs1 → W p l e room_1 s m #[Value.ref b] below meth c H1 locs1 cells slots Q (F0 m 1413 ls [])) : W p l e room_1 s m #[Value.ref b] below meth c H locs cells slots Q (F0 m 658 ls []) := by
  have S := C.1
  obtain ⟨r, z1, z2, e1, e2, hK2, hN2⟩ := t_handed hK hN hn (xN xs i 1) (xN xs i 2) (xN xs i 3)
  refine lv_aload_n S.1 S.2.1 dL_law_658 rfl (lv_at hl 2 rfl) ?_
  refine Larg C hw.2.2.2 hl 1 (by decide) hi dL_law_659 dL_law_660 dL_law_661 ic_1 dL_law_662 dL_law_663 ?_
  refine Larg C hw.2.2.2 hl 2 (by decide) hi dL_law_664 dL_law_665 dL_law_666 ic_2 dL_law_667 dL_law_668 ?_
  refine Larg C hw.2.2.2 hl 3 (by decide) hi dL_law_669 dL_law_670 dL_law_671 ic_3 dL_law_672 dL_law_673 ?_
  refine YcallVi (rest := []) S hw (c_X10_handed hdj hzz (xN_r xs i 1) (xN_r xs i 2) (xN_r xs i 3) e1) my_X10_handed mi_X10_handed ml_L_75 zd_0 zc_X10 rfl ⟨by decide, by decide⟩ hcs hl.1 rfl rfl (Nat.le_of_ble_eq_true rfl) dL_law_674 (fun hr hz1 H locs hw => ?_)
  refine lv_aload_n S.1 S.2.1 dL_law_677 rfl (lv_at hl 1 rfl) ?_
  refine Larg C hw.2.2.2 hl 1 (by decide) hi dL_law_678 dL_law_679 dL_law_680 ic_1 dL_law_681 dL_law_682 ?_
  refine Larg C hw.2.2.2 hl 2 (by decide) hi dL_law_683 dL_law_684 dL_law_685 ic_2 dL_law_686 dL_law_687 ?_
  refine Larg C hw.2.2.2 hl 3 (by decide) hi dL_law_688 dL_law_689 dL_law_690 ic_3 dL_law_691 dL_law_692 ?_
  refine YcallVi (rest := [.int (i32 r)]) S hw (c_X11_handed hdj hz1 (xN_r xs i 1) (xN_r xs i 2) (xN_r xs i 3) e2) my_X11_handed mi_X11_handed ml_L_78 zd_68 zc_X11 rfl ⟨by decide, by decide⟩ hcs hl.1 rfl rfl (Nat.le_of_ble_eq_true rfl) dL_law_693 (fun _ hz2 H locs hw => ?_)
  refine Yicmp_eq (tgt := 1413) S hr hr dL_law_696 (by decide) (fun _ => ?_) (fun h => absurd rfl h)
  exact kk z2 H locs hz2 hK2 hN2 hw
theorem L_since (C : LC p s m c b L xs) {n : Int} {i : Nat} (hn : n ≤ 1000) (hi : i + 5 ≤ L) (hdj : Zdj ad) (hzz : Zok z) (hK : K z) (hN : JN n z) (hw : ZW D cA ad (LA s) (Zc z) s H locs) (hcs : cells ≤ room_1.cells ∧ slots ≤ room_1.slots) (hl : lv_has ls 4 [(3, .int (i32 (i : Int))), (2, .ref (ad 68)), (1, .ref (ad 0)), (0, .ref b)]) (kk : ∀ (z2 : ZI) (H1 : Heap) (locs1 : List Loc), Zok z2 → K z2 → JN (n + 1) z2 → ZW D cA ad (LA s) (Zc z2) s H1 locs1 → W p l e room_1 s m #[Value.ref b] below meth c H1 locs1 cells slots Q (F0 m 1413 ls [])) : W p l e room_1 s m #[Value.ref b] below meth c H locs cells slots Q (F0 m 701 ls []) := by
  have S := C.1
  obtain ⟨r, z1, z2, e1, e2, hK2, hN2⟩ := t_since hK hN hn (xN xs i 1)
  refine lv_aload_n S.1 S.2.1 dL_law_701 rfl (lv_at hl 2 rfl) ?_
  refine Larg C hw.2.2.2 hl 1 (by decide) hi dL_law_702 dL_law_703 dL_law_704 ic_1 dL_law_705 dL_law_706 ?_
  refine YcallVi (rest := []) S hw (c_X10_since hdj hzz (xN_r xs i 1) e1) my_X10_since mi_X10_since ml_L_79 zd_0 zc_X10 rfl ⟨by decide, by decide⟩ hcs hl.1 rfl rfl (Nat.le_of_ble_eq_true rfl) dL_law_707 (fun hr hz1 H locs hw => ?_)
  refine lv_aload_n S.1 S.2.1 dL_law_710 rfl (lv_at hl 1 rfl) ?_
  refine Larg C hw.2.2.2 hl 1 (by decide) hi dL_law_711 dL_law_712 dL_law_713 ic_1 dL_law_714 dL_law_715 ?_
  refine YcallVi (rest := [.int (i32 r)]) S hw (c_X11_since hdj hz1 (xN_r xs i 1) e2) my_X11_since mi_X11_since ml_L_82 zd_68 zc_X11 rfl ⟨by decide, by decide⟩ hcs hl.1 rfl rfl (Nat.le_of_ble_eq_true rfl) dL_law_716 (fun _ hz2 H locs hw => ?_)
  refine Yicmp_eq (tgt := 1413) S hr hr dL_law_719 (by decide) (fun _ => ?_) (fun h => absurd rfl h)
  exact kk z2 H locs hz2 hK2 hN2 hw
theorem L_pairs (C : LC p s m c b L xs) {n : Int} {i : Nat} (hn : n ≤ 1000) (hi : i + 5 ≤ L) (hdj : Zdj ad) (hzz : Zok z) (hK : K z) (hN : JN n z) (hw : ZW D cA ad (LA s) (Zc z) s H locs) (hcs : cells ≤ room_1.cells ∧ slots ≤ room_1.slots) (hl : lv_has ls 4 [(3, .int (i32 (i : Int))), (2, .ref (ad 68)), (1, .ref (ad 0)), (0, .ref b)]) (kk : ∀ (z2 : ZI) (H1 : Heap) (locs1 : List Loc), Zok z2 → K z2 → JN (n + 1) z2 → ZW D cA ad (LA s) (Zc z2) s H1 locs1 → W p l e room_1 s m #[Value.ref b] below meth c H1 locs1 cells slots Q (F0 m 1413 ls [])) : W p l e room_1 s m #[Value.ref b] below meth c H locs cells slots Q (F0 m 724 ls []) := by
  have S := C.1
  obtain ⟨r, z1, z2, e1, e2, hK2, hN2⟩ := t_pairs hK hN hn (xN xs i 1) (xN xs i 2)
  refine lv_aload_n S.1 S.2.1 dL_law_724 rfl (lv_at hl 2 rfl) ?_
  refine Larg C hw.2.2.2 hl 1 (by decide) hi dL_law_725 dL_law_726 dL_law_727 ic_1 dL_law_728 dL_law_729 ?_
  refine Larg C hw.2.2.2 hl 2 (by decide) hi dL_law_730 dL_law_731 dL_law_732 ic_2 dL_law_733 dL_law_734 ?_
  refine YcallVi (rest := []) S hw (c_X10_pairs hdj hzz (xN_r xs i 1) (xN_r xs i 2) e1) my_X10_pairs mi_X10_pairs ml_L_83 zd_0 zc_X10 rfl ⟨by decide, by decide⟩ hcs hl.1 rfl rfl (Nat.le_of_ble_eq_true rfl) dL_law_735 (fun hr hz1 H locs hw => ?_)
  refine lv_aload_n S.1 S.2.1 dL_law_738 rfl (lv_at hl 1 rfl) ?_
  refine Larg C hw.2.2.2 hl 1 (by decide) hi dL_law_739 dL_law_740 dL_law_741 ic_1 dL_law_742 dL_law_743 ?_
  refine Larg C hw.2.2.2 hl 2 (by decide) hi dL_law_744 dL_law_745 dL_law_746 ic_2 dL_law_747 dL_law_748 ?_
  refine YcallVi (rest := [.int (i32 r)]) S hw (c_X11_pairs hdj hz1 (xN_r xs i 1) (xN_r xs i 2) e2) my_X11_pairs mi_X11_pairs ml_L_86 zd_68 zc_X11 rfl ⟨by decide, by decide⟩ hcs hl.1 rfl rfl (Nat.le_of_ble_eq_true rfl) dL_law_749 (fun _ hz2 H locs hw => ?_)
  refine Yicmp_eq (tgt := 1413) S hr hr dL_law_752 (by decide) (fun _ => ?_) (fun h => absurd rfl h)
  exact kk z2 H locs hz2 hK2 hN2 hw
theorem L_alike (C : LC p s m c b L xs) {n : Int} {i : Nat} (hn : n ≤ 1000) (hi : i + 5 ≤ L) (hdj : Zdj ad) (hzz : Zok z) (hK : K z) (hN : JN n z) (hw : ZW D cA ad (LA s) (Zc z) s H locs) (hcs : cells ≤ room_1.cells ∧ slots ≤ room_1.slots) (hl : lv_has ls 4 [(3, .int (i32 (i : Int))), (2, .ref (ad 68)), (1, .ref (ad 0)), (0, .ref b)]) (kk : ∀ (z2 : ZI) (H1 : Heap) (locs1 : List Loc), Zok z2 → K z2 → JN (n + 1) z2 → ZW D cA ad (LA s) (Zc z2) s H1 locs1 → W p l e room_1 s m #[Value.ref b] below meth c H1 locs1 cells slots Q (F0 m 1413 ls [])) : W p l e room_1 s m #[Value.ref b] below meth c H locs cells slots Q (F0 m 757 ls []) := by
  have S := C.1
  obtain ⟨r, z1, z2, e1, e2, hK2, hN2⟩ := t_alike hK hN hn (xN xs i 1) (xN xs i 2)
  refine lv_aload_n S.1 S.2.1 dL_law_757 rfl (lv_at hl 2 rfl) ?_
  refine Larg C hw.2.2.2 hl 1 (by decide) hi dL_law_758 dL_law_759 dL_law_760 ic_1 dL_law_761 dL_law_762 ?_
  refine Larg C hw.2.2.2 hl 2 (by decide) hi dL_law_763 dL_law_764 dL_law_765 ic_2 dL_law_766 dL_law_767 ?_
  refine YcallVi (rest := []) S hw (c_X10_alike hdj hzz (xN_r xs i 1) (xN_r xs i 2) e1) my_X10_alike mi_X10_alike ml_L_87 zd_0 zc_X10 rfl ⟨by decide, by decide⟩ hcs hl.1 rfl rfl (Nat.le_of_ble_eq_true rfl) dL_law_768 (fun hr hz1 H locs hw => ?_)
  refine lv_aload_n S.1 S.2.1 dL_law_771 rfl (lv_at hl 1 rfl) ?_
  refine Larg C hw.2.2.2 hl 1 (by decide) hi dL_law_772 dL_law_773 dL_law_774 ic_1 dL_law_775 dL_law_776 ?_
  refine Larg C hw.2.2.2 hl 2 (by decide) hi dL_law_777 dL_law_778 dL_law_779 ic_2 dL_law_780 dL_law_781 ?_
  refine YcallVi (rest := [.int (i32 r)]) S hw (c_X11_alike hdj hz1 (xN_r xs i 1) (xN_r xs i 2) e2) my_X11_alike mi_X11_alike ml_L_90 zd_68 zc_X11 rfl ⟨by decide, by decide⟩ hcs hl.1 rfl rfl (Nat.le_of_ble_eq_true rfl) dL_law_782 (fun _ hz2 H locs hw => ?_)
  refine Yicmp_eq (tgt := 1413) S hr hr dL_law_785 (by decide) (fun _ => ?_) (fun h => absurd rfl h)
  exact kk z2 H locs hz2 hK2 hN2 hw
theorem L_well (C : LC p s m c b L xs) {n : Int} {i : Nat} (hn : n ≤ 1000) (hi : i + 5 ≤ L) (hdj : Zdj ad) (hzz : Zok z) (hK : K z) (hN : JN n z) (hw : ZW D cA ad (LA s) (Zc z) s H locs) (hcs : cells ≤ room_1.cells ∧ slots ≤ room_1.slots) (hl : lv_has ls 4 [(3, .int (i32 (i : Int))), (2, .ref (ad 68)), (1, .ref (ad 0)), (0, .ref b)]) (kk : ∀ (z2 : ZI) (H1 : Heap) (locs1 : List Loc), Zok z2 → K z2 → JN (n + 1) z2 → ZW D cA ad (LA s) (Zc z2) s H1 locs1 → W p l e room_1 s m #[Value.ref b] below meth c H1 locs1 cells slots Q (F0 m 1413 ls [])) : W p l e room_1 s m #[Value.ref b] below meth c H locs cells slots Q (F0 m 790 ls []) := by
  have S := C.1
  obtain ⟨r, z1, z2, e1, e2, hK2, hN2⟩ := t_well hK hN hn (xN xs i 1) (xN xs i 2) (xN xs i 3)
  refine lv_aload_n S.1 S.2.1 dL_law_790 rfl (lv_at hl 2 rfl) ?_
  refine Larg C hw.2.2.2 hl 1 (by decide) hi dL_law_791 dL_law_792 dL_law_793 ic_1 dL_law_794 dL_law_795 ?_
  refine Larg C hw.2.2.2 hl 2 (by decide) hi dL_law_796 dL_law_797 dL_law_798 ic_2 dL_law_799 dL_law_800 ?_
  refine Larg C hw.2.2.2 hl 3 (by decide) hi dL_law_801 dL_law_802 dL_law_803 ic_3 dL_law_804 dL_law_805 ?_
  refine YcallVi (rest := []) S hw (c_X10_well hdj hzz (xN_r xs i 1) (xN_r xs i 2) (xN_r xs i 3) e1) my_X10_well mi_X10_well ml_L_91 zd_0 zc_X10 rfl ⟨by decide, by decide⟩ hcs hl.1 rfl rfl (Nat.le_of_ble_eq_true rfl) dL_law_806 (fun hr hz1 H locs hw => ?_)
  refine lv_aload_n S.1 S.2.1 dL_law_809 rfl (lv_at hl 1 rfl) ?_
  refine Larg C hw.2.2.2 hl 1 (by decide) hi dL_law_810 dL_law_811 dL_law_812 ic_1 dL_law_813 dL_law_814 ?_
  refine Larg C hw.2.2.2 hl 2 (by decide) hi dL_law_815 dL_law_816 dL_law_817 ic_2 dL_law_818 dL_law_819 ?_
  refine Larg C hw.2.2.2 hl 3 (by decide) hi dL_law_820 dL_law_821 dL_law_822 ic_3 dL_law_823 dL_law_824 ?_
  refine YcallVi (rest := [.int (i32 r)]) S hw (c_X11_well hdj hz1 (xN_r xs i 1) (xN_r xs i 2) (xN_r xs i 3) e2) my_X11_well mi_X11_well ml_L_94 zd_68 zc_X11 rfl ⟨by decide, by decide⟩ hcs hl.1 rfl rfl (Nat.le_of_ble_eq_true rfl) dL_law_825 (fun _ hz2 H locs hw => ?_)
  refine Yicmp_eq (tgt := 1413) S hr hr dL_law_828 (by decide) (fun _ => ?_) (fun h => absurd rfl h)
  exact kk z2 H locs hz2 hK2 hN2 hw
theorem L_block (C : LC p s m c b L xs) {n : Int} {i : Nat} (hn : n ≤ 1000) (hi : i + 5 ≤ L) (hdj : Zdj ad) (hzz : Zok z) (hK : K z) (hN : JN n z) (hw : ZW D cA ad (LA s) (Zc z) s H locs) (hcs : cells ≤ room_1.cells ∧ slots ≤ room_1.slots) (hl : lv_has ls 4 [(3, .int (i32 (i : Int))), (2, .ref (ad 68)), (1, .ref (ad 0)), (0, .ref b)]) (kk : ∀ (z2 : ZI) (H1 : Heap) (locs1 : List Loc), Zok z2 → K z2 → JN (n + 1) z2 → ZW D cA ad (LA s) (Zc z2) s H1 locs1 → W p l e room_1 s m #[Value.ref b] below meth c H1 locs1 cells slots Q (F0 m 1413 ls [])) : W p l e room_1 s m #[Value.ref b] below meth c H locs cells slots Q (F0 m 833 ls []) := by
  have S := C.1
  obtain ⟨r, z1, z2, e1, e2, hK2, hN2⟩ := t_block hK hN hn (xN xs i 1) (xN xs i 2)
  refine lv_aload_n S.1 S.2.1 dL_law_833 rfl (lv_at hl 2 rfl) ?_
  refine Larg C hw.2.2.2 hl 1 (by decide) hi dL_law_834 dL_law_835 dL_law_836 ic_1 dL_law_837 dL_law_838 ?_
  refine Larg C hw.2.2.2 hl 2 (by decide) hi dL_law_839 dL_law_840 dL_law_841 ic_2 dL_law_842 dL_law_843 ?_
  refine YcallVi (rest := []) S hw (c_X10_block hdj hzz (xN_r xs i 1) (xN_r xs i 2) e1) my_X10_block mi_X10_block ml_L_95 zd_0 zc_X10 rfl ⟨by decide, by decide⟩ hcs hl.1 rfl rfl (Nat.le_of_ble_eq_true rfl) dL_law_844 (fun hr hz1 H locs hw => ?_)
  refine lv_aload_n S.1 S.2.1 dL_law_847 rfl (lv_at hl 1 rfl) ?_
  refine Larg C hw.2.2.2 hl 1 (by decide) hi dL_law_848 dL_law_849 dL_law_850 ic_1 dL_law_851 dL_law_852 ?_
  refine Larg C hw.2.2.2 hl 2 (by decide) hi dL_law_853 dL_law_854 dL_law_855 ic_2 dL_law_856 dL_law_857 ?_
  refine YcallVi (rest := [.int (i32 r)]) S hw (c_X11_block hdj hz1 (xN_r xs i 1) (xN_r xs i 2) e2) my_X11_block mi_X11_block ml_L_98 zd_68 zc_X11 rfl ⟨by decide, by decide⟩ hcs hl.1 rfl rfl (Nat.le_of_ble_eq_true rfl) dL_law_858 (fun _ hz2 H locs hw => ?_)
  refine Yicmp_eq (tgt := 1413) S hr hr dL_law_861 (by decide) (fun _ => ?_) (fun h => absurd rfl h)
  exact kk z2 H locs hz2 hK2 hN2 hw
theorem L_served (C : LC p s m c b L xs) {n : Int} {i : Nat} (hn : n ≤ 1000) (hi : i + 5 ≤ L) (hdj : Zdj ad) (hzz : Zok z) (hK : K z) (hN : JN n z) (hw : ZW D cA ad (LA s) (Zc z) s H locs) (hcs : cells ≤ room_1.cells ∧ slots ≤ room_1.slots) (hl : lv_has ls 4 [(3, .int (i32 (i : Int))), (2, .ref (ad 68)), (1, .ref (ad 0)), (0, .ref b)]) (kk : ∀ (z2 : ZI) (H1 : Heap) (locs1 : List Loc), Zok z2 → K z2 → JN (n + 1) z2 → ZW D cA ad (LA s) (Zc z2) s H1 locs1 → W p l e room_1 s m #[Value.ref b] below meth c H1 locs1 cells slots Q (F0 m 1413 ls [])) : W p l e room_1 s m #[Value.ref b] below meth c H locs cells slots Q (F0 m 866 ls []) := by
  have S := C.1
  obtain ⟨r, z1, z2, e1, e2, hK2, hN2⟩ := t_served hK hN hn (xN xs i 1)
  refine lv_aload_n S.1 S.2.1 dL_law_866 rfl (lv_at hl 2 rfl) ?_
  refine Larg C hw.2.2.2 hl 1 (by decide) hi dL_law_867 dL_law_868 dL_law_869 ic_1 dL_law_870 dL_law_871 ?_
  refine YcallVi (rest := []) S hw (c_X10_served hdj hzz (xN_r xs i 1) e1) my_X10_served mi_X10_served ml_L_99 zd_0 zc_X10 rfl ⟨by decide, by decide⟩ hcs hl.1 rfl rfl (Nat.le_of_ble_eq_true rfl) dL_law_872 (fun hr hz1 H locs hw => ?_)
  refine lv_aload_n S.1 S.2.1 dL_law_875 rfl (lv_at hl 1 rfl) ?_
  refine Larg C hw.2.2.2 hl 1 (by decide) hi dL_law_876 dL_law_877 dL_law_878 ic_1 dL_law_879 dL_law_880 ?_
  refine YcallVi (rest := [.int (i32 r)]) S hw (c_X11_served hdj hz1 (xN_r xs i 1) e2) my_X11_served mi_X11_served ml_L_102 zd_68 zc_X11 rfl ⟨by decide, by decide⟩ hcs hl.1 rfl rfl (Nat.le_of_ble_eq_true rfl) dL_law_881 (fun _ hz2 H locs hw => ?_)
  refine Yicmp_eq (tgt := 1413) S hr hr dL_law_884 (by decide) (fun _ => ?_) (fun h => absurd rfl h)
  exact kk z2 H locs hz2 hK2 hN2 hw
theorem L_best (C : LC p s m c b L xs) {n : Int} {i : Nat} (hn : n ≤ 1000) (hi : i + 5 ≤ L) (hdj : Zdj ad) (hzz : Zok z) (hK : K z) (hN : JN n z) (hw : ZW D cA ad (LA s) (Zc z) s H locs) (hcs : cells ≤ room_1.cells ∧ slots ≤ room_1.slots) (hbt : Both (F_X10_best z (xN xs i 1)) (fun z1 => F_X11_best z1 (xN xs i 1)) (fun z2 => K z2 ∧ JN (n + 1) z2)) (hl : lv_has ls 4 [(3, .int (i32 (i : Int))), (2, .ref (ad 68)), (1, .ref (ad 0)), (0, .ref b)]) (kk : ∀ (z2 : ZI) (H1 : Heap) (locs1 : List Loc), Zok z2 → K z2 → JN (n + 1) z2 → ZW D cA ad (LA s) (Zc z2) s H1 locs1 → W p l e room_1 s m #[Value.ref b] below meth c H1 locs1 cells slots Q (F0 m 1413 ls [])) : W p l e room_1 s m #[Value.ref b] below meth c H locs cells slots Q (F0 m 889 ls []) := by
  have S := C.1
  obtain ⟨r, z1, z2, e1, e2, hK2, hN2⟩ := hbt
  refine lv_aload_n S.1 S.2.1 dL_law_889 rfl (lv_at hl 2 rfl) ?_
  refine Larg C hw.2.2.2 hl 1 (by decide) hi dL_law_890 dL_law_891 dL_law_892 ic_1 dL_law_893 dL_law_894 ?_
  refine YcallVi (rest := []) S hw (c_X10_best hdj hzz (xN_r xs i 1) e1) my_X10_best mi_X10_best ml_L_103 zd_0 zc_X10 rfl ⟨by decide, by decide⟩ hcs hl.1 rfl rfl (Nat.le_of_ble_eq_true rfl) dL_law_895 (fun hr hz1 H locs hw => ?_)
  refine lv_aload_n S.1 S.2.1 dL_law_898 rfl (lv_at hl 1 rfl) ?_
  refine Larg C hw.2.2.2 hl 1 (by decide) hi dL_law_899 dL_law_900 dL_law_901 ic_1 dL_law_902 dL_law_903 ?_
  refine YcallVi (rest := [.int (i32 r)]) S hw (c_X11_best hdj hz1 (xN_r xs i 1) e2) my_X11_best mi_X11_best ml_L_106 zd_68 zc_X11 rfl ⟨by decide, by decide⟩ hcs hl.1 rfl rfl (Nat.le_of_ble_eq_true rfl) dL_law_904 (fun _ hz2 H locs hw => ?_)
  refine Yicmp_eq (tgt := 1413) S hr hr dL_law_907 (by decide) (fun _ => ?_) (fun h => absurd rfl h)
  exact kk z2 H locs hz2 hK2 hN2 hw
theorem L_latrine (C : LC p s m c b L xs) {n : Int} {i : Nat} (hn : n ≤ 1000) (hi : i + 5 ≤ L) (hdj : Zdj ad) (hzz : Zok z) (hK : K z) (hN : JN n z) (hw : ZW D cA ad (LA s) (Zc z) s H locs) (hcs : cells ≤ room_1.cells ∧ slots ≤ room_1.slots) (hl : lv_has ls 4 [(3, .int (i32 (i : Int))), (2, .ref (ad 68)), (1, .ref (ad 0)), (0, .ref b)]) (kk : ∀ (z2 : ZI) (H1 : Heap) (locs1 : List Loc), Zok z2 → K z2 → JN (n + 1) z2 → ZW D cA ad (LA s) (Zc z2) s H1 locs1 → W p l e room_1 s m #[Value.ref b] below meth c H1 locs1 cells slots Q (F0 m 1413 ls [])) : W p l e room_1 s m #[Value.ref b] below meth c H locs cells slots Q (F0 m 912 ls []) := by
  have S := C.1
  obtain ⟨r, z1, z2, e1, e2, hK2, hN2⟩ := t_latrine hK hN hn (xN xs i 1) (xN xs i 2)
  refine lv_aload_n S.1 S.2.1 dL_law_912 rfl (lv_at hl 2 rfl) ?_
  refine Larg C hw.2.2.2 hl 1 (by decide) hi dL_law_913 dL_law_914 dL_law_915 ic_1 dL_law_916 dL_law_917 ?_
  refine Larg C hw.2.2.2 hl 2 (by decide) hi dL_law_918 dL_law_919 dL_law_920 ic_2 dL_law_921 dL_law_922 ?_
  refine YcallVi (rest := []) S hw (c_X10_latrine hdj hzz (xN_r xs i 1) (xN_r xs i 2) e1) my_X10_latrine mi_X10_latrine ml_L_107 zd_0 zc_X10 rfl ⟨by decide, by decide⟩ hcs hl.1 rfl rfl (Nat.le_of_ble_eq_true rfl) dL_law_923 (fun hr hz1 H locs hw => ?_)
  refine lv_aload_n S.1 S.2.1 dL_law_926 rfl (lv_at hl 1 rfl) ?_
  refine Larg C hw.2.2.2 hl 1 (by decide) hi dL_law_927 dL_law_928 dL_law_929 ic_1 dL_law_930 dL_law_931 ?_
  refine Larg C hw.2.2.2 hl 2 (by decide) hi dL_law_932 dL_law_933 dL_law_934 ic_2 dL_law_935 dL_law_936 ?_
  refine YcallVi (rest := [.int (i32 r)]) S hw (c_X11_latrine hdj hz1 (xN_r xs i 1) (xN_r xs i 2) e2) my_X11_latrine mi_X11_latrine ml_L_110 zd_68 zc_X11 rfl ⟨by decide, by decide⟩ hcs hl.1 rfl rfl (Nat.le_of_ble_eq_true rfl) dL_law_937 (fun _ hz2 H locs hw => ?_)
  refine Yicmp_eq (tgt := 1413) S hr hr dL_law_940 (by decide) (fun _ => ?_) (fun h => absurd rfl h)
  exact kk z2 H locs hz2 hK2 hN2 hw
theorem L_drain (C : LC p s m c b L xs) {n : Int} {i : Nat} (hn : n ≤ 1000) (hi : i + 5 ≤ L) (hdj : Zdj ad) (hzz : Zok z) (hK : K z) (hN : JN n z) (hw : ZW D cA ad (LA s) (Zc z) s H locs) (hcs : cells ≤ room_1.cells ∧ slots ≤ room_1.slots) (hl : lv_has ls 4 [(3, .int (i32 (i : Int))), (2, .ref (ad 68)), (1, .ref (ad 0)), (0, .ref b)]) (kk : ∀ (z2 : ZI) (H1 : Heap) (locs1 : List Loc), Zok z2 → K z2 → JN (n + 1) z2 → ZW D cA ad (LA s) (Zc z2) s H1 locs1 → W p l e room_1 s m #[Value.ref b] below meth c H1 locs1 cells slots Q (F0 m 1413 ls [])) : W p l e room_1 s m #[Value.ref b] below meth c H locs cells slots Q (F0 m 945 ls []) := by
  have S := C.1
  obtain ⟨r, z1, z2, e1, e2, hK2, hN2⟩ := t_drain hK hN hn (xN xs i 1)
  refine lv_aload_n S.1 S.2.1 dL_law_945 rfl (lv_at hl 2 rfl) ?_
  refine Larg C hw.2.2.2 hl 1 (by decide) hi dL_law_946 dL_law_947 dL_law_948 ic_1 dL_law_949 dL_law_950 ?_
  refine YcallVi (rest := []) S hw (c_X10_drain hdj hzz (xN_r xs i 1) e1) my_X10_drain mi_X10_drain ml_L_111 zd_0 zc_X10 rfl ⟨by decide, by decide⟩ hcs hl.1 rfl rfl (Nat.le_of_ble_eq_true rfl) dL_law_951 (fun hr hz1 H locs hw => ?_)
  refine lv_aload_n S.1 S.2.1 dL_law_954 rfl (lv_at hl 1 rfl) ?_
  refine Larg C hw.2.2.2 hl 1 (by decide) hi dL_law_955 dL_law_956 dL_law_957 ic_1 dL_law_958 dL_law_959 ?_
  refine YcallVi (rest := [.int (i32 r)]) S hw (c_X11_drain hdj hz1 (xN_r xs i 1) e2) my_X11_drain mi_X11_drain ml_L_114 zd_68 zc_X11 rfl ⟨by decide, by decide⟩ hcs hl.1 rfl rfl (Nat.le_of_ble_eq_true rfl) dL_law_960 (fun _ hz2 H locs hw => ?_)
  refine Yicmp_eq (tgt := 1413) S hr hr dL_law_963 (by decide) (fun _ => ?_) (fun h => absurd rfl h)
  exact kk z2 H locs hz2 hK2 hN2 hw
theorem L_flow (C : LC p s m c b L xs) {n : Int} {i : Nat} (hn : n ≤ 1000) (hi : i + 5 ≤ L) (hdj : Zdj ad) (hzz : Zok z) (hK : K z) (hN : JN n z) (hw : ZW D cA ad (LA s) (Zc z) s H locs) (hcs : cells ≤ room_1.cells ∧ slots ≤ room_1.slots) (hl : lv_has ls 4 [(3, .int (i32 (i : Int))), (2, .ref (ad 68)), (1, .ref (ad 0)), (0, .ref b)]) (kk : ∀ (z2 : ZI) (H1 : Heap) (locs1 : List Loc), Zok z2 → K z2 → JN (n + 1) z2 → ZW D cA ad (LA s) (Zc z2) s H1 locs1 → W p l e room_1 s m #[Value.ref b] below meth c H1 locs1 cells slots Q (F0 m 1413 ls [])) : W p l e room_1 s m #[Value.ref b] below meth c H locs cells slots Q (F0 m 968 ls []) := by
  have S := C.1
  obtain ⟨r, z1, z2, e1, e2, hK2, hN2⟩ := t_flow hK hN hn (xN xs i 1) (xN xs i 2)
  refine lv_aload_n S.1 S.2.1 dL_law_968 rfl (lv_at hl 2 rfl) ?_
  refine Larg C hw.2.2.2 hl 1 (by decide) hi dL_law_969 dL_law_970 dL_law_971 ic_1 dL_law_972 dL_law_973 ?_
  refine Larg C hw.2.2.2 hl 2 (by decide) hi dL_law_974 dL_law_975 dL_law_976 ic_2 dL_law_977 dL_law_978 ?_
  refine YcallVi (rest := []) S hw (c_X10_flow hdj hzz (xN_r xs i 1) (xN_r xs i 2) e1) my_X10_flow mi_X10_flow ml_L_115 zd_0 zc_X10 rfl ⟨by decide, by decide⟩ hcs hl.1 rfl rfl (Nat.le_of_ble_eq_true rfl) dL_law_979 (fun hr hz1 H locs hw => ?_)
  refine lv_aload_n S.1 S.2.1 dL_law_982 rfl (lv_at hl 1 rfl) ?_
  refine Larg C hw.2.2.2 hl 1 (by decide) hi dL_law_983 dL_law_984 dL_law_985 ic_1 dL_law_986 dL_law_987 ?_
  refine Larg C hw.2.2.2 hl 2 (by decide) hi dL_law_988 dL_law_989 dL_law_990 ic_2 dL_law_991 dL_law_992 ?_
  refine YcallVi (rest := [.int (i32 r)]) S hw (c_X11_flow hdj hz1 (xN_r xs i 1) (xN_r xs i 2) e2) my_X11_flow mi_X11_flow ml_L_118 zd_68 zc_X11 rfl ⟨by decide, by decide⟩ hcs hl.1 rfl rfl (Nat.le_of_ble_eq_true rfl) dL_law_993 (fun _ hz2 H locs hw => ?_)
  refine Yicmp_eq (tgt := 1413) S hr hr dL_law_996 (by decide) (fun _ => ?_) (fun h => absurd rfl h)
  exact kk z2 H locs hz2 hK2 hN2 hw
theorem L_foul (C : LC p s m c b L xs) {n : Int} {i : Nat} (hn : n ≤ 1000) (hi : i + 5 ≤ L) (hdj : Zdj ad) (hzz : Zok z) (hK : K z) (hN : JN n z) (hw : ZW D cA ad (LA s) (Zc z) s H locs) (hcs : cells ≤ room_1.cells ∧ slots ≤ room_1.slots) (hl : lv_has ls 4 [(3, .int (i32 (i : Int))), (2, .ref (ad 68)), (1, .ref (ad 0)), (0, .ref b)]) (kk : ∀ (z2 : ZI) (H1 : Heap) (locs1 : List Loc), Zok z2 → K z2 → JN (n + 1) z2 → ZW D cA ad (LA s) (Zc z2) s H1 locs1 → W p l e room_1 s m #[Value.ref b] below meth c H1 locs1 cells slots Q (F0 m 1413 ls [])) : W p l e room_1 s m #[Value.ref b] below meth c H locs cells slots Q (F0 m 1001 ls []) := by
  have S := C.1
  obtain ⟨r, z1, z2, e1, e2, hK2, hN2⟩ := t_foul hK hN hn (xN xs i 1) (xN xs i 2)
  refine lv_aload_n S.1 S.2.1 dL_law_1001 rfl (lv_at hl 2 rfl) ?_
  refine Larg C hw.2.2.2 hl 1 (by decide) hi dL_law_1002 dL_law_1003 dL_law_1004 ic_1 dL_law_1005 dL_law_1006 ?_
  refine Larg C hw.2.2.2 hl 2 (by decide) hi dL_law_1007 dL_law_1008 dL_law_1009 ic_2 dL_law_1010 dL_law_1011 ?_
  refine YcallVi (rest := []) S hw (c_X10_foul hdj hzz (xN_r xs i 1) (xN_r xs i 2) e1) my_X10_foul mi_X10_foul ml_L_119 zd_0 zc_X10 rfl ⟨by decide, by decide⟩ hcs hl.1 rfl rfl (Nat.le_of_ble_eq_true rfl) dL_law_1012 (fun hr hz1 H locs hw => ?_)
  refine lv_aload_n S.1 S.2.1 dL_law_1015 rfl (lv_at hl 1 rfl) ?_
  refine Larg C hw.2.2.2 hl 1 (by decide) hi dL_law_1016 dL_law_1017 dL_law_1018 ic_1 dL_law_1019 dL_law_1020 ?_
  refine Larg C hw.2.2.2 hl 2 (by decide) hi dL_law_1021 dL_law_1022 dL_law_1023 ic_2 dL_law_1024 dL_law_1025 ?_
  refine YcallVi (rest := [.int (i32 r)]) S hw (c_X11_foul hdj hz1 (xN_r xs i 1) (xN_r xs i 2) e2) my_X11_foul mi_X11_foul ml_L_122 zd_68 zc_X11 rfl ⟨by decide, by decide⟩ hcs hl.1 rfl rfl (Nat.le_of_ble_eq_true rfl) dL_law_1026 (fun _ hz2 H locs hw => ?_)
  refine Yicmp_eq (tgt := 1413) S hr hr dL_law_1029 (by decide) (fun _ => ?_) (fun h => absurd rfl h)
  exact kk z2 H locs hz2 hK2 hN2 hw
theorem L_drains (C : LC p s m c b L xs) {n : Int} {i : Nat} (hn : n ≤ 1000) (hi : i + 5 ≤ L) (hdj : Zdj ad) (hzz : Zok z) (hK : K z) (hN : JN n z) (hw : ZW D cA ad (LA s) (Zc z) s H locs) (hcs : cells ≤ room_1.cells ∧ slots ≤ room_1.slots) (hl : lv_has ls 4 [(3, .int (i32 (i : Int))), (2, .ref (ad 68)), (1, .ref (ad 0)), (0, .ref b)]) (kk : ∀ (z2 : ZI) (H1 : Heap) (locs1 : List Loc), Zok z2 → K z2 → JN (n + 1) z2 → ZW D cA ad (LA s) (Zc z2) s H1 locs1 → W p l e room_1 s m #[Value.ref b] below meth c H1 locs1 cells slots Q (F0 m 1413 ls [])) : W p l e room_1 s m #[Value.ref b] below meth c H locs cells slots Q (F0 m 1034 ls []) := by
  have S := C.1
  obtain ⟨r, z1, z2, e1, e2, hK2, hN2⟩ := t_drains hK hN hn (xN xs i 1)
  refine lv_aload_n S.1 S.2.1 dL_law_1034 rfl (lv_at hl 2 rfl) ?_
  refine Larg C hw.2.2.2 hl 1 (by decide) hi dL_law_1035 dL_law_1036 dL_law_1037 ic_1 dL_law_1038 dL_law_1039 ?_
  refine YcallVi (rest := []) S hw (c_X10_drains hdj hzz (xN_r xs i 1) e1) my_X10_drains mi_X10_drains ml_L_123 zd_0 zc_X10 rfl ⟨by decide, by decide⟩ hcs hl.1 rfl rfl (Nat.le_of_ble_eq_true rfl) dL_law_1040 (fun hr hz1 H locs hw => ?_)
  refine lv_aload_n S.1 S.2.1 dL_law_1043 rfl (lv_at hl 1 rfl) ?_
  refine Larg C hw.2.2.2 hl 1 (by decide) hi dL_law_1044 dL_law_1045 dL_law_1046 ic_1 dL_law_1047 dL_law_1048 ?_
  refine YcallVi (rest := [.int (i32 r)]) S hw (c_X11_drains hdj hz1 (xN_r xs i 1) e2) my_X11_drains mi_X11_drains ml_L_126 zd_68 zc_X11 rfl ⟨by decide, by decide⟩ hcs hl.1 rfl rfl (Nat.le_of_ble_eq_true rfl) dL_law_1049 (fun _ hz2 H locs hw => ?_)
  refine Yicmp_eq (tgt := 1413) S hr hr dL_law_1052 (by decide) (fun _ => ?_) (fun h => absurd rfl h)
  exact kk z2 H locs hz2 hK2 hN2 hw
theorem L_minutes (C : LC p s m c b L xs) {n : Int} {i : Nat} (hn : n ≤ 1000) (hi : i + 5 ≤ L) (hdj : Zdj ad) (hzz : Zok z) (hK : K z) (hN : JN n z) (hw : ZW D cA ad (LA s) (Zc z) s H locs) (hcs : cells ≤ room_1.cells ∧ slots ≤ room_1.slots) (hl : lv_has ls 4 [(3, .int (i32 (i : Int))), (2, .ref (ad 68)), (1, .ref (ad 0)), (0, .ref b)]) (kk : ∀ (z2 : ZI) (H1 : Heap) (locs1 : List Loc), Zok z2 → K z2 → JN (n + 1) z2 → ZW D cA ad (LA s) (Zc z2) s H1 locs1 → W p l e room_1 s m #[Value.ref b] below meth c H1 locs1 cells slots Q (F0 m 1413 ls [])) : W p l e room_1 s m #[Value.ref b] below meth c H locs cells slots Q (F0 m 1057 ls []) := by
  have S := C.1
  obtain ⟨r, z1, z2, e1, e2, hK2, hN2⟩ := t_minutes hK hN hn (xN xs i 1) (xN xs i 2) (xN xs i 3) (xN xs i 4)
  refine lv_aload_n S.1 S.2.1 dL_law_1057 rfl (lv_at hl 2 rfl) ?_
  refine Larg C hw.2.2.2 hl 1 (by decide) hi dL_law_1058 dL_law_1059 dL_law_1060 ic_1 dL_law_1061 dL_law_1062 ?_
  refine Larg C hw.2.2.2 hl 2 (by decide) hi dL_law_1063 dL_law_1064 dL_law_1065 ic_2 dL_law_1066 dL_law_1067 ?_
  refine Larg C hw.2.2.2 hl 3 (by decide) hi dL_law_1068 dL_law_1069 dL_law_1070 ic_3 dL_law_1071 dL_law_1072 ?_
  refine Larg C hw.2.2.2 hl 4 (by decide) hi dL_law_1073 dL_law_1074 dL_law_1075 ic_4 dL_law_1076 dL_law_1077 ?_
  refine YcallVi (rest := []) S hw (c_X10_minutes hdj hzz (xN_r xs i 1) (xN_r xs i 2) (xN_r xs i 3) (xN_r xs i 4) e1) my_X10_minutes mi_X10_minutes ml_L_127 zd_0 zc_X10 rfl ⟨by decide, by decide⟩ hcs hl.1 rfl rfl (Nat.le_of_ble_eq_true rfl) dL_law_1078 (fun hr hz1 H locs hw => ?_)
  refine lv_aload_n S.1 S.2.1 dL_law_1081 rfl (lv_at hl 1 rfl) ?_
  refine Larg C hw.2.2.2 hl 1 (by decide) hi dL_law_1082 dL_law_1083 dL_law_1084 ic_1 dL_law_1085 dL_law_1086 ?_
  refine Larg C hw.2.2.2 hl 2 (by decide) hi dL_law_1087 dL_law_1088 dL_law_1089 ic_2 dL_law_1090 dL_law_1091 ?_
  refine Larg C hw.2.2.2 hl 3 (by decide) hi dL_law_1092 dL_law_1093 dL_law_1094 ic_3 dL_law_1095 dL_law_1096 ?_
  refine Larg C hw.2.2.2 hl 4 (by decide) hi dL_law_1097 dL_law_1098 dL_law_1099 ic_4 dL_law_1100 dL_law_1101 ?_
  refine YcallVi (rest := [.int (i32 r)]) S hw (c_X11_minutes hdj hz1 (xN_r xs i 1) (xN_r xs i 2) (xN_r xs i 3) (xN_r xs i 4) e2) my_X11_minutes mi_X11_minutes ml_L_131 zd_68 zc_X11 rfl ⟨by decide, by decide⟩ hcs hl.1 rfl rfl (Nat.le_of_ble_eq_true rfl) dL_law_1102 (fun _ hz2 H locs hw => ?_)
  refine Yicmp_eq (tgt := 1413) S hr hr dL_law_1105 (by decide) (fun _ => ?_) (fun h => absurd rfl h)
  exact kk z2 H locs hz2 hK2 hN2 hw
theorem L_lane (C : LC p s m c b L xs) {n : Int} {i : Nat} (hn : n ≤ 1000) (hi : i + 5 ≤ L) (hdj : Zdj ad) (hzz : Zok z) (hK : K z) (hN : JN n z) (hw : ZW D cA ad (LA s) (Zc z) s H locs) (hcs : cells ≤ room_1.cells ∧ slots ≤ room_1.slots) (hl : lv_has ls 4 [(3, .int (i32 (i : Int))), (2, .ref (ad 68)), (1, .ref (ad 0)), (0, .ref b)]) (kk : ∀ (z2 : ZI) (H1 : Heap) (locs1 : List Loc), Zok z2 → K z2 → JN (n + 1) z2 → ZW D cA ad (LA s) (Zc z2) s H1 locs1 → W p l e room_1 s m #[Value.ref b] below meth c H1 locs1 cells slots Q (F0 m 1413 ls [])) : W p l e room_1 s m #[Value.ref b] below meth c H locs cells slots Q (F0 m 1110 ls []) := by
  have S := C.1
  obtain ⟨r, z1, z2, e1, e2, hK2, hN2⟩ := t_lane hK hN hn (xN xs i 1)
  refine lv_aload_n S.1 S.2.1 dL_law_1110 rfl (lv_at hl 2 rfl) ?_
  refine Larg C hw.2.2.2 hl 1 (by decide) hi dL_law_1111 dL_law_1112 dL_law_1113 ic_1 dL_law_1114 dL_law_1115 ?_
  refine YcallVi (rest := []) S hw (c_X10_lane hdj hzz (xN_r xs i 1) e1) my_X10_lane mi_X10_lane ml_L_132 zd_0 zc_X10 rfl ⟨by decide, by decide⟩ hcs hl.1 rfl rfl (Nat.le_of_ble_eq_true rfl) dL_law_1116 (fun hr hz1 H locs hw => ?_)
  refine lv_aload_n S.1 S.2.1 dL_law_1119 rfl (lv_at hl 1 rfl) ?_
  refine Larg C hw.2.2.2 hl 1 (by decide) hi dL_law_1120 dL_law_1121 dL_law_1122 ic_1 dL_law_1123 dL_law_1124 ?_
  refine YcallVi (rest := [.int (i32 r)]) S hw (c_X11_lane hdj hz1 (xN_r xs i 1) e2) my_X11_lane mi_X11_lane ml_L_135 zd_68 zc_X11 rfl ⟨by decide, by decide⟩ hcs hl.1 rfl rfl (Nat.le_of_ble_eq_true rfl) dL_law_1125 (fun _ hz2 H locs hw => ?_)
  refine Yicmp_eq (tgt := 1413) S hr hr dL_law_1128 (by decide) (fun _ => ?_) (fun h => absurd rfl h)
  exact kk z2 H locs hz2 hK2 hN2 hw
theorem L_lanes (C : LC p s m c b L xs) {n : Int} {i : Nat} (hn : n ≤ 1000) (hi : i + 5 ≤ L) (hdj : Zdj ad) (hzz : Zok z) (hK : K z) (hN : JN n z) (hw : ZW D cA ad (LA s) (Zc z) s H locs) (hcs : cells ≤ room_1.cells ∧ slots ≤ room_1.slots) (hl : lv_has ls 4 [(3, .int (i32 (i : Int))), (2, .ref (ad 68)), (1, .ref (ad 0)), (0, .ref b)]) (kk : ∀ (z2 : ZI) (H1 : Heap) (locs1 : List Loc), Zok z2 → K z2 → JN (n + 1) z2 → ZW D cA ad (LA s) (Zc z2) s H1 locs1 → W p l e room_1 s m #[Value.ref b] below meth c H1 locs1 cells slots Q (F0 m 1413 ls [])) : W p l e room_1 s m #[Value.ref b] below meth c H locs cells slots Q (F0 m 1133 ls []) := by
  have S := C.1
  obtain ⟨r, z1, z2, e1, e2, hK2, hN2⟩ := t_lanes hK hN hn (xN xs i 1) (xN xs i 2)
  refine lv_aload_n S.1 S.2.1 dL_law_1133 rfl (lv_at hl 2 rfl) ?_
  refine Larg C hw.2.2.2 hl 1 (by decide) hi dL_law_1134 dL_law_1135 dL_law_1136 ic_1 dL_law_1137 dL_law_1138 ?_
  refine Larg C hw.2.2.2 hl 2 (by decide) hi dL_law_1139 dL_law_1140 dL_law_1141 ic_2 dL_law_1142 dL_law_1143 ?_
  refine YcallVi (rest := []) S hw (c_X10_lanes hdj hzz (xN_r xs i 1) (xN_r xs i 2) e1) my_X10_lanes mi_X10_lanes ml_L_136 zd_0 zc_X10 rfl ⟨by decide, by decide⟩ hcs hl.1 rfl rfl (Nat.le_of_ble_eq_true rfl) dL_law_1144 (fun hr hz1 H locs hw => ?_)
  refine lv_aload_n S.1 S.2.1 dL_law_1147 rfl (lv_at hl 1 rfl) ?_
  refine Larg C hw.2.2.2 hl 1 (by decide) hi dL_law_1148 dL_law_1149 dL_law_1150 ic_1 dL_law_1151 dL_law_1152 ?_
  refine Larg C hw.2.2.2 hl 2 (by decide) hi dL_law_1153 dL_law_1154 dL_law_1155 ic_2 dL_law_1156 dL_law_1157 ?_
  refine YcallVi (rest := [.int (i32 r)]) S hw (c_X11_lanes hdj hz1 (xN_r xs i 1) (xN_r xs i 2) e2) my_X11_lanes mi_X11_lanes ml_L_139 zd_68 zc_X11 rfl ⟨by decide, by decide⟩ hcs hl.1 rfl rfl (Nat.le_of_ble_eq_true rfl) dL_law_1158 (fun _ hz2 H locs hw => ?_)
  refine Yicmp_eq (tgt := 1413) S hr hr dL_law_1161 (by decide) (fun _ => ?_) (fun h => absurd rfl h)
  exact kk z2 H locs hz2 hK2 hN2 hw
theorem L_queue (C : LC p s m c b L xs) {n : Int} {i : Nat} (hn : n ≤ 1000) (hi : i + 5 ≤ L) (hdj : Zdj ad) (hzz : Zok z) (hK : K z) (hN : JN n z) (hw : ZW D cA ad (LA s) (Zc z) s H locs) (hcs : cells ≤ room_1.cells ∧ slots ≤ room_1.slots) (hl : lv_has ls 4 [(3, .int (i32 (i : Int))), (2, .ref (ad 68)), (1, .ref (ad 0)), (0, .ref b)]) (kk : ∀ (z2 : ZI) (H1 : Heap) (locs1 : List Loc), Zok z2 → K z2 → JN (n + 1) z2 → ZW D cA ad (LA s) (Zc z2) s H1 locs1 → W p l e room_1 s m #[Value.ref b] below meth c H1 locs1 cells slots Q (F0 m 1413 ls [])) : W p l e room_1 s m #[Value.ref b] below meth c H locs cells slots Q (F0 m 1166 ls []) := by
  have S := C.1
  obtain ⟨q, hqe, hq01⟩ : ∃ q : Int, q = (if xN xs i 2 = 0 then 0 else 1) ∧ (q = 0 ∨ q = 1) := ⟨_, rfl, by split <;> simp⟩
  have hq : InR q := by rcases hq01 with e | e <;> rw [e] <;> decide
  obtain ⟨r, z1, z2, e1, e2, hK2, hN2⟩ := t_queue hK hN hn (xN xs i 1) q hq01
  refine lv_aload_n S.1 S.2.1 dL_law_1166 rfl (lv_at hl 2 rfl) ?_
  refine Larg C hw.2.2.2 hl 1 (by decide) hi dL_law_1167 dL_law_1168 dL_law_1169 ic_1 dL_law_1170 dL_law_1171 ?_
  refine Larg C hw.2.2.2 hl 2 (by decide) hi dL_law_1172 dL_law_1173 dL_law_1174 ic_2 dL_law_1175 dL_law_1176 ?_
  have hQ : ∀ {rest : List Value} {H : Heap} {locs : List Loc}, W p l e room_1 s m #[Value.ref b] below meth c H locs cells slots Q (F0 m 1185 ls (.int (i32 q) :: rest)) → W p l e room_1 s m #[Value.ref b] below meth c H locs cells slots Q (F0 m 1177 ls (.int (i32 (xN xs i 2)) :: rest)) := by
    intro rest H locs kq
    refine Yif_eq (tgt := 1184) S (xN_r xs i 2) dL_law_1177 (by decide) (fun c1 => ?_) (fun c1 => ?_)
    · refine lv_iconst (v := i32 0) S.1 S.2.1 dL_law_1184 rfl ?_
      rw [if_pos c1] at hqe
      rw [hqe] at kq
      exact kq
    · refine lv_iconst (v := i32 1) S.1 S.2.1 dL_law_1180 rfl ?_
      rw [if_neg c1] at hqe
      refine lv_goto (tgt := 1185) S.1 S.2.1 dL_law_1181 (by decide) ?_
      rw [hqe] at kq
      exact kq
  refine hQ ?_
  refine YcallVi (rest := []) S hw (c_X10_queue hdj hzz (xN_r xs i 1) hq e1) my_X10_queue mi_X10_queue ml_L_140 zd_0 zc_X10 rfl ⟨by decide, by decide⟩ hcs hl.1 rfl rfl (Nat.le_of_ble_eq_true rfl) dL_law_1185 (fun hr hz1 H locs hw => ?_)
  refine lv_aload_n S.1 S.2.1 dL_law_1188 rfl (lv_at hl 1 rfl) ?_
  refine Larg C hw.2.2.2 hl 1 (by decide) hi dL_law_1189 dL_law_1190 dL_law_1191 ic_1 dL_law_1192 dL_law_1193 ?_
  refine Larg C hw.2.2.2 hl 2 (by decide) hi dL_law_1194 dL_law_1195 dL_law_1196 ic_2 dL_law_1197 dL_law_1198 ?_
  have hQ : ∀ {rest : List Value} {H : Heap} {locs : List Loc}, W p l e room_1 s m #[Value.ref b] below meth c H locs cells slots Q (F0 m 1207 ls (.int (i32 q) :: rest)) → W p l e room_1 s m #[Value.ref b] below meth c H locs cells slots Q (F0 m 1199 ls (.int (i32 (xN xs i 2)) :: rest)) := by
    intro rest H locs kq
    refine Yif_eq (tgt := 1206) S (xN_r xs i 2) dL_law_1199 (by decide) (fun c1 => ?_) (fun c1 => ?_)
    · refine lv_iconst (v := i32 0) S.1 S.2.1 dL_law_1206 rfl ?_
      rw [if_pos c1] at hqe
      rw [hqe] at kq
      exact kq
    · refine lv_iconst (v := i32 1) S.1 S.2.1 dL_law_1202 rfl ?_
      rw [if_neg c1] at hqe
      refine lv_goto (tgt := 1207) S.1 S.2.1 dL_law_1203 (by decide) ?_
      rw [hqe] at kq
      exact kq
  refine hQ ?_
  refine YcallVi (rest := [.int (i32 r)]) S hw (c_X11_queue hdj hz1 (xN_r xs i 1) hq e2) my_X11_queue mi_X11_queue ml_L_144 zd_68 zc_X11 rfl ⟨by decide, by decide⟩ hcs hl.1 rfl rfl (Nat.le_of_ble_eq_true rfl) dL_law_1207 (fun _ hz2 H locs hw => ?_)
  refine Yicmp_eq (tgt := 1413) S hr hr dL_law_1210 (by decide) (fun _ => ?_) (fun h => absurd rfl h)
  exact kk z2 H locs hz2 hK2 hN2 hw
theorem L_list (C : LC p s m c b L xs) {n : Int} {i : Nat} (hn : n ≤ 1000) (hi : i + 5 ≤ L) (hdj : Zdj ad) (hzz : Zok z) (hK : K z) (hN : JN n z) (hw : ZW D cA ad (LA s) (Zc z) s H locs) (hcs : cells ≤ room_1.cells ∧ slots ≤ room_1.slots) (hl : lv_has ls 4 [(3, .int (i32 (i : Int))), (2, .ref (ad 68)), (1, .ref (ad 0)), (0, .ref b)]) (kk : ∀ (z2 : ZI) (H1 : Heap) (locs1 : List Loc), Zok z2 → K z2 → JN (n + 1) z2 → ZW D cA ad (LA s) (Zc z2) s H1 locs1 → W p l e room_1 s m #[Value.ref b] below meth c H1 locs1 cells slots Q (F0 m 1413 ls [])) : W p l e room_1 s m #[Value.ref b] below meth c H locs cells slots Q (F0 m 1215 ls []) := by
  have S := C.1
  obtain ⟨r, z1, z2, e1, e2, hK2, hN2⟩ := t_list hK hN hn (xN xs i 1) (xN xs i 2) (xN_r xs i 2)
  refine lv_aload_n S.1 S.2.1 dL_law_1215 rfl (lv_at hl 2 rfl) ?_
  refine Larg C hw.2.2.2 hl 1 (by decide) hi dL_law_1216 dL_law_1217 dL_law_1218 ic_1 dL_law_1219 dL_law_1220 ?_
  refine Larg C hw.2.2.2 hl 2 (by decide) hi dL_law_1221 dL_law_1222 dL_law_1223 ic_2 dL_law_1224 dL_law_1225 ?_
  refine YcallVi (rest := []) S hw (c_X10_list hdj hzz (xN_r xs i 1) (xN_r xs i 2) e1) my_X10_list mi_X10_list ml_L_145 zd_0 zc_X10 rfl ⟨by decide, by decide⟩ hcs hl.1 rfl rfl (Nat.le_of_ble_eq_true rfl) dL_law_1226 (fun hr hz1 H locs hw => ?_)
  refine lv_aload_n S.1 S.2.1 dL_law_1229 rfl (lv_at hl 1 rfl) ?_
  refine Larg C hw.2.2.2 hl 1 (by decide) hi dL_law_1230 dL_law_1231 dL_law_1232 ic_1 dL_law_1233 dL_law_1234 ?_
  refine Larg C hw.2.2.2 hl 2 (by decide) hi dL_law_1235 dL_law_1236 dL_law_1237 ic_2 dL_law_1238 dL_law_1239 ?_
  refine YcallVi (rest := [.int (i32 r)]) S hw (c_X11_list hdj hz1 (xN_r xs i 1) (xN_r xs i 2) e2) my_X11_list mi_X11_list ml_L_148 zd_68 zc_X11 rfl ⟨by decide, by decide⟩ hcs hl.1 rfl rfl (Nat.le_of_ble_eq_true rfl) dL_law_1240 (fun _ hz2 H locs hw => ?_)
  refine Yicmp_eq (tgt := 1413) S hr hr dL_law_1243 (by decide) (fun _ => ?_) (fun h => absurd rfl h)
  exact kk z2 H locs hz2 hK2 hN2 hw
theorem L_goes (C : LC p s m c b L xs) {n : Int} {i : Nat} (hn : n ≤ 1000) (hi : i + 5 ≤ L) (hdj : Zdj ad) (hzz : Zok z) (hK : K z) (hN : JN n z) (hw : ZW D cA ad (LA s) (Zc z) s H locs) (hcs : cells ≤ room_1.cells ∧ slots ≤ room_1.slots) (hl : lv_has ls 4 [(3, .int (i32 (i : Int))), (2, .ref (ad 68)), (1, .ref (ad 0)), (0, .ref b)]) (kk : ∀ (z2 : ZI) (H1 : Heap) (locs1 : List Loc), Zok z2 → K z2 → JN (n + 1) z2 → ZW D cA ad (LA s) (Zc z2) s H1 locs1 → W p l e room_1 s m #[Value.ref b] below meth c H1 locs1 cells slots Q (F0 m 1413 ls [])) : W p l e room_1 s m #[Value.ref b] below meth c H locs cells slots Q (F0 m 1248 ls []) := by
  have S := C.1
  obtain ⟨r, z1, z2, e1, e2, hK2, hN2⟩ := t_goes hK hN hn (xN xs i 1)
  refine lv_aload_n S.1 S.2.1 dL_law_1248 rfl (lv_at hl 2 rfl) ?_
  refine Larg C hw.2.2.2 hl 1 (by decide) hi dL_law_1249 dL_law_1250 dL_law_1251 ic_1 dL_law_1252 dL_law_1253 ?_
  refine YcallVi (rest := []) S hw (c_X10_goes hdj hzz (xN_r xs i 1) e1) my_X10_goes mi_X10_goes ml_L_149 zd_0 zc_X10 rfl ⟨by decide, by decide⟩ hcs hl.1 rfl rfl (Nat.le_of_ble_eq_true rfl) dL_law_1254 (fun hr hz1 H locs hw => ?_)
  refine lv_aload_n S.1 S.2.1 dL_law_1257 rfl (lv_at hl 1 rfl) ?_
  refine Larg C hw.2.2.2 hl 1 (by decide) hi dL_law_1258 dL_law_1259 dL_law_1260 ic_1 dL_law_1261 dL_law_1262 ?_
  refine YcallVi (rest := [.int (i32 r)]) S hw (c_X11_goes hdj hz1 (xN_r xs i 1) e2) my_X11_goes mi_X11_goes ml_L_152 zd_68 zc_X11 rfl ⟨by decide, by decide⟩ hcs hl.1 rfl rfl (Nat.le_of_ble_eq_true rfl) dL_law_1263 (fun _ hz2 H locs hw => ?_)
  refine Yicmp_eq (tgt := 1413) S hr hr dL_law_1266 (by decide) (fun _ => ?_) (fun h => absurd rfl h)
  exact kk z2 H locs hz2 hK2 hN2 hw
theorem L_count (C : LC p s m c b L xs) {n : Int} {i : Nat} (hn : n ≤ 1000) (hi : i + 5 ≤ L) (hdj : Zdj ad) (hzz : Zok z) (hK : K z) (hN : JN n z) (hw : ZW D cA ad (LA s) (Zc z) s H locs) (hcs : cells ≤ room_1.cells ∧ slots ≤ room_1.slots) (hl : lv_has ls 4 [(3, .int (i32 (i : Int))), (2, .ref (ad 68)), (1, .ref (ad 0)), (0, .ref b)]) (kk : ∀ (z2 : ZI) (H1 : Heap) (locs1 : List Loc), Zok z2 → K z2 → JN (n + 1) z2 → ZW D cA ad (LA s) (Zc z2) s H1 locs1 → W p l e room_1 s m #[Value.ref b] below meth c H1 locs1 cells slots Q (F0 m 1413 ls [])) : W p l e room_1 s m #[Value.ref b] below meth c H locs cells slots Q (F0 m 1271 ls []) := by
  have S := C.1
  obtain ⟨r, z1, z2, e1, e2, hK2, hN2⟩ := t_count hK hN hn (xN xs i 1) (xN xs i 2) (xN xs i 3)
  refine lv_aload_n S.1 S.2.1 dL_law_1271 rfl (lv_at hl 2 rfl) ?_
  refine Larg C hw.2.2.2 hl 1 (by decide) hi dL_law_1272 dL_law_1273 dL_law_1274 ic_1 dL_law_1275 dL_law_1276 ?_
  refine Larg C hw.2.2.2 hl 2 (by decide) hi dL_law_1277 dL_law_1278 dL_law_1279 ic_2 dL_law_1280 dL_law_1281 ?_
  refine Larg C hw.2.2.2 hl 3 (by decide) hi dL_law_1282 dL_law_1283 dL_law_1284 ic_3 dL_law_1285 dL_law_1286 ?_
  refine YcallVi (rest := []) S hw (c_X10_count hdj hzz (xN_r xs i 1) (xN_r xs i 2) (xN_r xs i 3) e1) my_X10_count mi_X10_count ml_L_153 zd_0 zc_X10 rfl ⟨by decide, by decide⟩ hcs hl.1 rfl rfl (Nat.le_of_ble_eq_true rfl) dL_law_1287 (fun hr hz1 H locs hw => ?_)
  refine lv_aload_n S.1 S.2.1 dL_law_1290 rfl (lv_at hl 1 rfl) ?_
  refine Larg C hw.2.2.2 hl 1 (by decide) hi dL_law_1291 dL_law_1292 dL_law_1293 ic_1 dL_law_1294 dL_law_1295 ?_
  refine Larg C hw.2.2.2 hl 2 (by decide) hi dL_law_1296 dL_law_1297 dL_law_1298 ic_2 dL_law_1299 dL_law_1300 ?_
  refine Larg C hw.2.2.2 hl 3 (by decide) hi dL_law_1301 dL_law_1302 dL_law_1303 ic_3 dL_law_1304 dL_law_1305 ?_
  refine YcallVi (rest := [.int (i32 r)]) S hw (c_X11_count hdj hz1 (xN_r xs i 1) (xN_r xs i 2) (xN_r xs i 3) e2) my_X11_count mi_X11_count ml_L_156 zd_68 zc_X11 rfl ⟨by decide, by decide⟩ hcs hl.1 rfl rfl (Nat.le_of_ble_eq_true rfl) dL_law_1306 (fun _ hz2 H locs hw => ?_)
  refine Yicmp_eq (tgt := 1413) S hr hr dL_law_1309 (by decide) (fun _ => ?_) (fun h => absurd rfl h)
  exact kk z2 H locs hz2 hK2 hN2 hw
theorem L_counted (C : LC p s m c b L xs) {n : Int} {i : Nat} (hn : n ≤ 1000) (hi : i + 5 ≤ L) (hdj : Zdj ad) (hzz : Zok z) (hK : K z) (hN : JN n z) (hw : ZW D cA ad (LA s) (Zc z) s H locs) (hcs : cells ≤ room_1.cells ∧ slots ≤ room_1.slots) (hl : lv_has ls 4 [(3, .int (i32 (i : Int))), (2, .ref (ad 68)), (1, .ref (ad 0)), (0, .ref b)]) (kk : ∀ (z2 : ZI) (H1 : Heap) (locs1 : List Loc), Zok z2 → K z2 → JN (n + 1) z2 → ZW D cA ad (LA s) (Zc z2) s H1 locs1 → W p l e room_1 s m #[Value.ref b] below meth c H1 locs1 cells slots Q (F0 m 1413 ls [])) : W p l e room_1 s m #[Value.ref b] below meth c H locs cells slots Q (F0 m 1314 ls []) := by
  have S := C.1
  obtain ⟨r, z1, z2, e1, e2, hK2, hN2⟩ := t_counted hK hN hn (xN xs i 1) (xN xs i 2) (xN xs i 3)
  refine lv_aload_n S.1 S.2.1 dL_law_1314 rfl (lv_at hl 2 rfl) ?_
  refine Larg C hw.2.2.2 hl 1 (by decide) hi dL_law_1315 dL_law_1316 dL_law_1317 ic_1 dL_law_1318 dL_law_1319 ?_
  refine Larg C hw.2.2.2 hl 2 (by decide) hi dL_law_1320 dL_law_1321 dL_law_1322 ic_2 dL_law_1323 dL_law_1324 ?_
  refine Larg C hw.2.2.2 hl 3 (by decide) hi dL_law_1325 dL_law_1326 dL_law_1327 ic_3 dL_law_1328 dL_law_1329 ?_
  refine YcallVi (rest := []) S hw (c_X10_counted hdj hzz (xN_r xs i 1) (xN_r xs i 2) (xN_r xs i 3) e1) my_X10_counted mi_X10_counted ml_L_157 zd_0 zc_X10 rfl ⟨by decide, by decide⟩ hcs hl.1 rfl rfl (Nat.le_of_ble_eq_true rfl) dL_law_1330 (fun hr hz1 H locs hw => ?_)
  refine lv_aload_n S.1 S.2.1 dL_law_1333 rfl (lv_at hl 1 rfl) ?_
  refine Larg C hw.2.2.2 hl 1 (by decide) hi dL_law_1334 dL_law_1335 dL_law_1336 ic_1 dL_law_1337 dL_law_1338 ?_
  refine Larg C hw.2.2.2 hl 2 (by decide) hi dL_law_1339 dL_law_1340 dL_law_1341 ic_2 dL_law_1342 dL_law_1343 ?_
  refine Larg C hw.2.2.2 hl 3 (by decide) hi dL_law_1344 dL_law_1345 dL_law_1346 ic_3 dL_law_1347 dL_law_1348 ?_
  refine YcallVi (rest := [.int (i32 r)]) S hw (c_X11_counted hdj hz1 (xN_r xs i 1) (xN_r xs i 2) (xN_r xs i 3) e2) my_X11_counted mi_X11_counted ml_L_160 zd_68 zc_X11 rfl ⟨by decide, by decide⟩ hcs hl.1 rfl rfl (Nat.le_of_ble_eq_true rfl) dL_law_1349 (fun _ hz2 H locs hw => ?_)
  refine Yicmp_eq (tgt := 1413) S hr hr dL_law_1352 (by decide) (fun _ => ?_) (fun h => absurd rfl h)
  exact kk z2 H locs hz2 hK2 hN2 hw
theorem L_off (C : LC p s m c b L xs) {n : Int} {i : Nat} (hn : n ≤ 1000) (hi : i + 5 ≤ L) (hdj : Zdj ad) (hzz : Zok z) (hK : K z) (hN : JN n z) (hw : ZW D cA ad (LA s) (Zc z) s H locs) (hcs : cells ≤ room_1.cells ∧ slots ≤ room_1.slots) (hl : lv_has ls 4 [(3, .int (i32 (i : Int))), (2, .ref (ad 68)), (1, .ref (ad 0)), (0, .ref b)]) (kk : ∀ (z2 : ZI) (H1 : Heap) (locs1 : List Loc), Zok z2 → K z2 → JN (n + 1) z2 → ZW D cA ad (LA s) (Zc z2) s H1 locs1 → W p l e room_1 s m #[Value.ref b] below meth c H1 locs1 cells slots Q (F0 m 1413 ls [])) : W p l e room_1 s m #[Value.ref b] below meth c H locs cells slots Q (F0 m 1357 ls []) := by
  have S := C.1
  obtain ⟨r, z1, z2, e1, e2, hK2, hN2⟩ := t_off hK hN hn (xN xs i 1) (xN xs i 2)
  refine lv_aload_n S.1 S.2.1 dL_law_1357 rfl (lv_at hl 2 rfl) ?_
  refine Larg C hw.2.2.2 hl 1 (by decide) hi dL_law_1358 dL_law_1359 dL_law_1360 ic_1 dL_law_1361 dL_law_1362 ?_
  refine Larg C hw.2.2.2 hl 2 (by decide) hi dL_law_1363 dL_law_1364 dL_law_1365 ic_2 dL_law_1366 dL_law_1367 ?_
  refine YcallVi (rest := []) S hw (c_X10_off hdj hzz (xN_r xs i 1) (xN_r xs i 2) e1) my_X10_off mi_X10_off ml_L_161 zd_0 zc_X10 rfl ⟨by decide, by decide⟩ hcs hl.1 rfl rfl (Nat.le_of_ble_eq_true rfl) dL_law_1368 (fun hr hz1 H locs hw => ?_)
  refine lv_aload_n S.1 S.2.1 dL_law_1371 rfl (lv_at hl 1 rfl) ?_
  refine Larg C hw.2.2.2 hl 1 (by decide) hi dL_law_1372 dL_law_1373 dL_law_1374 ic_1 dL_law_1375 dL_law_1376 ?_
  refine Larg C hw.2.2.2 hl 2 (by decide) hi dL_law_1377 dL_law_1378 dL_law_1379 ic_2 dL_law_1380 dL_law_1381 ?_
  refine YcallVi (rest := [.int (i32 r)]) S hw (c_X11_off hdj hz1 (xN_r xs i 1) (xN_r xs i 2) e2) my_X11_off mi_X11_off ml_L_164 zd_68 zc_X11 rfl ⟨by decide, by decide⟩ hcs hl.1 rfl rfl (Nat.le_of_ble_eq_true rfl) dL_law_1382 (fun _ hz2 H locs hw => ?_)
  refine Yicmp_eq (tgt := 1413) S hr hr dL_law_1385 (by decide) (fun _ => ?_) (fun h => absurd rfl h)
  exact kk z2 H locs hz2 hK2 hN2 hw
theorem L_total (C : LC p s m c b L xs) {n : Int} {i : Nat} (hn : n ≤ 1000) (hi : i + 5 ≤ L) (hdj : Zdj ad) (hzz : Zok z) (hK : K z) (hN : JN n z) (hw : ZW D cA ad (LA s) (Zc z) s H locs) (hcs : cells ≤ room_1.cells ∧ slots ≤ room_1.slots) (hl : lv_has ls 4 [(3, .int (i32 (i : Int))), (2, .ref (ad 68)), (1, .ref (ad 0)), (0, .ref b)]) (kk : ∀ (z2 : ZI) (H1 : Heap) (locs1 : List Loc), Zok z2 → K z2 → JN (n + 1) z2 → ZW D cA ad (LA s) (Zc z2) s H1 locs1 → W p l e room_1 s m #[Value.ref b] below meth c H1 locs1 cells slots Q (F0 m 1413 ls [])) : W p l e room_1 s m #[Value.ref b] below meth c H locs cells slots Q (F0 m 1390 ls []) := by
  have S := C.1
  obtain ⟨r, z1, z2, e1, e2, hK2, hN2⟩ := t_total hK hN hn (xN xs i 1) (xN_r xs i 1)
  refine lv_aload_n S.1 S.2.1 dL_law_1390 rfl (lv_at hl 2 rfl) ?_
  refine Larg C hw.2.2.2 hl 1 (by decide) hi dL_law_1391 dL_law_1392 dL_law_1393 ic_1 dL_law_1394 dL_law_1395 ?_
  refine YcallVi (rest := []) S hw (c_X10_total hdj hzz (xN_r xs i 1) e1) my_X10_total mi_X10_total ml_L_165 zd_0 zc_X10 rfl ⟨by decide, by decide⟩ hcs hl.1 rfl rfl (Nat.le_of_ble_eq_true rfl) dL_law_1396 (fun hr hz1 H locs hw => ?_)
  refine lv_aload_n S.1 S.2.1 dL_law_1399 rfl (lv_at hl 1 rfl) ?_
  refine Larg C hw.2.2.2 hl 1 (by decide) hi dL_law_1400 dL_law_1401 dL_law_1402 ic_1 dL_law_1403 dL_law_1404 ?_
  refine YcallVi (rest := [.int (i32 r)]) S hw (c_X11_total hdj hz1 (xN_r xs i 1) e2) my_X11_total mi_X11_total ml_L_168 zd_68 zc_X11 rfl ⟨by decide, by decide⟩ hcs hl.1 rfl rfl (Nat.le_of_ble_eq_true rfl) dL_law_1405 (fun _ hz2 H locs hw => ?_)
  refine Yicmp_eq (tgt := 1413) S hr hr dL_law_1408 (by decide) (fun _ => ?_) (fun h => absurd rfl h)
  exact kk z2 H locs hz2 hK2 hN2 hw
end LAWROWS
