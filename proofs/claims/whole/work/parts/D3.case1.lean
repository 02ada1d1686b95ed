/-! the law's cases: part, fixed, copies, alone, none, keys, values, kind, size, walk, isSame -/
theorem lz_part {l : Launch} {D : va_G} {Y : Nat → ClassId} {Sc Sr : GS} {hs : Nat} {yl : ClassId} {o : Nat} {c0 : Value} {b r n cap : Nat} {dq : Nat → Nat} {A : AS} (hfl : l.stackTraces = false) (hc : Rc b n Sc hs A) (hq : Rq r dq cap Sr hs A) (hn : n ≤ 511) (x1 x2 x3 x4 : Int32) : lZ l yL_part (lWs yL_part cL_part 7 [(0, 14, 17, 13), (0, 14, 21, 15), (0, 14, 25, 17)]) [va_rf (some b), .int x1, .int x2, .int x3, .int x4, va_rf (some o)] D Y Sc hs .long yl o c0 b r (n + 1) (fun c v => c = .long v.toInt64) (fun hs2 => f_X5_part Sr hs2 r x1 x2 x3 x4) := by
  exact lZ_res (lx := [1, 2, 4]) (rm1 := rmL_part) (rm2 := rmLx_part) (g := fun v => .long v.toInt64) hc hn ⟨by decide, by decide⟩ ⟨(Nat.le_of_ble_eq_true rfl), (Nat.le_of_ble_eq_true rfl), (Nat.le_of_ble_eq_true rfl), (Nat.le_of_ble_eq_true rfl)⟩ ⟨(Nat.le_of_ble_eq_true rfl), (Nat.le_of_ble_eq_true rfl), (Nat.le_of_ble_eq_true rfl), (Nat.le_of_ble_eq_true rfl)⟩ (c_part hc (by omega) x1 x2 x3 x4) (fun hs2 h2 => r_part (hq.mono h2) hc.1 (by have := hc.2.1; omega) x1 x2 x3 x4) (fun v => rfl) (fun v S' hs' e => cL_part_r e hc.tag) (fun x i e hi => cL_part_x hfl e hc.tag hi)
set_option maxHeartbeats 4000000 in
set_option maxRecDepth 100000 in
theorem lc_part {p : Program} {l : Launch} {e : Env} {R : Room} {s : State} {m : MethodId} {args : Array Value} {below : List Frame} {meth : Method} {c : Code} {H : Heap} {locs : List Loc} {cells slots : Nat} {Q : State → Prop} {ls : Array Slot} {D : va_G} {Y : Nat → ClassId} {Af : Nat → Prop} {rt : Option FieldType} {yl yd : ClassId} {o1 o2 b r n bs L i : Nat} {xs : Nat → Int32} (C : lCx p l s m args meth c rt D Y Af R yl yd bs L xs) (I : lInv D Y Af s.heap yl yd o1 o2 b r n H locs) (hn : n ≤ 511) (hi : i + 5 ≤ L) (hls : lv_has ls 9 (lLs bs b r o1 o2 i)) (hf : cells + 8 ≤ R.cells ∧ slots + 6000 ≤ R.slots)
    (kk : ∀ (H1 : Heap) (locs1 : List Loc) (ls1 : Array Slot), lInv D Y Af s.heap yl yd o1 o2 b r (n + 1) H1 locs1 → lv_has ls1 9 (lLs bs b r o1 o2 i) → W p l e R s m args below meth c H1 locs1 (cells + 8) (slots + 6000) Q (F0 m 3541 ls1 [])) : W p l e R s m args below meth c H locs cells slots Q (F0 m 240 ls []) := by
  obtain ⟨hF, hNc, hA1, hA2, hfl, hX, hbl, hbA, hL, hR⟩ := C
  obtain ⟨Sc, Sr, dq, cap, A, v1, v2, hJ, hc, hq⟩ := I
  have hx := hF.1
  have hb := hF.2.1
  have g5 : lRm5 rm_X5_part := ⟨(Nat.le_of_ble_eq_true rfl), (Nat.le_of_ble_eq_true rfl), (Nat.le_of_ble_eq_true rfl), (Nat.le_of_ble_eq_true rfl)⟩
  obtain ⟨rm, k, c1, Sc', hs', hrm, hMet, hOK⟩ := lz_part (D := D) (Y := Y) (yl := yl) (o := o1) (c0 := v1) hfl hc hq hn (xs (i + 1)) (xs (i + 2)) (xs (i + 3)) (xs (i + 4))
  refine g_aload_n hx hb dL_law_240 rfl (lv_at hls 1 rfl) ?_
  refine l_arg (jj := 1) hx hb hX hbl hbA hJ.1.2.2.2.1 (lv_at hls 0 rfl) (lv_at hls 5 rfl) (by omega) hL dL_law_241 dL_law_242 dL_law_244 (by decide) dL_law_245 dL_law_246 ?_
  refine l_arg (jj := 2) hx hb hX hbl hbA hJ.1.2.2.2.1 (lv_at hls 0 rfl) (lv_at hls 5 rfl) (by omega) hL dL_law_247 dL_law_248 dL_law_250 (by decide) dL_law_251 dL_law_252 ?_
  refine l_arg (jj := 3) hx hb hX hbl hbA hJ.1.2.2.2.1 (lv_at hls 0 rfl) (lv_at hls 5 rfl) (by omega) hL dL_law_253 dL_law_254 dL_law_256 (by decide) dL_law_257 dL_law_258 ?_
  refine l_arg (jj := 4) hx hb hX hbl hbA hJ.1.2.2.2.1 (lv_at hls 0 rfl) (lv_at hls 5 rfl) (by omega) hL dL_law_259 dL_law_260 dL_law_262 (by decide) dL_law_263 dL_law_264 ?_
  refine g_aload_n hx hb dL_law_265 rfl (lv_at hls 3 rfl) ?_
  refine l_callW (rest := []) hF hNc hA1 hJ hq.fre hMet kL_part u404 u405 rfl hls.1 rfl (Nat.le_of_ble_eq_true rfl) dL_law_266 (hrm.fit hR (Nat.le_of_ble_eq_true rfl)) (hrm.fit2 hf) (fun H1 locs1 z1 z2 J1 => ?_)
  obtain ⟨v, Sr', hs3, dq', cap', A', h5, hle, hk, hOk, hc', hq'⟩ := hOK H1.size z1
  refine lv_istore (i := 6) (lv' := (6, .int k) :: lLs bs b r o1 o2 i) hx hb dL_law_269 hls (by decide) rfl (fun ls1 hl1 => ?_)
  refine g_aload_n hx hb dL_law_271 rfl (lv_at hl1 3 rfl) ?_
  refine l_arg (jj := 1) hx hb hX hbl hbA J1.1.2.2.2.1 (lv_at hl1 1 rfl) (lv_at hl1 6 rfl) (by omega) hL dL_law_272 dL_law_273 dL_law_275 (by decide) dL_law_276 dL_law_277 ?_
  refine l_arg (jj := 2) hx hb hX hbl hbA J1.1.2.2.2.1 (lv_at hl1 1 rfl) (lv_at hl1 6 rfl) (by omega) hL dL_law_278 dL_law_279 dL_law_281 (by decide) dL_law_282 dL_law_283 ?_
  refine l_arg (jj := 3) hx hb hX hbl hbA J1.1.2.2.2.1 (lv_at hl1 1 rfl) (lv_at hl1 6 rfl) (by omega) hL dL_law_284 dL_law_285 dL_law_287 (by decide) dL_law_288 dL_law_289 ?_
  refine l_arg (jj := 4) hx hb hX hbl hbA J1.1.2.2.2.1 (lv_at hl1 1 rfl) (lv_at hl1 6 rfl) (by omega) hL dL_law_290 dL_law_291 dL_law_293 (by decide) dL_law_294 dL_law_295 ?_
  have h5 : f_X5_part Sr H1.size r (xs (i + 1)) (xs (i + 2)) (xs (i + 3)) (xs (i + 4)) = some (v, Sr', hs3) := h5
  refine l_callR (As := [.int (xs (i + 1)), .int (xs (i + 2)), .int (xs (i + 3)), .int (xs (i + 4))]) (rest := []) hF J1 hc'.fre (c_X5_part h5) k_X5_part u1136 u1137 u1138 rfl rfl hq.tag rfl hl1.1 rfl (Nat.le_of_ble_eq_true rfl) dL_law_296 (g5.fit hR (Nat.le_of_ble_eq_true rfl)) (lRm5.fit2 hrm g5 hf) (fun H2 locs2 z3 z4 J2 => ?_)
  refine lv_istore (i := 7) (lv' := (7, .int v) :: (6, .int k) :: lLs bs b r o1 o2 i) hx hb dL_law_299 hl1 (by decide) rfl (fun ls2 hl2 => ?_)
  refine l_thr hF J2 (hc'.mono z4).fre hq'.tag hk (lv_at hl2 4 rfl) (lv_at hl2 1 rfl) hl2.1 u1132 u1133 u1134 hR (lRm5.fit2 hrm g5 hf) dL_law_301 dL_law_302 dL_law_305 dL_law_307 (fun H3 locs3 z5 J3 => ?_)
  refine l_cmpI hF hA1 J3 (lv_at hl2 5 rfl) (lv_at hl2 1 rfl) (lv_at hl2 0 rfl) hOk dL_law_312 dL_law_314 dL_law_317 dL_law_318 dL_law_319 dL_law_320 dL_law_322 dL_law_323 dL_law_324 dL_law_329 (by decide) ?_
  refine W.widen (lRm5.fit3 (slots := slots) hrm g5).1 (lRm5.fit3 (cells := cells) hrm g5).2 (kk H3 locs3 ls2 ⟨Sc', Sr', dq', cap', A', c1, v2, J3, ?_, ?_⟩ (lv_sub hl2 [2, 3, 4, 5, 6, 7] rfl))
  · exact hc'.mono (by omega)
  · exact hq'.mono (by omega)
theorem lz_fixed {l : Launch} {D : va_G} {Y : Nat → ClassId} {Sc Sr : GS} {hs : Nat} {yl : ClassId} {o : Nat} {c0 : Value} {b r n cap : Nat} {dq : Nat → Nat} {A : AS} (hfl : l.stackTraces = false) (hc : Rc b n Sc hs A) (hq : Rq r dq cap Sr hs A) (hn : n ≤ 511) (x1 x2 : Int32) : lZ l yL_fixed (lWs yL_fixed cL_fixed 5 [(0, 10, 13, 13), (0, 10, 17, 15)]) [va_rf (some b), .int x1, .int x2, va_rf (some o)] D Y Sc hs .long yl o c0 b r (n + 1) (fun c v => c = .long v.toInt64) (fun hs2 => rL hs2 (f_X5_fixed Sr r x1 x2)) := by
  exact lZ_res (lx := [1, 2]) (rm1 := rmL_fixed) (rm2 := rmLx_fixed) (g := fun v => .long v.toInt64) hc hn ⟨by decide, by decide⟩ ⟨(Nat.le_of_ble_eq_true rfl), (Nat.le_of_ble_eq_true rfl), (Nat.le_of_ble_eq_true rfl), (Nat.le_of_ble_eq_true rfl)⟩ ⟨(Nat.le_of_ble_eq_true rfl), (Nat.le_of_ble_eq_true rfl), (Nat.le_of_ble_eq_true rfl), (Nat.le_of_ble_eq_true rfl)⟩ (c_fixed hc (by omega) x1 x2) (fun hs2 h2 => r_fixed (hq.mono h2) hc.1 x1 x2) (fun v => rfl) (fun v S' hs' e => cL_fixed_r e hc.tag) (fun x i e hi => cL_fixed_x hfl e hc.tag hi)
set_option maxHeartbeats 4000000 in
set_option maxRecDepth 100000 in
theorem lc_fixed {p : Program} {l : Launch} {e : Env} {R : Room} {s : State} {m : MethodId} {args : Array Value} {below : List Frame} {meth : Method} {c : Code} {H : Heap} {locs : List Loc} {cells slots : Nat} {Q : State → Prop} {ls : Array Slot} {D : va_G} {Y : Nat → ClassId} {Af : Nat → Prop} {rt : Option FieldType} {yl yd : ClassId} {o1 o2 b r n bs L i : Nat} {xs : Nat → Int32} (C : lCx p l s m args meth c rt D Y Af R yl yd bs L xs) (I : lInv D Y Af s.heap yl yd o1 o2 b r n H locs) (hn : n ≤ 511) (hi : i + 5 ≤ L) (hls : lv_has ls 9 (lLs bs b r o1 o2 i)) (hf : cells + 8 ≤ R.cells ∧ slots + 6000 ≤ R.slots)
    (kk : ∀ (H1 : Heap) (locs1 : List Loc) (ls1 : Array Slot), lInv D Y Af s.heap yl yd o1 o2 b r (n + 1) H1 locs1 → lv_has ls1 9 (lLs bs b r o1 o2 i) → W p l e R s m args below meth c H1 locs1 (cells + 8) (slots + 6000) Q (F0 m 3541 ls1 [])) : W p l e R s m args below meth c H locs cells slots Q (F0 m 332 ls []) := by
  obtain ⟨hF, hNc, hA1, hA2, hfl, hX, hbl, hbA, hL, hR⟩ := C
  obtain ⟨Sc, Sr, dq, cap, A, v1, v2, hJ, hc, hq⟩ := I
  have hx := hF.1
  have hb := hF.2.1
  have g5 : lRm5 rm_X5_fixed := ⟨(Nat.le_of_ble_eq_true rfl), (Nat.le_of_ble_eq_true rfl), (Nat.le_of_ble_eq_true rfl), (Nat.le_of_ble_eq_true rfl)⟩
  obtain ⟨rm, k, c1, Sc', hs', hrm, hMet, hOK⟩ := lz_fixed (D := D) (Y := Y) (yl := yl) (o := o1) (c0 := v1) hfl hc hq hn (xs (i + 1)) (xs (i + 2))
  refine g_aload_n hx hb dL_law_332 rfl (lv_at hls 1 rfl) ?_
  refine l_arg (jj := 1) hx hb hX hbl hbA hJ.1.2.2.2.1 (lv_at hls 0 rfl) (lv_at hls 5 rfl) (by omega) hL dL_law_333 dL_law_334 dL_law_336 (by decide) dL_law_337 dL_law_338 ?_
  refine l_arg (jj := 2) hx hb hX hbl hbA hJ.1.2.2.2.1 (lv_at hls 0 rfl) (lv_at hls 5 rfl) (by omega) hL dL_law_339 dL_law_340 dL_law_342 (by decide) dL_law_343 dL_law_344 ?_
  refine g_aload_n hx hb dL_law_345 rfl (lv_at hls 3 rfl) ?_
  refine l_callW (rest := []) hF hNc hA1 hJ hq.fre hMet kL_fixed u576 u577 rfl hls.1 rfl (Nat.le_of_ble_eq_true rfl) dL_law_346 (hrm.fit hR (Nat.le_of_ble_eq_true rfl)) (hrm.fit2 hf) (fun H1 locs1 z1 z2 J1 => ?_)
  obtain ⟨v, Sr', hs3, dq', cap', A', h5, hle, hk, hOk, hc', hq'⟩ := hOK H1.size z1
  refine lv_istore (i := 6) (lv' := (6, .int k) :: lLs bs b r o1 o2 i) hx hb dL_law_349 hls (by decide) rfl (fun ls1 hl1 => ?_)
  refine g_aload_n hx hb dL_law_351 rfl (lv_at hl1 3 rfl) ?_
  refine l_arg (jj := 1) hx hb hX hbl hbA J1.1.2.2.2.1 (lv_at hl1 1 rfl) (lv_at hl1 6 rfl) (by omega) hL dL_law_352 dL_law_353 dL_law_355 (by decide) dL_law_356 dL_law_357 ?_
  refine l_arg (jj := 2) hx hb hX hbl hbA J1.1.2.2.2.1 (lv_at hl1 1 rfl) (lv_at hl1 6 rfl) (by omega) hL dL_law_358 dL_law_359 dL_law_361 (by decide) dL_law_362 dL_law_363 ?_
  obtain ⟨h6, rfl⟩ := rL_of h5
  refine l_callR (As := [.int (xs (i + 1)), .int (xs (i + 2))]) (rest := []) hF J1 hc'.fre (c_X5_fixed h6) k_X5_fixed u1260 u1261 u1262 rfl rfl hq.tag rfl hl1.1 rfl (Nat.le_of_ble_eq_true rfl) dL_law_364 (g5.fit hR (Nat.le_of_ble_eq_true rfl)) (lRm5.fit2 hrm g5 hf) (fun H2 locs2 z3 z4 J2 => ?_)
  refine lv_istore (i := 7) (lv' := (7, .int v) :: (6, .int k) :: lLs bs b r o1 o2 i) hx hb dL_law_367 hl1 (by decide) rfl (fun ls2 hl2 => ?_)
  refine l_thr hF J2 (hc'.mono z4).fre hq'.tag hk (lv_at hl2 4 rfl) (lv_at hl2 1 rfl) hl2.1 u1132 u1133 u1134 hR (lRm5.fit2 hrm g5 hf) dL_law_369 dL_law_370 dL_law_373 dL_law_375 (fun H3 locs3 z5 J3 => ?_)
  refine l_cmpI hF hA1 J3 (lv_at hl2 5 rfl) (lv_at hl2 1 rfl) (lv_at hl2 0 rfl) hOk dL_law_380 dL_law_382 dL_law_385 dL_law_386 dL_law_387 dL_law_388 dL_law_390 dL_law_391 dL_law_392 dL_law_397 (by decide) ?_
  refine W.widen (lRm5.fit3 (slots := slots) hrm g5).1 (lRm5.fit3 (cells := cells) hrm g5).2 (kk H3 locs3 ls2 ⟨Sc', Sr', dq', cap', A', c1, v2, J3, ?_, ?_⟩ (lv_sub hl2 [2, 3, 4, 5, 6, 7] rfl))
  · exact hc'.mono (by omega)
  · exact hq'.mono (by omega)
theorem lz_copies {l : Launch} {D : va_G} {Y : Nat → ClassId} {Sc Sr : GS} {hs : Nat} {yl : ClassId} {o : Nat} {c0 : Value} {b r n cap : Nat} {dq : Nat → Nat} {A : AS} (hfl : l.stackTraces = false) (hc : Rc b n Sc hs A) (hq : Rq r dq cap Sr hs A) (hn : n ≤ 511) (x1 x2 x3 x4 : Int32) : lZ l yL_copies (lWs yL_copies cL_copies 7 [(0, 14, 17, 13), (0, 14, 21, 17)]) [va_rf (some b), .int x1, .int x2, .int x3, .int x4, va_rf (some o)] D Y Sc hs .long yl o c0 b r (n + 1) (fun c v => c = .long v.toInt64) (fun hs2 => rL hs2 (f_X5_copies Sr r x1 x2 x3 x4)) := by
  exact lZ_res (lx := [1, 4]) (rm1 := rmL_copies) (rm2 := rmLx_copies) (g := fun v => .long v.toInt64) hc hn ⟨by decide, by decide⟩ ⟨(Nat.le_of_ble_eq_true rfl), (Nat.le_of_ble_eq_true rfl), (Nat.le_of_ble_eq_true rfl), (Nat.le_of_ble_eq_true rfl)⟩ ⟨(Nat.le_of_ble_eq_true rfl), (Nat.le_of_ble_eq_true rfl), (Nat.le_of_ble_eq_true rfl), (Nat.le_of_ble_eq_true rfl)⟩ (c_copies hc (by omega) x1 x2 x3 x4) (fun hs2 h2 => r_copies (hq.mono h2) x1 x2 x3 x4) (fun v => rfl) (fun v S' hs' e => cL_copies_r e hc.tag) (fun x i e hi => cL_copies_x hfl e hc.tag hi)
set_option maxHeartbeats 4000000 in
set_option maxRecDepth 100000 in
theorem lc_copies {p : Program} {l : Launch} {e : Env} {R : Room} {s : State} {m : MethodId} {args : Array Value} {below : List Frame} {meth : Method} {c : Code} {H : Heap} {locs : List Loc} {cells slots : Nat} {Q : State → Prop} {ls : Array Slot} {D : va_G} {Y : Nat → ClassId} {Af : Nat → Prop} {rt : Option FieldType} {yl yd : ClassId} {o1 o2 b r n bs L i : Nat} {xs : Nat → Int32} (C : lCx p l s m args meth c rt D Y Af R yl yd bs L xs) (I : lInv D Y Af s.heap yl yd o1 o2 b r n H locs) (hn : n ≤ 511) (hi : i + 5 ≤ L) (hls : lv_has ls 9 (lLs bs b r o1 o2 i)) (hf : cells + 8 ≤ R.cells ∧ slots + 6000 ≤ R.slots)
    (kk : ∀ (H1 : Heap) (locs1 : List Loc) (ls1 : Array Slot), lInv D Y Af s.heap yl yd o1 o2 b r (n + 1) H1 locs1 → lv_has ls1 9 (lLs bs b r o1 o2 i) → W p l e R s m args below meth c H1 locs1 (cells + 8) (slots + 6000) Q (F0 m 3541 ls1 [])) : W p l e R s m args below meth c H locs cells slots Q (F0 m 400 ls []) := by
  obtain ⟨hF, hNc, hA1, hA2, hfl, hX, hbl, hbA, hL, hR⟩ := C
  obtain ⟨Sc, Sr, dq, cap, A, v1, v2, hJ, hc, hq⟩ := I
  have hx := hF.1
  have hb := hF.2.1
  have g5 : lRm5 rm_X5_copies := ⟨(Nat.le_of_ble_eq_true rfl), (Nat.le_of_ble_eq_true rfl), (Nat.le_of_ble_eq_true rfl), (Nat.le_of_ble_eq_true rfl)⟩
  obtain ⟨rm, k, c1, Sc', hs', hrm, hMet, hOK⟩ := lz_copies (D := D) (Y := Y) (yl := yl) (o := o1) (c0 := v1) hfl hc hq hn (xs (i + 1)) (xs (i + 2)) (xs (i + 3)) (xs (i + 4))
  refine g_aload_n hx hb dL_law_400 rfl (lv_at hls 1 rfl) ?_
  refine l_arg (jj := 1) hx hb hX hbl hbA hJ.1.2.2.2.1 (lv_at hls 0 rfl) (lv_at hls 5 rfl) (by omega) hL dL_law_401 dL_law_402 dL_law_404 (by decide) dL_law_405 dL_law_406 ?_
  refine l_arg (jj := 2) hx hb hX hbl hbA hJ.1.2.2.2.1 (lv_at hls 0 rfl) (lv_at hls 5 rfl) (by omega) hL dL_law_407 dL_law_408 dL_law_410 (by decide) dL_law_411 dL_law_412 ?_
  refine l_arg (jj := 3) hx hb hX hbl hbA hJ.1.2.2.2.1 (lv_at hls 0 rfl) (lv_at hls 5 rfl) (by omega) hL dL_law_413 dL_law_414 dL_law_416 (by decide) dL_law_417 dL_law_418 ?_
  refine l_arg (jj := 4) hx hb hX hbl hbA hJ.1.2.2.2.1 (lv_at hls 0 rfl) (lv_at hls 5 rfl) (by omega) hL dL_law_419 dL_law_420 dL_law_422 (by decide) dL_law_423 dL_law_424 ?_
  refine g_aload_n hx hb dL_law_425 rfl (lv_at hls 3 rfl) ?_
  refine l_callW (rest := []) hF hNc hA1 hJ hq.fre hMet kL_copies u583 u584 rfl hls.1 rfl (Nat.le_of_ble_eq_true rfl) dL_law_426 (hrm.fit hR (Nat.le_of_ble_eq_true rfl)) (hrm.fit2 hf) (fun H1 locs1 z1 z2 J1 => ?_)
  obtain ⟨v, Sr', hs3, dq', cap', A', h5, hle, hk, hOk, hc', hq'⟩ := hOK H1.size z1
  refine lv_istore (i := 6) (lv' := (6, .int k) :: lLs bs b r o1 o2 i) hx hb dL_law_429 hls (by decide) rfl (fun ls1 hl1 => ?_)
  refine g_aload_n hx hb dL_law_431 rfl (lv_at hl1 3 rfl) ?_
  refine l_arg (jj := 1) hx hb hX hbl hbA J1.1.2.2.2.1 (lv_at hl1 1 rfl) (lv_at hl1 6 rfl) (by omega) hL dL_law_432 dL_law_433 dL_law_435 (by decide) dL_law_436 dL_law_437 ?_
  refine l_arg (jj := 2) hx hb hX hbl hbA J1.1.2.2.2.1 (lv_at hl1 1 rfl) (lv_at hl1 6 rfl) (by omega) hL dL_law_438 dL_law_439 dL_law_441 (by decide) dL_law_442 dL_law_443 ?_
  refine l_arg (jj := 3) hx hb hX hbl hbA J1.1.2.2.2.1 (lv_at hl1 1 rfl) (lv_at hl1 6 rfl) (by omega) hL dL_law_444 dL_law_445 dL_law_447 (by decide) dL_law_448 dL_law_449 ?_
  refine l_arg (jj := 4) hx hb hX hbl hbA J1.1.2.2.2.1 (lv_at hl1 1 rfl) (lv_at hl1 6 rfl) (by omega) hL dL_law_450 dL_law_451 dL_law_453 (by decide) dL_law_454 dL_law_455 ?_
  obtain ⟨h6, rfl⟩ := rL_of h5
  refine l_callR (As := [.int (xs (i + 1)), .int (xs (i + 2)), .int (xs (i + 3)), .int (xs (i + 4))]) (rest := []) hF J1 hc'.fre (c_X5_copies h6) k_X5_copies u1265 u1266 u1267 rfl rfl hq.tag rfl hl1.1 rfl (Nat.le_of_ble_eq_true rfl) dL_law_456 (g5.fit hR (Nat.le_of_ble_eq_true rfl)) (lRm5.fit2 hrm g5 hf) (fun H2 locs2 z3 z4 J2 => ?_)
  refine lv_istore (i := 7) (lv' := (7, .int v) :: (6, .int k) :: lLs bs b r o1 o2 i) hx hb dL_law_459 hl1 (by decide) rfl (fun ls2 hl2 => ?_)
  refine l_thr hF J2 (hc'.mono z4).fre hq'.tag hk (lv_at hl2 4 rfl) (lv_at hl2 1 rfl) hl2.1 u1132 u1133 u1134 hR (lRm5.fit2 hrm g5 hf) dL_law_461 dL_law_462 dL_law_465 dL_law_467 (fun H3 locs3 z5 J3 => ?_)
  refine l_cmpI hF hA1 J3 (lv_at hl2 5 rfl) (lv_at hl2 1 rfl) (lv_at hl2 0 rfl) hOk dL_law_472 dL_law_474 dL_law_477 dL_law_478 dL_law_479 dL_law_480 dL_law_482 dL_law_483 dL_law_484 dL_law_489 (by decide) ?_
  refine W.widen (lRm5.fit3 (slots := slots) hrm g5).1 (lRm5.fit3 (cells := cells) hrm g5).2 (kk H3 locs3 ls2 ⟨Sc', Sr', dq', cap', A', c1, v2, J3, ?_, ?_⟩ (lv_sub hl2 [2, 3, 4, 5, 6, 7] rfl))
  · exact hc'.mono (by omega)
  · exact hq'.mono (by omega)
theorem lz_alone {l : Launch} {D : va_G} {Y : Nat → ClassId} {Sc Sr : GS} {hs : Nat} {yl : ClassId} {o : Nat} {c0 : Value} {b r n cap : Nat} {dq : Nat → Nat} {A : AS} (hfl : l.stackTraces = false) (hc : Rc b n Sc hs A) (hq : Rq r dq cap Sr hs A) (hn : n ≤ 511) (x1 x2 x3 : Int32) : lZ l yL_alone (lWs yL_alone cL_alone 6 [(0, 12, 15, 13), (0, 12, 19, 17)]) [va_rf (some b), .int x1, .int x2, .int x3, va_rf (some o)] D Y Sc hs .long yl o c0 b r (n + 1) (fun c v => c = .long v.toInt64) (fun hs2 => rL hs2 (f_X5_alone Sr r x1 x2 x3)) := by
  exact lZ_res (lx := [1, 4]) (rm1 := rmL_alone) (rm2 := rmLx_alone) (g := fun v => .long v.toInt64) hc hn ⟨by decide, by decide⟩ ⟨(Nat.le_of_ble_eq_true rfl), (Nat.le_of_ble_eq_true rfl), (Nat.le_of_ble_eq_true rfl), (Nat.le_of_ble_eq_true rfl)⟩ ⟨(Nat.le_of_ble_eq_true rfl), (Nat.le_of_ble_eq_true rfl), (Nat.le_of_ble_eq_true rfl), (Nat.le_of_ble_eq_true rfl)⟩ (c_alone hc (by omega) x1 x2 x3) (fun hs2 h2 => r_alone (hq.mono h2) x1 x2 x3) (fun v => rfl) (fun v S' hs' e => cL_alone_r e hc.tag) (fun x i e hi => cL_alone_x hfl e hc.tag hi)
set_option maxHeartbeats 4000000 in
set_option maxRecDepth 100000 in
theorem lc_alone {p : Program} {l : Launch} {e : Env} {R : Room} {s : State} {m : MethodId} {args : Array Value} {below : List Frame} {meth : Method} {c : Code} {H : Heap} {locs : List Loc} {cells slots : Nat} {Q : State → Prop} {ls : Array Slot} {D : va_G} {Y : Nat → ClassId} {Af : Nat → Prop} {rt : Option FieldType} {yl yd : ClassId} {o1 o2 b r n bs L i : Nat} {xs : Nat → Int32} (C : lCx p l s m args meth c rt D Y Af R yl yd bs L xs) (I : lInv D Y Af s.heap yl yd o1 o2 b r n H locs) (hn : n ≤ 511) (hi : i + 5 ≤ L) (hls : lv_has ls 9 (lLs bs b r o1 o2 i)) (hf : cells + 8 ≤ R.cells ∧ slots + 6000 ≤ R.slots)
    (kk : ∀ (H1 : Heap) (locs1 : List Loc) (ls1 : Array Slot), lInv D Y Af s.heap yl yd o1 o2 b r (n + 1) H1 locs1 → lv_has ls1 9 (lLs bs b r o1 o2 i) → W p l e R s m args below meth c H1 locs1 (cells + 8) (slots + 6000) Q (F0 m 3541 ls1 [])) : W p l e R s m args below meth c H locs cells slots Q (F0 m 492 ls []) := by
  obtain ⟨hF, hNc, hA1, hA2, hfl, hX, hbl, hbA, hL, hR⟩ := C
  obtain ⟨Sc, Sr, dq, cap, A, v1, v2, hJ, hc, hq⟩ := I
  have hx := hF.1
  have hb := hF.2.1
  have g5 : lRm5 rm_X5_alone := ⟨(Nat.le_of_ble_eq_true rfl), (Nat.le_of_ble_eq_true rfl), (Nat.le_of_ble_eq_true rfl), (Nat.le_of_ble_eq_true rfl)⟩
  obtain ⟨rm, k, c1, Sc', hs', hrm, hMet, hOK⟩ := lz_alone (D := D) (Y := Y) (yl := yl) (o := o1) (c0 := v1) hfl hc hq hn (xs (i + 1)) (xs (i + 2)) (xs (i + 3))
  refine g_aload_n hx hb dL_law_492 rfl (lv_at hls 1 rfl) ?_
  refine l_arg (jj := 1) hx hb hX hbl hbA hJ.1.2.2.2.1 (lv_at hls 0 rfl) (lv_at hls 5 rfl) (by omega) hL dL_law_493 dL_law_494 dL_law_496 (by decide) dL_law_497 dL_law_498 ?_
  refine l_arg (jj := 2) hx hb hX hbl hbA hJ.1.2.2.2.1 (lv_at hls 0 rfl) (lv_at hls 5 rfl) (by omega) hL dL_law_499 dL_law_500 dL_law_502 (by decide) dL_law_503 dL_law_504 ?_
  refine l_arg (jj := 3) hx hb hX hbl hbA hJ.1.2.2.2.1 (lv_at hls 0 rfl) (lv_at hls 5 rfl) (by omega) hL dL_law_505 dL_law_506 dL_law_508 (by decide) dL_law_509 dL_law_510 ?_
  refine g_aload_n hx hb dL_law_511 rfl (lv_at hls 3 rfl) ?_
  refine l_callW (rest := []) hF hNc hA1 hJ hq.fre hMet kL_alone u596 u597 rfl hls.1 rfl (Nat.le_of_ble_eq_true rfl) dL_law_512 (hrm.fit hR (Nat.le_of_ble_eq_true rfl)) (hrm.fit2 hf) (fun H1 locs1 z1 z2 J1 => ?_)
  obtain ⟨v, Sr', hs3, dq', cap', A', h5, hle, hk, hOk, hc', hq'⟩ := hOK H1.size z1
  refine lv_istore (i := 6) (lv' := (6, .int k) :: lLs bs b r o1 o2 i) hx hb dL_law_515 hls (by decide) rfl (fun ls1 hl1 => ?_)
  refine g_aload_n hx hb dL_law_517 rfl (lv_at hl1 3 rfl) ?_
  refine l_arg (jj := 1) hx hb hX hbl hbA J1.1.2.2.2.1 (lv_at hl1 1 rfl) (lv_at hl1 6 rfl) (by omega) hL dL_law_518 dL_law_519 dL_law_521 (by decide) dL_law_522 dL_law_523 ?_
  refine l_arg (jj := 2) hx hb hX hbl hbA J1.1.2.2.2.1 (lv_at hl1 1 rfl) (lv_at hl1 6 rfl) (by omega) hL dL_law_524 dL_law_525 dL_law_527 (by decide) dL_law_528 dL_law_529 ?_
  refine l_arg (jj := 3) hx hb hX hbl hbA J1.1.2.2.2.1 (lv_at hl1 1 rfl) (lv_at hl1 6 rfl) (by omega) hL dL_law_530 dL_law_531 dL_law_533 (by decide) dL_law_534 dL_law_535 ?_
  obtain ⟨h6, rfl⟩ := rL_of h5
  refine l_callR (As := [.int (xs (i + 1)), .int (xs (i + 2)), .int (xs (i + 3))]) (rest := []) hF J1 hc'.fre (c_X5_alone h6) k_X5_alone u1272 u1273 u1274 rfl rfl hq.tag rfl hl1.1 rfl (Nat.le_of_ble_eq_true rfl) dL_law_536 (g5.fit hR (Nat.le_of_ble_eq_true rfl)) (lRm5.fit2 hrm g5 hf) (fun H2 locs2 z3 z4 J2 => ?_)
  refine lv_istore (i := 7) (lv' := (7, .int v) :: (6, .int k) :: lLs bs b r o1 o2 i) hx hb dL_law_539 hl1 (by decide) rfl (fun ls2 hl2 => ?_)
  refine l_thr hF J2 (hc'.mono z4).fre hq'.tag hk (lv_at hl2 4 rfl) (lv_at hl2 1 rfl) hl2.1 u1132 u1133 u1134 hR (lRm5.fit2 hrm g5 hf) dL_law_541 dL_law_542 dL_law_545 dL_law_547 (fun H3 locs3 z5 J3 => ?_)
  refine l_cmpI hF hA1 J3 (lv_at hl2 5 rfl) (lv_at hl2 1 rfl) (lv_at hl2 0 rfl) hOk dL_law_552 dL_law_554 dL_law_557 dL_law_558 dL_law_559 dL_law_560 dL_law_562 dL_law_563 dL_law_564 dL_law_569 (by decide) ?_
  refine W.widen (lRm5.fit3 (slots := slots) hrm g5).1 (lRm5.fit3 (cells := cells) hrm g5).2 (kk H3 locs3 ls2 ⟨Sc', Sr', dq', cap', A', c1, v2, J3, ?_, ?_⟩ (lv_sub hl2 [2, 3, 4, 5, 6, 7] rfl))
  · exact hc'.mono (by omega)
  · exact hq'.mono (by omega)
theorem lz_none {l : Launch} {D : va_G} {Y : Nat → ClassId} {Sc Sr : GS} {hs : Nat} {yl : ClassId} {o : Nat} {c0 : Value} {b r n cap : Nat} {dq : Nat → Nat} {A : AS} (hfl : l.stackTraces = false) (hc : Rc b n Sc hs A) (hq : Rq r dq cap Sr hs A) (hn : n ≤ 511) (x1 : Int32) : lZ l yL_none (lWs yL_none cL_none 4 [(0, 9, 12, 13)]) [va_rf (some b), .int x1, va_rf (some o)] D Y Sc hs .long yl o c0 b r (n + 1) (fun c v => c = .long v.toInt64) (fun hs2 => rL hs2 (f_X5_none Sr r x1)) := by
  exact lZ_res (lx := [1]) (rm1 := rmL_none) (rm2 := rmLx_none) (g := fun v => .long v.toInt64) hc hn ⟨by decide, by decide⟩ ⟨(Nat.le_of_ble_eq_true rfl), (Nat.le_of_ble_eq_true rfl), (Nat.le_of_ble_eq_true rfl), (Nat.le_of_ble_eq_true rfl)⟩ ⟨(Nat.le_of_ble_eq_true rfl), (Nat.le_of_ble_eq_true rfl), (Nat.le_of_ble_eq_true rfl), (Nat.le_of_ble_eq_true rfl)⟩ (c_none hc (by omega) x1) (fun hs2 h2 => r_none (hq.mono h2) x1) (fun v => rfl) (fun v S' hs' e => cL_none_r e hc.tag) (fun x i e hi => cL_none_x hfl e hc.tag hi)
set_option maxHeartbeats 4000000 in
set_option maxRecDepth 100000 in
theorem lc_none {p : Program} {l : Launch} {e : Env} {R : Room} {s : State} {m : MethodId} {args : Array Value} {below : List Frame} {meth : Method} {c : Code} {H : Heap} {locs : List Loc} {cells slots : Nat} {Q : State → Prop} {ls : Array Slot} {D : va_G} {Y : Nat → ClassId} {Af : Nat → Prop} {rt : Option FieldType} {yl yd : ClassId} {o1 o2 b r n bs L i : Nat} {xs : Nat → Int32} (C : lCx p l s m args meth c rt D Y Af R yl yd bs L xs) (I : lInv D Y Af s.heap yl yd o1 o2 b r n H locs) (hn : n ≤ 511) (hi : i + 5 ≤ L) (hls : lv_has ls 9 (lLs bs b r o1 o2 i)) (hf : cells + 8 ≤ R.cells ∧ slots + 6000 ≤ R.slots)
    (kk : ∀ (H1 : Heap) (locs1 : List Loc) (ls1 : Array Slot), lInv D Y Af s.heap yl yd o1 o2 b r (n + 1) H1 locs1 → lv_has ls1 9 (lLs bs b r o1 o2 i) → W p l e R s m args below meth c H1 locs1 (cells + 8) (slots + 6000) Q (F0 m 3541 ls1 [])) : W p l e R s m args below meth c H locs cells slots Q (F0 m 572 ls []) := by
  obtain ⟨hF, hNc, hA1, hA2, hfl, hX, hbl, hbA, hL, hR⟩ := C
  obtain ⟨Sc, Sr, dq, cap, A, v1, v2, hJ, hc, hq⟩ := I
  have hx := hF.1
  have hb := hF.2.1
  have g5 : lRm5 rm_X5_none := ⟨(Nat.le_of_ble_eq_true rfl), (Nat.le_of_ble_eq_true rfl), (Nat.le_of_ble_eq_true rfl), (Nat.le_of_ble_eq_true rfl)⟩
  obtain ⟨rm, k, c1, Sc', hs', hrm, hMet, hOK⟩ := lz_none (D := D) (Y := Y) (yl := yl) (o := o1) (c0 := v1) hfl hc hq hn (xs (i + 1))
  refine g_aload_n hx hb dL_law_572 rfl (lv_at hls 1 rfl) ?_
  refine l_arg (jj := 1) hx hb hX hbl hbA hJ.1.2.2.2.1 (lv_at hls 0 rfl) (lv_at hls 5 rfl) (by omega) hL dL_law_573 dL_law_574 dL_law_576 (by decide) dL_law_577 dL_law_578 ?_
  refine g_aload_n hx hb dL_law_579 rfl (lv_at hls 3 rfl) ?_
  refine l_callW (rest := []) hF hNc hA1 hJ hq.fre hMet kL_none u604 u605 rfl hls.1 rfl (Nat.le_of_ble_eq_true rfl) dL_law_580 (hrm.fit hR (Nat.le_of_ble_eq_true rfl)) (hrm.fit2 hf) (fun H1 locs1 z1 z2 J1 => ?_)
  obtain ⟨v, Sr', hs3, dq', cap', A', h5, hle, hk, hOk, hc', hq'⟩ := hOK H1.size z1
  refine lv_istore (i := 6) (lv' := (6, .int k) :: lLs bs b r o1 o2 i) hx hb dL_law_583 hls (by decide) rfl (fun ls1 hl1 => ?_)
  refine g_aload_n hx hb dL_law_585 rfl (lv_at hl1 3 rfl) ?_
  refine l_arg (jj := 1) hx hb hX hbl hbA J1.1.2.2.2.1 (lv_at hl1 1 rfl) (lv_at hl1 6 rfl) (by omega) hL dL_law_586 dL_law_587 dL_law_589 (by decide) dL_law_590 dL_law_591 ?_
  obtain ⟨h6, rfl⟩ := rL_of h5
  refine l_callR (As := [.int (xs (i + 1))]) (rest := []) hF J1 hc'.fre (c_X5_none h6) k_X5_none u1276 u1277 u1278 rfl rfl hq.tag rfl hl1.1 rfl (Nat.le_of_ble_eq_true rfl) dL_law_592 (g5.fit hR (Nat.le_of_ble_eq_true rfl)) (lRm5.fit2 hrm g5 hf) (fun H2 locs2 z3 z4 J2 => ?_)
  refine lv_istore (i := 7) (lv' := (7, .int v) :: (6, .int k) :: lLs bs b r o1 o2 i) hx hb dL_law_595 hl1 (by decide) rfl (fun ls2 hl2 => ?_)
  refine l_thr hF J2 (hc'.mono z4).fre hq'.tag hk (lv_at hl2 4 rfl) (lv_at hl2 1 rfl) hl2.1 u1132 u1133 u1134 hR (lRm5.fit2 hrm g5 hf) dL_law_597 dL_law_598 dL_law_601 dL_law_603 (fun H3 locs3 z5 J3 => ?_)
  refine l_cmpI hF hA1 J3 (lv_at hl2 5 rfl) (lv_at hl2 1 rfl) (lv_at hl2 0 rfl) hOk dL_law_608 dL_law_610 dL_law_613 dL_law_614 dL_law_615 dL_law_616 dL_law_618 dL_law_619 dL_law_620 dL_law_625 (by decide) ?_
  refine W.widen (lRm5.fit3 (slots := slots) hrm g5).1 (lRm5.fit3 (cells := cells) hrm g5).2 (kk H3 locs3 ls2 ⟨Sc', Sr', dq', cap', A', c1, v2, J3, ?_, ?_⟩ (lv_sub hl2 [2, 3, 4, 5, 6, 7] rfl))
  · exact hc'.mono (by omega)
  · exact hq'.mono (by omega)
theorem lz_keys {l : Launch} {D : va_G} {Y : Nat → ClassId} {Sc Sr : GS} {hs : Nat} {yl : ClassId} {o : Nat} {c0 : Value} {b r n cap : Nat} {dq : Nat → Nat} {A : AS} (hfl : l.stackTraces = false) (hc : Rc b n Sc hs A) (hq : Rq r dq cap Sr hs A) (hn : n ≤ 511) (x1 x2 : Int32) : lZ l yL_keys (lWs yL_keys cL_keys 5 [(0, 10, 13, 13), (0, 10, 17, 15)]) [va_rf (some b), .int x1, .int x2, va_rf (some o)] D Y Sc hs .long yl o c0 b r (n + 1) (fun c v => c = .long v.toInt64) (fun hs2 => rL hs2 (f_X5_keys Sr r x1 x2)) := by
  exact lZ_res (lx := [1, 2]) (rm1 := rmL_keys) (rm2 := rmLx_keys) (g := fun v => .long v.toInt64) hc hn ⟨by decide, by decide⟩ ⟨(Nat.le_of_ble_eq_true rfl), (Nat.le_of_ble_eq_true rfl), (Nat.le_of_ble_eq_true rfl), (Nat.le_of_ble_eq_true rfl)⟩ ⟨(Nat.le_of_ble_eq_true rfl), (Nat.le_of_ble_eq_true rfl), (Nat.le_of_ble_eq_true rfl), (Nat.le_of_ble_eq_true rfl)⟩ (c_keys hc (by omega) x1 x2) (fun hs2 h2 => r_keys (hq.mono h2) hc.1 x1 x2) (fun v => rfl) (fun v S' hs' e => cL_keys_r e hc.tag) (fun x i e hi => cL_keys_x hfl e hc.tag hi)
set_option maxHeartbeats 4000000 in
set_option maxRecDepth 100000 in
theorem lc_keys {p : Program} {l : Launch} {e : Env} {R : Room} {s : State} {m : MethodId} {args : Array Value} {below : List Frame} {meth : Method} {c : Code} {H : Heap} {locs : List Loc} {cells slots : Nat} {Q : State → Prop} {ls : Array Slot} {D : va_G} {Y : Nat → ClassId} {Af : Nat → Prop} {rt : Option FieldType} {yl yd : ClassId} {o1 o2 b r n bs L i : Nat} {xs : Nat → Int32} (C : lCx p l s m args meth c rt D Y Af R yl yd bs L xs) (I : lInv D Y Af s.heap yl yd o1 o2 b r n H locs) (hn : n ≤ 511) (hi : i + 5 ≤ L) (hls : lv_has ls 9 (lLs bs b r o1 o2 i)) (hf : cells + 8 ≤ R.cells ∧ slots + 6000 ≤ R.slots)
    (kk : ∀ (H1 : Heap) (locs1 : List Loc) (ls1 : Array Slot), lInv D Y Af s.heap yl yd o1 o2 b r (n + 1) H1 locs1 → lv_has ls1 9 (lLs bs b r o1 o2 i) → W p l e R s m args below meth c H1 locs1 (cells + 8) (slots + 6000) Q (F0 m 3541 ls1 [])) : W p l e R s m args below meth c H locs cells slots Q (F0 m 628 ls []) := by
  obtain ⟨hF, hNc, hA1, hA2, hfl, hX, hbl, hbA, hL, hR⟩ := C
  obtain ⟨Sc, Sr, dq, cap, A, v1, v2, hJ, hc, hq⟩ := I
  have hx := hF.1
  have hb := hF.2.1
  have g5 : lRm5 rm_X5_keys := ⟨(Nat.le_of_ble_eq_true rfl), (Nat.le_of_ble_eq_true rfl), (Nat.le_of_ble_eq_true rfl), (Nat.le_of_ble_eq_true rfl)⟩
  obtain ⟨rm, k, c1, Sc', hs', hrm, hMet, hOK⟩ := lz_keys (D := D) (Y := Y) (yl := yl) (o := o1) (c0 := v1) hfl hc hq hn (xs (i + 1)) (xs (i + 2))
  refine g_aload_n hx hb dL_law_628 rfl (lv_at hls 1 rfl) ?_
  refine l_arg (jj := 1) hx hb hX hbl hbA hJ.1.2.2.2.1 (lv_at hls 0 rfl) (lv_at hls 5 rfl) (by omega) hL dL_law_629 dL_law_630 dL_law_632 (by decide) dL_law_633 dL_law_634 ?_
  refine l_arg (jj := 2) hx hb hX hbl hbA hJ.1.2.2.2.1 (lv_at hls 0 rfl) (lv_at hls 5 rfl) (by omega) hL dL_law_635 dL_law_636 dL_law_638 (by decide) dL_law_639 dL_law_640 ?_
  refine g_aload_n hx hb dL_law_641 rfl (lv_at hls 3 rfl) ?_
  refine l_callW (rest := []) hF hNc hA1 hJ hq.fre hMet kL_keys u611 u612 rfl hls.1 rfl (Nat.le_of_ble_eq_true rfl) dL_law_642 (hrm.fit hR (Nat.le_of_ble_eq_true rfl)) (hrm.fit2 hf) (fun H1 locs1 z1 z2 J1 => ?_)
  obtain ⟨v, Sr', hs3, dq', cap', A', h5, hle, hk, hOk, hc', hq'⟩ := hOK H1.size z1
  refine lv_istore (i := 6) (lv' := (6, .int k) :: lLs bs b r o1 o2 i) hx hb dL_law_645 hls (by decide) rfl (fun ls1 hl1 => ?_)
  refine g_aload_n hx hb dL_law_647 rfl (lv_at hl1 3 rfl) ?_
  refine l_arg (jj := 1) hx hb hX hbl hbA J1.1.2.2.2.1 (lv_at hl1 1 rfl) (lv_at hl1 6 rfl) (by omega) hL dL_law_648 dL_law_649 dL_law_651 (by decide) dL_law_652 dL_law_653 ?_
  refine l_arg (jj := 2) hx hb hX hbl hbA J1.1.2.2.2.1 (lv_at hl1 1 rfl) (lv_at hl1 6 rfl) (by omega) hL dL_law_654 dL_law_655 dL_law_657 (by decide) dL_law_658 dL_law_659 ?_
  obtain ⟨h6, rfl⟩ := rL_of h5
  refine l_callR (As := [.int (xs (i + 1)), .int (xs (i + 2))]) (rest := []) hF J1 hc'.fre (c_X5_keys h6) k_X5_keys u1284 u1285 u1286 rfl rfl hq.tag rfl hl1.1 rfl (Nat.le_of_ble_eq_true rfl) dL_law_660 (g5.fit hR (Nat.le_of_ble_eq_true rfl)) (lRm5.fit2 hrm g5 hf) (fun H2 locs2 z3 z4 J2 => ?_)
  refine lv_istore (i := 7) (lv' := (7, .int v) :: (6, .int k) :: lLs bs b r o1 o2 i) hx hb dL_law_663 hl1 (by decide) rfl (fun ls2 hl2 => ?_)
  refine l_thr hF J2 (hc'.mono z4).fre hq'.tag hk (lv_at hl2 4 rfl) (lv_at hl2 1 rfl) hl2.1 u1132 u1133 u1134 hR (lRm5.fit2 hrm g5 hf) dL_law_665 dL_law_666 dL_law_669 dL_law_671 (fun H3 locs3 z5 J3 => ?_)
  refine l_cmpI hF hA1 J3 (lv_at hl2 5 rfl) (lv_at hl2 1 rfl) (lv_at hl2 0 rfl) hOk dL_law_676 dL_law_678 dL_law_681 dL_law_682 dL_law_683 dL_law_684 dL_law_686 dL_law_687 dL_law_688 dL_law_693 (by decide) ?_
  refine W.widen (lRm5.fit3 (slots := slots) hrm g5).1 (lRm5.fit3 (cells := cells) hrm g5).2 (kk H3 locs3 ls2 ⟨Sc', Sr', dq', cap', A', c1, v2, J3, ?_, ?_⟩ (lv_sub hl2 [2, 3, 4, 5, 6, 7] rfl))
  · exact hc'.mono (by omega)
  · exact hq'.mono (by omega)
theorem lz_values {l : Launch} {D : va_G} {Y : Nat → ClassId} {Sc Sr : GS} {hs : Nat} {yl : ClassId} {o : Nat} {c0 : Value} {b r n cap : Nat} {dq : Nat → Nat} {A : AS} (hfl : l.stackTraces = false) (hc : Rc b n Sc hs A) (hq : Rq r dq cap Sr hs A) (hn : n ≤ 511) (x1 x2 : Int32) : lZ l yL_values (lWs yL_values cL_values 5 [(0, 10, 13, 13), (0, 10, 17, 15)]) [va_rf (some b), .int x1, .int x2, va_rf (some o)] D Y Sc hs .long yl o c0 b r (n + 1) (fun c v => c = .long v.toInt64) (fun hs2 => rL hs2 (f_X5_values Sr r x1 x2)) := by
  exact lZ_res (lx := [1, 2]) (rm1 := rmL_values) (rm2 := rmLx_values) (g := fun v => .long v.toInt64) hc hn ⟨by decide, by decide⟩ ⟨(Nat.le_of_ble_eq_true rfl), (Nat.le_of_ble_eq_true rfl), (Nat.le_of_ble_eq_true rfl), (Nat.le_of_ble_eq_true rfl)⟩ ⟨(Nat.le_of_ble_eq_true rfl), (Nat.le_of_ble_eq_true rfl), (Nat.le_of_ble_eq_true rfl), (Nat.le_of_ble_eq_true rfl)⟩ (c_values hc (by omega) x1 x2) (fun hs2 h2 => r_values (hq.mono h2) hc.1 x1 x2) (fun v => rfl) (fun v S' hs' e => cL_values_r e hc.tag) (fun x i e hi => cL_values_x hfl e hc.tag hi)
set_option maxHeartbeats 4000000 in
set_option maxRecDepth 100000 in
theorem lc_values {p : Program} {l : Launch} {e : Env} {R : Room} {s : State} {m : MethodId} {args : Array Value} {below : List Frame} {meth : Method} {c : Code} {H : Heap} {locs : List Loc} {cells slots : Nat} {Q : State → Prop} {ls : Array Slot} {D : va_G} {Y : Nat → ClassId} {Af : Nat → Prop} {rt : Option FieldType} {yl yd : ClassId} {o1 o2 b r n bs L i : Nat} {xs : Nat → Int32} (C : lCx p l s m args meth c rt D Y Af R yl yd bs L xs) (I : lInv D Y Af s.heap yl yd o1 o2 b r n H locs) (hn : n ≤ 511) (hi : i + 5 ≤ L) (hls : lv_has ls 9 (lLs bs b r o1 o2 i)) (hf : cells + 8 ≤ R.cells ∧ slots + 6000 ≤ R.slots)
    (kk : ∀ (H1 : Heap) (locs1 : List Loc) (ls1 : Array Slot), lInv D Y Af s.heap yl yd o1 o2 b r (n + 1) H1 locs1 → lv_has ls1 9 (lLs bs b r o1 o2 i) → W p l e R s m args below meth c H1 locs1 (cells + 8) (slots + 6000) Q (F0 m 3541 ls1 [])) : W p l e R s m args below meth c H locs cells slots Q (F0 m 696 ls []) := by
  obtain ⟨hF, hNc, hA1, hA2, hfl, hX, hbl, hbA, hL, hR⟩ := C
  obtain ⟨Sc, Sr, dq, cap, A, v1, v2, hJ, hc, hq⟩ := I
  have hx := hF.1
  have hb := hF.2.1
  have g5 : lRm5 rm_X5_values := ⟨(Nat.le_of_ble_eq_true rfl), (Nat.le_of_ble_eq_true rfl), (Nat.le_of_ble_eq_true rfl), (Nat.le_of_ble_eq_true rfl)⟩
  obtain ⟨rm, k, c1, Sc', hs', hrm, hMet, hOK⟩ := lz_values (D := D) (Y := Y) (yl := yl) (o := o1) (c0 := v1) hfl hc hq hn (xs (i + 1)) (xs (i + 2))
  refine g_aload_n hx hb dL_law_696 rfl (lv_at hls 1 rfl) ?_
  refine l_arg (jj := 1) hx hb hX hbl hbA hJ.1.2.2.2.1 (lv_at hls 0 rfl) (lv_at hls 5 rfl) (by omega) hL dL_law_697 dL_law_698 dL_law_700 (by decide) dL_law_701 dL_law_702 ?_
  refine l_arg (jj := 2) hx hb hX hbl hbA hJ.1.2.2.2.1 (lv_at hls 0 rfl) (lv_at hls 5 rfl) (by omega) hL dL_law_703 dL_law_704 dL_law_706 (by decide) dL_law_707 dL_law_708 ?_
  refine g_aload_n hx hb dL_law_709 rfl (lv_at hls 3 rfl) ?_
  refine l_callW (rest := []) hF hNc hA1 hJ hq.fre hMet kL_values u627 u628 rfl hls.1 rfl (Nat.le_of_ble_eq_true rfl) dL_law_710 (hrm.fit hR (Nat.le_of_ble_eq_true rfl)) (hrm.fit2 hf) (fun H1 locs1 z1 z2 J1 => ?_)
  obtain ⟨v, Sr', hs3, dq', cap', A', h5, hle, hk, hOk, hc', hq'⟩ := hOK H1.size z1
  refine lv_istore (i := 6) (lv' := (6, .int k) :: lLs bs b r o1 o2 i) hx hb dL_law_713 hls (by decide) rfl (fun ls1 hl1 => ?_)
  refine g_aload_n hx hb dL_law_715 rfl (lv_at hl1 3 rfl) ?_
  refine l_arg (jj := 1) hx hb hX hbl hbA J1.1.2.2.2.1 (lv_at hl1 1 rfl) (lv_at hl1 6 rfl) (by omega) hL dL_law_716 dL_law_717 dL_law_719 (by decide) dL_law_720 dL_law_721 ?_
  refine l_arg (jj := 2) hx hb hX hbl hbA J1.1.2.2.2.1 (lv_at hl1 1 rfl) (lv_at hl1 6 rfl) (by omega) hL dL_law_722 dL_law_723 dL_law_725 (by decide) dL_law_726 dL_law_727 ?_
  obtain ⟨h6, rfl⟩ := rL_of h5
  refine l_callR (As := [.int (xs (i + 1)), .int (xs (i + 2))]) (rest := []) hF J1 hc'.fre (c_X5_values h6) k_X5_values u1297 u1298 u1299 rfl rfl hq.tag rfl hl1.1 rfl (Nat.le_of_ble_eq_true rfl) dL_law_728 (g5.fit hR (Nat.le_of_ble_eq_true rfl)) (lRm5.fit2 hrm g5 hf) (fun H2 locs2 z3 z4 J2 => ?_)
  refine lv_istore (i := 7) (lv' := (7, .int v) :: (6, .int k) :: lLs bs b r o1 o2 i) hx hb dL_law_731 hl1 (by decide) rfl (fun ls2 hl2 => ?_)
  refine l_thr hF J2 (hc'.mono z4).fre hq'.tag hk (lv_at hl2 4 rfl) (lv_at hl2 1 rfl) hl2.1 u1132 u1133 u1134 hR (lRm5.fit2 hrm g5 hf) dL_law_733 dL_law_734 dL_law_737 dL_law_739 (fun H3 locs3 z5 J3 => ?_)
  refine l_cmpI hF hA1 J3 (lv_at hl2 5 rfl) (lv_at hl2 1 rfl) (lv_at hl2 0 rfl) hOk dL_law_744 dL_law_746 dL_law_749 dL_law_750 dL_law_751 dL_law_752 dL_law_754 dL_law_755 dL_law_756 dL_law_761 (by decide) ?_
  refine W.widen (lRm5.fit3 (slots := slots) hrm g5).1 (lRm5.fit3 (cells := cells) hrm g5).2 (kk H3 locs3 ls2 ⟨Sc', Sr', dq', cap', A', c1, v2, J3, ?_, ?_⟩ (lv_sub hl2 [2, 3, 4, 5, 6, 7] rfl))
  · exact hc'.mono (by omega)
  · exact hq'.mono (by omega)
theorem lz_kind {l : Launch} {D : va_G} {Y : Nat → ClassId} {Sc Sr : GS} {hs : Nat} {yl : ClassId} {o : Nat} {c0 : Value} {b r n cap : Nat} {dq : Nat → Nat} {A : AS} (hfl : l.stackTraces = false) (hc : Rc b n Sc hs A) (hq : Rq r dq cap Sr hs A) (hn : n ≤ 511) (x1 : Int32) : lZ l yL_kind (lWs yL_kind cL_kind 4 [(0, 9, 12, 13)]) [va_rf (some b), .int x1, va_rf (some o)] D Y Sc hs .long yl o c0 b r (n + 1) (fun c v => c = .long v.toInt64) (fun hs2 => rL hs2 (f_X5_kind Sr r x1)) := by
  obtain ⟨hw, hp, pa, ch, hr⟩ := id hc
  exact lZ_ask (lx := [1]) (rm1 := rmL_kind) (rm2 := rmLx_kind) (g := fun v => .long v.toInt64) hc hq hn ⟨by decide, by decide⟩ ⟨(Nat.le_of_ble_eq_true rfl), (Nat.le_of_ble_eq_true rfl), (Nat.le_of_ble_eq_true rfl), (Nat.le_of_ble_eq_true rfl)⟩ ⟨(Nat.le_of_ble_eq_true rfl), (Nat.le_of_ble_eq_true rfl), (Nat.le_of_ble_eq_true rfl), (Nat.le_of_ble_eq_true rfl)⟩ (c_kind hr hw x1) (r_kind hq hw x1) (hz_same (V := Int32) (g := fun v => .long v.toInt64) (Ok := fun c v => c = .long v.toInt64) fun v _ => rfl) (fun v e => cL_kind_r e hc.tag) (fun x i e hi => cL_kind_x hfl e hc.tag hi)
set_option maxHeartbeats 4000000 in
set_option maxRecDepth 100000 in
theorem lc_kind {p : Program} {l : Launch} {e : Env} {R : Room} {s : State} {m : MethodId} {args : Array Value} {below : List Frame} {meth : Method} {c : Code} {H : Heap} {locs : List Loc} {cells slots : Nat} {Q : State → Prop} {ls : Array Slot} {D : va_G} {Y : Nat → ClassId} {Af : Nat → Prop} {rt : Option FieldType} {yl yd : ClassId} {o1 o2 b r n bs L i : Nat} {xs : Nat → Int32} (C : lCx p l s m args meth c rt D Y Af R yl yd bs L xs) (I : lInv D Y Af s.heap yl yd o1 o2 b r n H locs) (hn : n ≤ 511) (hi : i + 5 ≤ L) (hls : lv_has ls 9 (lLs bs b r o1 o2 i)) (hf : cells + 8 ≤ R.cells ∧ slots + 6000 ≤ R.slots)
    (kk : ∀ (H1 : Heap) (locs1 : List Loc) (ls1 : Array Slot), lInv D Y Af s.heap yl yd o1 o2 b r (n + 1) H1 locs1 → lv_has ls1 9 (lLs bs b r o1 o2 i) → W p l e R s m args below meth c H1 locs1 (cells + 8) (slots + 6000) Q (F0 m 3541 ls1 [])) : W p l e R s m args below meth c H locs cells slots Q (F0 m 764 ls []) := by
  obtain ⟨hF, hNc, hA1, hA2, hfl, hX, hbl, hbA, hL, hR⟩ := C
  obtain ⟨Sc, Sr, dq, cap, A, v1, v2, hJ, hc, hq⟩ := I
  have hx := hF.1
  have hb := hF.2.1
  have g5 : lRm5 rm_X5_kind := ⟨(Nat.le_of_ble_eq_true rfl), (Nat.le_of_ble_eq_true rfl), (Nat.le_of_ble_eq_true rfl), (Nat.le_of_ble_eq_true rfl)⟩
  obtain ⟨rm, k, c1, Sc', hs', hrm, hMet, hOK⟩ := lz_kind (D := D) (Y := Y) (yl := yl) (o := o1) (c0 := v1) hfl hc hq hn (xs (i + 1))
  refine g_aload_n hx hb dL_law_764 rfl (lv_at hls 1 rfl) ?_
  refine l_arg (jj := 1) hx hb hX hbl hbA hJ.1.2.2.2.1 (lv_at hls 0 rfl) (lv_at hls 5 rfl) (by omega) hL dL_law_765 dL_law_766 dL_law_768 (by decide) dL_law_769 dL_law_770 ?_
  refine g_aload_n hx hb dL_law_771 rfl (lv_at hls 3 rfl) ?_
  refine l_callW (rest := []) hF hNc hA1 hJ hq.fre hMet kL_kind u634 u635 rfl hls.1 rfl (Nat.le_of_ble_eq_true rfl) dL_law_772 (hrm.fit hR (Nat.le_of_ble_eq_true rfl)) (hrm.fit2 hf) (fun H1 locs1 z1 z2 J1 => ?_)
  obtain ⟨v, Sr', hs3, dq', cap', A', h5, hle, hk, hOk, hc', hq'⟩ := hOK H1.size z1
  refine lv_istore (i := 6) (lv' := (6, .int k) :: lLs bs b r o1 o2 i) hx hb dL_law_775 hls (by decide) rfl (fun ls1 hl1 => ?_)
  refine g_aload_n hx hb dL_law_777 rfl (lv_at hl1 3 rfl) ?_
  refine l_arg (jj := 1) hx hb hX hbl hbA J1.1.2.2.2.1 (lv_at hl1 1 rfl) (lv_at hl1 6 rfl) (by omega) hL dL_law_778 dL_law_779 dL_law_781 (by decide) dL_law_782 dL_law_783 ?_
  obtain ⟨h6, rfl⟩ := rL_of h5
  refine l_callR (As := [.int (xs (i + 1))]) (rest := []) hF J1 hc'.fre (c_X5_kind h6) k_X5_kind u1301 u1302 u1303 rfl rfl hq.tag rfl hl1.1 rfl (Nat.le_of_ble_eq_true rfl) dL_law_784 (g5.fit hR (Nat.le_of_ble_eq_true rfl)) (lRm5.fit2 hrm g5 hf) (fun H2 locs2 z3 z4 J2 => ?_)
  refine lv_istore (i := 7) (lv' := (7, .int v) :: (6, .int k) :: lLs bs b r o1 o2 i) hx hb dL_law_787 hl1 (by decide) rfl (fun ls2 hl2 => ?_)
  refine l_thr hF J2 (hc'.mono z4).fre hq'.tag hk (lv_at hl2 4 rfl) (lv_at hl2 1 rfl) hl2.1 u1132 u1133 u1134 hR (lRm5.fit2 hrm g5 hf) dL_law_789 dL_law_790 dL_law_793 dL_law_795 (fun H3 locs3 z5 J3 => ?_)
  refine l_cmpI hF hA1 J3 (lv_at hl2 5 rfl) (lv_at hl2 1 rfl) (lv_at hl2 0 rfl) hOk dL_law_800 dL_law_802 dL_law_805 dL_law_806 dL_law_807 dL_law_808 dL_law_810 dL_law_811 dL_law_812 dL_law_817 (by decide) ?_
  refine W.widen (lRm5.fit3 (slots := slots) hrm g5).1 (lRm5.fit3 (cells := cells) hrm g5).2 (kk H3 locs3 ls2 ⟨Sc', Sr', dq', cap', A', c1, v2, J3, ?_, ?_⟩ (lv_sub hl2 [2, 3, 4, 5, 6, 7] rfl))
  · exact hc'.mono (by omega)
  · exact hq'.mono (by omega)
theorem lz_size {l : Launch} {D : va_G} {Y : Nat → ClassId} {Sc Sr : GS} {hs : Nat} {yl : ClassId} {o : Nat} {c0 : Value} {b r n cap : Nat} {dq : Nat → Nat} {A : AS} (hfl : l.stackTraces = false) (hc : Rc b n Sc hs A) (hq : Rq r dq cap Sr hs A) (hn : n ≤ 511) (x1 : Int32) : lZ l yL_size (lWs yL_size cL_size 4 [(0, 9, 12, 13), (0, 9, 15, 15)]) [va_rf (some b), .int x1, va_rf (some o)] D Y Sc hs .long yl o c0 b r (n + 1) (fun c v => c = .long v.toInt64) (fun hs2 => rL hs2 (f_X5_size Sr r x1)) := by
  obtain ⟨hw, hp, pa, ch, hr⟩ := id hc
  exact lZ_ask (lx := [1, 2]) (rm1 := rmL_size) (rm2 := rmLx_size) (g := fun v => .long v.toInt64) hc hq hn ⟨by decide, by decide⟩ ⟨(Nat.le_of_ble_eq_true rfl), (Nat.le_of_ble_eq_true rfl), (Nat.le_of_ble_eq_true rfl), (Nat.le_of_ble_eq_true rfl)⟩ ⟨(Nat.le_of_ble_eq_true rfl), (Nat.le_of_ble_eq_true rfl), (Nat.le_of_ble_eq_true rfl), (Nat.le_of_ble_eq_true rfl)⟩ (c_size hr hw x1) (r_size hq hw x1) (hz_same (V := Int32) (g := fun v => .long v.toInt64) (Ok := fun c v => c = .long v.toInt64) fun v _ => rfl) (fun v e => cL_size_r e hc.tag) (fun x i e hi => cL_size_x hfl e hc.tag hi)
set_option maxHeartbeats 4000000 in
set_option maxRecDepth 100000 in
theorem lc_size {p : Program} {l : Launch} {e : Env} {R : Room} {s : State} {m : MethodId} {args : Array Value} {below : List Frame} {meth : Method} {c : Code} {H : Heap} {locs : List Loc} {cells slots : Nat} {Q : State → Prop} {ls : Array Slot} {D : va_G} {Y : Nat → ClassId} {Af : Nat → Prop} {rt : Option FieldType} {yl yd : ClassId} {o1 o2 b r n bs L i : Nat} {xs : Nat → Int32} (C : lCx p l s m args meth c rt D Y Af R yl yd bs L xs) (I : lInv D Y Af s.heap yl yd o1 o2 b r n H locs) (hn : n ≤ 511) (hi : i + 5 ≤ L) (hls : lv_has ls 9 (lLs bs b r o1 o2 i)) (hf : cells + 8 ≤ R.cells ∧ slots + 6000 ≤ R.slots)
    (kk : ∀ (H1 : Heap) (locs1 : List Loc) (ls1 : Array Slot), lInv D Y Af s.heap yl yd o1 o2 b r (n + 1) H1 locs1 → lv_has ls1 9 (lLs bs b r o1 o2 i) → W p l e R s m args below meth c H1 locs1 (cells + 8) (slots + 6000) Q (F0 m 3541 ls1 [])) : W p l e R s m args below meth c H locs cells slots Q (F0 m 820 ls []) := by
  obtain ⟨hF, hNc, hA1, hA2, hfl, hX, hbl, hbA, hL, hR⟩ := C
  obtain ⟨Sc, Sr, dq, cap, A, v1, v2, hJ, hc, hq⟩ := I
  have hx := hF.1
  have hb := hF.2.1
  have g5 : lRm5 rm_X5_size := ⟨(Nat.le_of_ble_eq_true rfl), (Nat.le_of_ble_eq_true rfl), (Nat.le_of_ble_eq_true rfl), (Nat.le_of_ble_eq_true rfl)⟩
  obtain ⟨rm, k, c1, Sc', hs', hrm, hMet, hOK⟩ := lz_size (D := D) (Y := Y) (yl := yl) (o := o1) (c0 := v1) hfl hc hq hn (xs (i + 1))
  refine g_aload_n hx hb dL_law_820 rfl (lv_at hls 1 rfl) ?_
  refine l_arg (jj := 1) hx hb hX hbl hbA hJ.1.2.2.2.1 (lv_at hls 0 rfl) (lv_at hls 5 rfl) (by omega) hL dL_law_821 dL_law_822 dL_law_824 (by decide) dL_law_825 dL_law_826 ?_
  refine g_aload_n hx hb dL_law_827 rfl (lv_at hls 3 rfl) ?_
  refine l_callW (rest := []) hF hNc hA1 hJ hq.fre hMet kL_size u641 u642 rfl hls.1 rfl (Nat.le_of_ble_eq_true rfl) dL_law_828 (hrm.fit hR (Nat.le_of_ble_eq_true rfl)) (hrm.fit2 hf) (fun H1 locs1 z1 z2 J1 => ?_)
  obtain ⟨v, Sr', hs3, dq', cap', A', h5, hle, hk, hOk, hc', hq'⟩ := hOK H1.size z1
  refine lv_istore (i := 6) (lv' := (6, .int k) :: lLs bs b r o1 o2 i) hx hb dL_law_831 hls (by decide) rfl (fun ls1 hl1 => ?_)
  refine g_aload_n hx hb dL_law_833 rfl (lv_at hl1 3 rfl) ?_
  refine l_arg (jj := 1) hx hb hX hbl hbA J1.1.2.2.2.1 (lv_at hl1 1 rfl) (lv_at hl1 6 rfl) (by omega) hL dL_law_834 dL_law_835 dL_law_837 (by decide) dL_law_838 dL_law_839 ?_
  obtain ⟨h6, rfl⟩ := rL_of h5
  refine l_callR (As := [.int (xs (i + 1))]) (rest := []) hF J1 hc'.fre (c_X5_size h6) k_X5_size u1512 u1513 u1514 rfl rfl hq.tag rfl hl1.1 rfl (Nat.le_of_ble_eq_true rfl) dL_law_840 (g5.fit hR (Nat.le_of_ble_eq_true rfl)) (lRm5.fit2 hrm g5 hf) (fun H2 locs2 z3 z4 J2 => ?_)
  refine lv_istore (i := 7) (lv' := (7, .int v) :: (6, .int k) :: lLs bs b r o1 o2 i) hx hb dL_law_843 hl1 (by decide) rfl (fun ls2 hl2 => ?_)
  refine l_thr hF J2 (hc'.mono z4).fre hq'.tag hk (lv_at hl2 4 rfl) (lv_at hl2 1 rfl) hl2.1 u1132 u1133 u1134 hR (lRm5.fit2 hrm g5 hf) dL_law_845 dL_law_846 dL_law_849 dL_law_851 (fun H3 locs3 z5 J3 => ?_)
  refine l_cmpI hF hA1 J3 (lv_at hl2 5 rfl) (lv_at hl2 1 rfl) (lv_at hl2 0 rfl) hOk dL_law_856 dL_law_858 dL_law_861 dL_law_862 dL_law_863 dL_law_864 dL_law_866 dL_law_867 dL_law_868 dL_law_873 (by decide) ?_
  refine W.widen (lRm5.fit3 (slots := slots) hrm g5).1 (lRm5.fit3 (cells := cells) hrm g5).2 (kk H3 locs3 ls2 ⟨Sc', Sr', dq', cap', A', c1, v2, J3, ?_, ?_⟩ (lv_sub hl2 [2, 3, 4, 5, 6, 7] rfl))
  · exact hc'.mono (by omega)
  · exact hq'.mono (by omega)
theorem lz_walk {l : Launch} {D : va_G} {Y : Nat → ClassId} {Sc Sr : GS} {hs : Nat} {yl : ClassId} {o : Nat} {c0 : Value} {b r n cap : Nat} {dq : Nat → Nat} {A : AS} (hfl : l.stackTraces = false) (hc : Rc b n Sc hs A) (hq : Rq r dq cap Sr hs A) (hn : n ≤ 511) (x1 x2 : Int32) : lZ l yL_walk (lWs yL_walk cL_walk 5 [(0, 9, 12, 13), (0, 9, 16, 15), (0, 9, 20, 17)]) [va_rf (some b), .int x1, .int x2, va_rf (some o)] D Y Sc hs .long yl o c0 b r (n + 1) (fun c v => c = .long v) (fun hs2 => rL hs2 (f_X5_walk Sr r x1 x2)) := by
  obtain ⟨hw, hp, pa, ch, hr⟩ := id hc
  exact lZ_ask (lx := [1, 2, 4]) (rm1 := rmL_walk) (rm2 := rmLx_walk) (g := fun v => .long v) hc hq hn ⟨by decide, by decide⟩ ⟨(Nat.le_of_ble_eq_true rfl), (Nat.le_of_ble_eq_true rfl), (Nat.le_of_ble_eq_true rfl), (Nat.le_of_ble_eq_true rfl)⟩ ⟨(Nat.le_of_ble_eq_true rfl), (Nat.le_of_ble_eq_true rfl), (Nat.le_of_ble_eq_true rfl), (Nat.le_of_ble_eq_true rfl)⟩ (c_walk hr hw x1 x2) (r_walk hq hw x1 x2) (hz_same (V := Int64) (g := fun v => .long v) (Ok := fun c v => c = .long v) fun v _ => rfl) (fun v e => cL_walk_r e hc.tag) (fun x i e hi => cL_walk_x hfl e hc.tag hi)
set_option maxHeartbeats 4000000 in
set_option maxRecDepth 100000 in
theorem lc_walk {p : Program} {l : Launch} {e : Env} {R : Room} {s : State} {m : MethodId} {args : Array Value} {below : List Frame} {meth : Method} {c : Code} {H : Heap} {locs : List Loc} {cells slots : Nat} {Q : State → Prop} {ls : Array Slot} {D : va_G} {Y : Nat → ClassId} {Af : Nat → Prop} {rt : Option FieldType} {yl yd : ClassId} {o1 o2 b r n bs L i : Nat} {xs : Nat → Int32} (C : lCx p l s m args meth c rt D Y Af R yl yd bs L xs) (I : lInv D Y Af s.heap yl yd o1 o2 b r n H locs) (hn : n ≤ 511) (hi : i + 5 ≤ L) (hls : lv_has ls 9 (lLs bs b r o1 o2 i)) (hf : cells + 8 ≤ R.cells ∧ slots + 6000 ≤ R.slots)
    (kk : ∀ (H1 : Heap) (locs1 : List Loc) (ls1 : Array Slot), lInv D Y Af s.heap yl yd o1 o2 b r (n + 1) H1 locs1 → lv_has ls1 9 (lLs bs b r o1 o2 i) → W p l e R s m args below meth c H1 locs1 (cells + 8) (slots + 6000) Q (F0 m 3541 ls1 [])) : W p l e R s m args below meth c H locs cells slots Q (F0 m 876 ls []) := by
  obtain ⟨hF, hNc, hA1, hA2, hfl, hX, hbl, hbA, hL, hR⟩ := C
  obtain ⟨Sc, Sr, dq, cap, A, v1, v2, hJ, hc, hq⟩ := I
  have hx := hF.1
  have hb := hF.2.1
  have g5 : lRm5 rm_X5_walk := ⟨(Nat.le_of_ble_eq_true rfl), (Nat.le_of_ble_eq_true rfl), (Nat.le_of_ble_eq_true rfl), (Nat.le_of_ble_eq_true rfl)⟩
  obtain ⟨rm, k, c1, Sc', hs', hrm, hMet, hOK⟩ := lz_walk (D := D) (Y := Y) (yl := yl) (o := o1) (c0 := v1) hfl hc hq hn (xs (i + 1)) (bz (xs (i + 2)))
  refine g_aload_n hx hb dL_law_876 rfl (lv_at hls 1 rfl) ?_
  refine l_arg (jj := 1) hx hb hX hbl hbA hJ.1.2.2.2.1 (lv_at hls 0 rfl) (lv_at hls 5 rfl) (by omega) hL dL_law_877 dL_law_878 dL_law_880 (by decide) dL_law_881 dL_law_882 ?_
  refine l_arg (jj := 2) hx hb hX hbl hbA hJ.1.2.2.2.1 (lv_at hls 0 rfl) (lv_at hls 5 rfl) (by omega) hL dL_law_883 dL_law_884 dL_law_886 (by decide) dL_law_887 dL_law_888 ?_
  refine l_bool hx hb dL_law_889 dL_law_892 dL_law_893 dL_law_896 ?_
  refine g_aload_n hx hb dL_law_897 rfl (lv_at hls 3 rfl) ?_
  refine l_callW (rest := []) hF hNc hA1 hJ hq.fre hMet kL_walk u652 u653 rfl hls.1 rfl (Nat.le_of_ble_eq_true rfl) dL_law_898 (hrm.fit hR (Nat.le_of_ble_eq_true rfl)) (hrm.fit2 hf) (fun H1 locs1 z1 z2 J1 => ?_)
  obtain ⟨v, Sr', hs3, dq', cap', A', h5, hle, hk, hOk, hc', hq'⟩ := hOK H1.size z1
  refine lv_istore (i := 6) (lv' := (6, .int k) :: lLs bs b r o1 o2 i) hx hb dL_law_901 hls (by decide) rfl (fun ls1 hl1 => ?_)
  refine g_aload_n hx hb dL_law_903 rfl (lv_at hl1 3 rfl) ?_
  refine l_arg (jj := 1) hx hb hX hbl hbA J1.1.2.2.2.1 (lv_at hl1 1 rfl) (lv_at hl1 6 rfl) (by omega) hL dL_law_904 dL_law_905 dL_law_907 (by decide) dL_law_908 dL_law_909 ?_
  refine l_arg (jj := 2) hx hb hX hbl hbA J1.1.2.2.2.1 (lv_at hl1 1 rfl) (lv_at hl1 6 rfl) (by omega) hL dL_law_910 dL_law_911 dL_law_913 (by decide) dL_law_914 dL_law_915 ?_
  refine l_bool hx hb dL_law_916 dL_law_919 dL_law_920 dL_law_923 ?_
  obtain ⟨h6, rfl⟩ := rL_of h5
  refine l_callR (As := [.int (xs (i + 1)), .int (bz (xs (i + 2)))]) (rest := []) hF J1 hc'.fre (c_X5_walk h6) k_X5_walk u1516 u1517 u1518 rfl rfl hq.tag rfl hl1.1 rfl (Nat.le_of_ble_eq_true rfl) dL_law_924 (g5.fit hR (Nat.le_of_ble_eq_true rfl)) (lRm5.fit2 hrm g5 hf) (fun H2 locs2 z3 z4 J2 => ?_)
  refine lv_lstore (i := 7) (lv' := (7, .long v) :: (6, .int k) :: lLs bs b r o1 o2 i) hx hb dL_law_927 hl1 (by decide) rfl (fun ls2 hl2 => ?_)
  refine l_thr hF J2 (hc'.mono z4).fre hq'.tag hk (lv_at hl2 4 rfl) (lv_at hl2 1 rfl) hl2.1 u1132 u1133 u1134 hR (lRm5.fit2 hrm g5 hf) dL_law_929 dL_law_930 dL_law_933 dL_law_935 (fun H3 locs3 z5 J3 => ?_)
  refine l_cmpJ hF hA1 J3 (lv_at hl2 5 rfl) (lv_at hl2 1 rfl) (lv_at hl2 0 rfl) hOk dL_law_940 dL_law_942 dL_law_945 dL_law_946 dL_law_947 dL_law_948 dL_law_950 dL_law_951 dL_law_956 (by decide) ?_
  refine W.widen (lRm5.fit3 (slots := slots) hrm g5).1 (lRm5.fit3 (cells := cells) hrm g5).2 (kk H3 locs3 ls2 ⟨Sc', Sr', dq', cap', A', c1, v2, J3, ?_, ?_⟩ (lv_sub hl2 [2, 3, 4, 5, 6, 7] rfl))
  · exact hc'.mono (by omega)
  · exact hq'.mono (by omega)
theorem lz_isSame {l : Launch} {D : va_G} {Y : Nat → ClassId} {Sc Sr : GS} {hs : Nat} {yl : ClassId} {o : Nat} {c0 : Value} {b r n cap : Nat} {dq : Nat → Nat} {A : AS} (hfl : l.stackTraces = false) (hc : Rc b n Sc hs A) (hq : Rq r dq cap Sr hs A) (hn : n ≤ 511) (x1 x2 : Int32) : lZ l yL_isSame (lWs yL_isSame cL_isSame 5 [(0, 17, 20, 13), (0, 17, 24, 15)]) [va_rf (some b), .int x1, .int x2, va_rf (some o)] D Y Sc hs .long yl o c0 b r (n + 1) (fun c v => c = .long (bzL v)) (fun hs2 => rL hs2 (f_X5_isSame Sr r x1 x2)) := by
  obtain ⟨hw, hp, pa, ch, hr⟩ := id hc
  exact lZ_ask (lx := [1, 2]) (rm1 := rmL_isSame) (rm2 := rmLx_isSame) (g := fun v => .long (bzL v)) hc hq hn ⟨by decide, by decide⟩ ⟨(Nat.le_of_ble_eq_true rfl), (Nat.le_of_ble_eq_true rfl), (Nat.le_of_ble_eq_true rfl), (Nat.le_of_ble_eq_true rfl)⟩ ⟨(Nat.le_of_ble_eq_true rfl), (Nat.le_of_ble_eq_true rfl), (Nat.le_of_ble_eq_true rfl), (Nat.le_of_ble_eq_true rfl)⟩ (c_isSame hr hw x1 x2) (r_isSame hq hw x1 x2) (hz_same (V := Int32) (g := fun v => .long (bzL v)) (Ok := fun c v => c = .long (bzL v)) fun v _ => rfl) (fun v e => cL_isSame_r e hc.tag rfl) (fun x i e hi => cL_isSame_x hfl e hc.tag hi)
set_option maxHeartbeats 4000000 in
set_option maxRecDepth 100000 in
theorem lc_isSame {p : Program} {l : Launch} {e : Env} {R : Room} {s : State} {m : MethodId} {args : Array Value} {below : List Frame} {meth : Method} {c : Code} {H : Heap} {locs : List Loc} {cells slots : Nat} {Q : State → Prop} {ls : Array Slot} {D : va_G} {Y : Nat → ClassId} {Af : Nat → Prop} {rt : Option FieldType} {yl yd : ClassId} {o1 o2 b r n bs L i : Nat} {xs : Nat → Int32} (C : lCx p l s m args meth c rt D Y Af R yl yd bs L xs) (I : lInv D Y Af s.heap yl yd o1 o2 b r n H locs) (hn : n ≤ 511) (hi : i + 5 ≤ L) (hls : lv_has ls 9 (lLs bs b r o1 o2 i)) (hf : cells + 8 ≤ R.cells ∧ slots + 6000 ≤ R.slots)
    (kk : ∀ (H1 : Heap) (locs1 : List Loc) (ls1 : Array Slot), lInv D Y Af s.heap yl yd o1 o2 b r (n + 1) H1 locs1 → lv_has ls1 9 (lLs bs b r o1 o2 i) → W p l e R s m args below meth c H1 locs1 (cells + 8) (slots + 6000) Q (F0 m 3541 ls1 [])) : W p l e R s m args below meth c H locs cells slots Q (F0 m 959 ls []) := by
  obtain ⟨hF, hNc, hA1, hA2, hfl, hX, hbl, hbA, hL, hR⟩ := C
  obtain ⟨Sc, Sr, dq, cap, A, v1, v2, hJ, hc, hq⟩ := I
  have hx := hF.1
  have hb := hF.2.1
  have g5 : lRm5 rm_X5_isSame := ⟨(Nat.le_of_ble_eq_true rfl), (Nat.le_of_ble_eq_true rfl), (Nat.le_of_ble_eq_true rfl), (Nat.le_of_ble_eq_true rfl)⟩
  obtain ⟨rm, k, c1, Sc', hs', hrm, hMet, hOK⟩ := lz_isSame (D := D) (Y := Y) (yl := yl) (o := o1) (c0 := v1) hfl hc hq hn (xs (i + 1)) (xs (i + 2))
  refine g_aload_n hx hb dL_law_959 rfl (lv_at hls 1 rfl) ?_
  refine l_arg (jj := 1) hx hb hX hbl hbA hJ.1.2.2.2.1 (lv_at hls 0 rfl) (lv_at hls 5 rfl) (by omega) hL dL_law_960 dL_law_961 dL_law_963 (by decide) dL_law_964 dL_law_965 ?_
  refine l_arg (jj := 2) hx hb hX hbl hbA hJ.1.2.2.2.1 (lv_at hls 0 rfl) (lv_at hls 5 rfl) (by omega) hL dL_law_966 dL_law_967 dL_law_969 (by decide) dL_law_970 dL_law_971 ?_
  refine g_aload_n hx hb dL_law_972 rfl (lv_at hls 3 rfl) ?_
  refine l_callW (rest := []) hF hNc hA1 hJ hq.fre hMet kL_isSame u660 u661 rfl hls.1 rfl (Nat.le_of_ble_eq_true rfl) dL_law_973 (hrm.fit hR (Nat.le_of_ble_eq_true rfl)) (hrm.fit2 hf) (fun H1 locs1 z1 z2 J1 => ?_)
  obtain ⟨v, Sr', hs3, dq', cap', A', h5, hle, hk, hOk, hc', hq'⟩ := hOK H1.size z1
  refine lv_istore (i := 6) (lv' := (6, .int k) :: lLs bs b r o1 o2 i) hx hb dL_law_976 hls (by decide) rfl (fun ls1 hl1 => ?_)
  refine g_aload_n hx hb dL_law_978 rfl (lv_at hl1 3 rfl) ?_
  refine l_arg (jj := 1) hx hb hX hbl hbA J1.1.2.2.2.1 (lv_at hl1 1 rfl) (lv_at hl1 6 rfl) (by omega) hL dL_law_979 dL_law_980 dL_law_982 (by decide) dL_law_983 dL_law_984 ?_
  refine l_arg (jj := 2) hx hb hX hbl hbA J1.1.2.2.2.1 (lv_at hl1 1 rfl) (lv_at hl1 6 rfl) (by omega) hL dL_law_985 dL_law_986 dL_law_988 (by decide) dL_law_989 dL_law_990 ?_
  obtain ⟨h6, rfl⟩ := rL_of h5
  refine l_callR (As := [.int (xs (i + 1)), .int (xs (i + 2))]) (rest := []) hF J1 hc'.fre (c_X5_isSame h6) k_X5_isSame u1526 u1527 u1528 rfl rfl hq.tag rfl hl1.1 rfl (Nat.le_of_ble_eq_true rfl) dL_law_991 (g5.fit hR (Nat.le_of_ble_eq_true rfl)) (lRm5.fit2 hrm g5 hf) (fun H2 locs2 z3 z4 J2 => ?_)
  refine lv_istore (i := 7) (lv' := (7, .int v) :: (6, .int k) :: lLs bs b r o1 o2 i) hx hb dL_law_994 hl1 (by decide) rfl (fun ls2 hl2 => ?_)
  refine l_thr hF J2 (hc'.mono z4).fre hq'.tag hk (lv_at hl2 4 rfl) (lv_at hl2 1 rfl) hl2.1 u1132 u1133 u1134 hR (lRm5.fit2 hrm g5 hf) dL_law_996 dL_law_997 dL_law_1000 dL_law_1002 (fun H3 locs3 z5 J3 => ?_)
  refine l_cmpZ hF hA1 J3 (lv_at hl2 5 rfl) (lv_at hl2 1 rfl) (lv_at hl2 0 rfl) hOk dL_law_1007 dL_law_1009 dL_law_1012 dL_law_1013 dL_law_1014 dL_law_1015 dL_law_1017 dL_law_1020 dL_law_1021 dL_law_1024 dL_law_1025 dL_law_1026 dL_law_1031 (by decide) ?_
  refine W.widen (lRm5.fit3 (slots := slots) hrm g5).1 (lRm5.fit3 (cells := cells) hrm g5).2 (kk H3 locs3 ls2 ⟨Sc', Sr', dq', cap', A', c1, v2, J3, ?_, ?_⟩ (lv_sub hl2 [2, 3, 4, 5, 6, 7] rfl))
  · exact hc'.mono (by omega)
  · exact hq'.mono (by omega)
