abbrev rmL_part : Room := { frames := 3, cells := 2, slots := 11, locals := 70 }
abbrev rmLx_part : Room := { frames := 8, cells := 2, slots := 11, locals := 136 }
theorem kL_part : lKc yL_part cL_part 7 [(0, 14, 17, 13), (0, 14, 21, 15), (0, 14, 25, 17)] 6 := ⟨u406, u62, by decide +kernel, by decide +kernel, by decide +kernel⟩
set_option maxHeartbeats 4000000 in
set_option maxRecDepth 100000 in
theorem cL_part_r {l : Launch} {D : va_G} {Y : Nat → ClassId} {S : GS} {hs : Nat} {a0 o : Nat} {x1 : Int32} {x2 : Int32} {x3 : Int32} {x4 : Int32} {r : Int32} {S' : GS} {hs' : Nat} (h : f_X4_part S hs a0 x1 x2 x3 x4 = some (.inl (r, S', hs'))) {yl : ClassId} {c0 : Value} (hT : gT S a0 = 5) : lMet l yL_part (lWs yL_part cL_part 7 [(0, 14, 17, 13), (0, 14, 21, 15), (0, 14, 25, 17)]) rmL_part [va_rf (some a0), .int x1, .int x2, .int x3, .int x4, va_rf (some o)] D Y S hs .long yl o c0 0 (.long r.toInt64) S' hs' := by
  refine l_ofW (by decide +kernel) ⟨(Nat.le_of_ble_eq_true rfl), (List.forall_mem_cons.mpr ⟨rf_cat _, (List.forall_mem_cons.mpr ⟨rfl, (List.forall_mem_cons.mpr ⟨rfl, (List.forall_mem_cons.mpr ⟨rfl, (List.forall_mem_cons.mpr ⟨rfl, (List.forall_mem_cons.mpr ⟨rf_cat _, (fun _ h => absurd h List.not_mem_nil)⟩)⟩)⟩)⟩)⟩)⟩)⟩ ?_
  intro p e s m args below meth c ls hsz htab hF hNc hAr hO hT0 hM hl
  have hl : lv_has ls 7 [(0, va_rf (some a0)), (1, .int x1), (2, .int x2), (3, .int x3), (4, .int x4), (5, va_rf (some o))] := by rw [g_args [va_rf (some a0), .int x1, .int x2, .int x3, .int x4, va_rf (some o)] 0 (List.forall_mem_cons.mpr ⟨rf_cat _, (List.forall_mem_cons.mpr ⟨rfl, (List.forall_mem_cons.mpr ⟨rfl, (List.forall_mem_cons.mpr ⟨rfl, (List.forall_mem_cons.mpr ⟨rfl, (List.forall_mem_cons.mpr ⟨rf_cat _, (fun _ h => absurd h List.not_mem_nil)⟩)⟩)⟩)⟩)⟩)⟩)] at hl; exact hl
  have hF : gF p s m args meth c RL cL_part 7 (some .int) D Y (gA S hs) := hF
  have hx := hF.1
  have hb := hF.2.1
  refine g_aload hx hb dL_part_0 (lv_at hl 5 rfl) ?_
  refine lv_iconst (v := 0) hx hb dL_part_2 (by decide) ?_
  refine g_aload_n hx hb dL_part_3 rfl (lv_at hl 0 rfl) ?_
  refine lv_iload_n hx hb dL_part_4 rfl (lv_at hl 1 rfl) ?_
  refine lv_iload_n hx hb dL_part_5 rfl (lv_at hl 2 rfl) ?_
  refine lv_iload_n hx hb dL_part_6 rfl (lv_at hl 3 rfl) ?_
  refine lv_iload hx hb dL_part_7 (lv_at hl 4 rfl) ?_
  refine g_callV (As := [.int x1, .int x2, .int x3, .int x4]) (rest := [.int 0, va_rf (some o)]) hF hM (c_X4_part h) k_X4_part u489 u490 u491 rfl rfl hT rfl hl.1 rfl (Nat.le_of_ble_eq_true rfl) dL_part_9 ⟨(Nat.le_of_ble_eq_true rfl), (Nat.le_of_ble_eq_true rfl)⟩ ⟨(Nat.le_of_ble_eq_true rfl), (Nat.le_of_ble_eq_true rfl)⟩ (fun H locs hM => ?_)
  refine lv_i2l hx hb dL_part_12 rfl ?_
  refine l_last hF hsz hM hAr hO hT0 dL_part_13 (fun H locs h1 h2 h3 h4 h5 => ?_)
  refine lv_goto (tgt := 29) hx hb dL_part_14 (by decide) ?_
  refine lv_iconst (v := 0) hx hb dL_part_29 (by decide) ?_
  exact l_end hF rfl h1 h2 h3 h4 h5 dL_part_30 (Nat.le_of_ble_eq_true rfl) (Nat.le_of_ble_eq_true rfl)
set_option maxHeartbeats 4000000 in
set_option maxRecDepth 100000 in
theorem cL_part_x {l : Launch} {D : va_G} {Y : Nat → ClassId} {S : GS} {hs : Nat} {a0 o : Nat} {x1 : Int32} {x2 : Int32} {x3 : Int32} {x4 : Int32} {x : Nat} (hfl : l.stackTraces = false) (h : f_X4_part S hs a0 x1 x2 x3 x4 = some (.inr x)) {i : Nat} {yl : ClassId} {c0 : Value} (hT : gT S a0 = 5) (hi : ([1, 2, 4] : List Nat)[i]? = some x) : lMet l yL_part (lWs yL_part cL_part 7 [(0, 14, 17, 13), (0, 14, 21, 15), (0, 14, 25, 17)]) rmLx_part [va_rf (some a0), .int x1, .int x2, .int x3, .int x4, va_rf (some o)] D Y S hs .long yl o c0 (nI (i + 1)) c0 S hs := by
  refine l_ofW (by decide +kernel) ⟨(Nat.le_of_ble_eq_true rfl), (List.forall_mem_cons.mpr ⟨rf_cat _, (List.forall_mem_cons.mpr ⟨rfl, (List.forall_mem_cons.mpr ⟨rfl, (List.forall_mem_cons.mpr ⟨rfl, (List.forall_mem_cons.mpr ⟨rfl, (List.forall_mem_cons.mpr ⟨rf_cat _, (fun _ h => absurd h List.not_mem_nil)⟩)⟩)⟩)⟩)⟩)⟩)⟩ ?_
  intro p e s m args below meth c ls hsz htab hF hNc hAr hO hT0 hM hl
  have hl : lv_has ls 7 [(0, va_rf (some a0)), (1, .int x1), (2, .int x2), (3, .int x3), (4, .int x4), (5, va_rf (some o))] := by rw [g_args [va_rf (some a0), .int x1, .int x2, .int x3, .int x4, va_rf (some o)] 0 (List.forall_mem_cons.mpr ⟨rf_cat _, (List.forall_mem_cons.mpr ⟨rfl, (List.forall_mem_cons.mpr ⟨rfl, (List.forall_mem_cons.mpr ⟨rfl, (List.forall_mem_cons.mpr ⟨rfl, (List.forall_mem_cons.mpr ⟨rf_cat _, (fun _ h => absurd h List.not_mem_nil)⟩)⟩)⟩)⟩)⟩)⟩)] at hl; exact hl
  have hF : gF p s m args meth c RL cL_part 7 (some .int) D Y (gA S hs) := hF
  have hx := hF.1
  have hb := hF.2.1
  rcases i with _ | _ | _ | i
  · have hx9 := Option.some.inj hi
    subst hx9
    refine g_aload hx hb dL_part_0 (lv_at hl 5 rfl) ?_
    refine lv_iconst (v := 0) hx hb dL_part_2 (by decide) ?_
    refine g_aload_n hx hb dL_part_3 rfl (lv_at hl 0 rfl) ?_
    refine lv_iload_n hx hb dL_part_4 rfl (lv_at hl 1 rfl) ?_
    refine lv_iload_n hx hb dL_part_5 rfl (lv_at hl 2 rfl) ?_
    refine lv_iload_n hx hb dL_part_6 rfl (lv_at hl 3 rfl) ?_
    refine lv_iload hx hb dL_part_7 (lv_at hl 4 rfl) ?_
    refine l_callX (pre := []) (x0 := ⟨0, 14, 17, 13⟩) (suf := [⟨0, 14, 21, 15⟩, ⟨0, 14, 25, 17⟩]) (As := [.int x1, .int x2, .int x3, .int x4]) (rest := [.int 0, va_rf (some o)]) hF hNc hM htab (cx_X4_part hfl h) k_X4_part u489 u490 u491 rfl rfl hT rfl hl.1 rfl (Nat.le_of_ble_eq_true rfl) dL_part_9 ⟨(Nat.le_of_ble_eq_true rfl), (Nat.le_of_ble_eq_true rfl)⟩ ⟨(Nat.le_of_ble_eq_true rfl), (Nat.le_of_ble_eq_true rfl)⟩ rfl (by decide) (by decide) (by decide) (fun _ h => absurd h List.not_mem_nil) u407 (fun q H locs h1 h2 h5 => ?_)
    refine g_astore (i := 6) (lv' := [(0, va_rf (some a0)), (1, .int x1), (2, .int x2), (3, .int x3), (4, .int x4), (5, va_rf (some o))]) hx hb dL_part_17 hl (by decide) (fun v => rfl) (fun ls hl => ?_)
    refine lv_iconst (v := nI (0 + 1)) hx hb dL_part_19 (by decide) ?_
    exact l_endX hF hsz rfl hO hT0 h1 h2 h5 dL_part_20 (Nat.le_of_ble_eq_true rfl) (Nat.le_of_ble_eq_true rfl)
  · have hx9 := Option.some.inj hi
    subst hx9
    refine g_aload hx hb dL_part_0 (lv_at hl 5 rfl) ?_
    refine lv_iconst (v := 0) hx hb dL_part_2 (by decide) ?_
    refine g_aload_n hx hb dL_part_3 rfl (lv_at hl 0 rfl) ?_
    refine lv_iload_n hx hb dL_part_4 rfl (lv_at hl 1 rfl) ?_
    refine lv_iload_n hx hb dL_part_5 rfl (lv_at hl 2 rfl) ?_
    refine lv_iload_n hx hb dL_part_6 rfl (lv_at hl 3 rfl) ?_
    refine lv_iload hx hb dL_part_7 (lv_at hl 4 rfl) ?_
    refine l_callX (pre := [⟨0, 14, 17, 13⟩]) (x0 := ⟨0, 14, 21, 15⟩) (suf := [⟨0, 14, 25, 17⟩]) (As := [.int x1, .int x2, .int x3, .int x4]) (rest := [.int 0, va_rf (some o)]) hF hNc hM htab (cx_X4_part hfl h) k_X4_part u489 u490 u491 rfl rfl hT rfl hl.1 rfl (Nat.le_of_ble_eq_true rfl) dL_part_9 ⟨(Nat.le_of_ble_eq_true rfl), (Nat.le_of_ble_eq_true rfl)⟩ ⟨(Nat.le_of_ble_eq_true rfl), (Nat.le_of_ble_eq_true rfl)⟩ rfl (by decide) (by decide) (by decide) (List.forall_mem_cons.mpr ⟨⟨by decide, 1, by decide, u407⟩, (fun _ h => absurd h List.not_mem_nil)⟩) u487 (fun q H locs h1 h2 h5 => ?_)
    refine g_astore (i := 6) (lv' := [(0, va_rf (some a0)), (1, .int x1), (2, .int x2), (3, .int x3), (4, .int x4), (5, va_rf (some o))]) hx hb dL_part_21 hl (by decide) (fun v => rfl) (fun ls hl => ?_)
    refine lv_iconst (v := nI (1 + 1)) hx hb dL_part_23 (by decide) ?_
    exact l_endX hF hsz rfl hO hT0 h1 h2 h5 dL_part_24 (Nat.le_of_ble_eq_true rfl) (Nat.le_of_ble_eq_true rfl)
  · have hx9 := Option.some.inj hi
    subst hx9
    refine g_aload hx hb dL_part_0 (lv_at hl 5 rfl) ?_
    refine lv_iconst (v := 0) hx hb dL_part_2 (by decide) ?_
    refine g_aload_n hx hb dL_part_3 rfl (lv_at hl 0 rfl) ?_
    refine lv_iload_n hx hb dL_part_4 rfl (lv_at hl 1 rfl) ?_
    refine lv_iload_n hx hb dL_part_5 rfl (lv_at hl 2 rfl) ?_
    refine lv_iload_n hx hb dL_part_6 rfl (lv_at hl 3 rfl) ?_
    refine lv_iload hx hb dL_part_7 (lv_at hl 4 rfl) ?_
    refine l_callX (pre := [⟨0, 14, 17, 13⟩, ⟨0, 14, 21, 15⟩]) (x0 := ⟨0, 14, 25, 17⟩) (suf := []) (As := [.int x1, .int x2, .int x3, .int x4]) (rest := [.int 0, va_rf (some o)]) hF hNc hM htab (cx_X4_part hfl h) k_X4_part u489 u490 u491 rfl rfl hT rfl hl.1 rfl (Nat.le_of_ble_eq_true rfl) dL_part_9 ⟨(Nat.le_of_ble_eq_true rfl), (Nat.le_of_ble_eq_true rfl)⟩ ⟨(Nat.le_of_ble_eq_true rfl), (Nat.le_of_ble_eq_true rfl)⟩ rfl (by decide) (by decide) (by decide) (List.forall_mem_cons.mpr ⟨⟨by decide, 1, by decide, u407⟩, (List.forall_mem_cons.mpr ⟨⟨by decide, 2, by decide, u487⟩, (fun _ h => absurd h List.not_mem_nil)⟩)⟩) u488 (fun q H locs h1 h2 h5 => ?_)
    refine g_astore (i := 6) (lv' := [(0, va_rf (some a0)), (1, .int x1), (2, .int x2), (3, .int x3), (4, .int x4), (5, va_rf (some o))]) hx hb dL_part_25 hl (by decide) (fun v => rfl) (fun ls hl => ?_)
    refine lv_iconst (v := nI (2 + 1)) hx hb dL_part_27 (by decide) ?_
    exact l_endX hF hsz rfl hO hT0 h1 h2 h5 dL_part_28 (Nat.le_of_ble_eq_true rfl) (Nat.le_of_ble_eq_true rfl)
  · exact absurd hi (by simp)
abbrev rmL_fixed : Room := { frames := 3, cells := 1, slots := 7, locals := 67 }
abbrev rmLx_fixed : Room := { frames := 8, cells := 1, slots := 7, locals := 133 }
theorem kL_fixed : lKc yL_fixed cL_fixed 5 [(0, 10, 13, 13), (0, 10, 17, 15)] 4 := ⟨u578, u62, by decide +kernel, by decide +kernel, by decide +kernel⟩
set_option maxHeartbeats 4000000 in
set_option maxRecDepth 100000 in
theorem cL_fixed_r {l : Launch} {D : va_G} {Y : Nat → ClassId} {S : GS} {hs : Nat} {a0 o : Nat} {x1 : Int32} {x2 : Int32} {r : Int32} {S' : GS} {hs' : Nat} (h : f_X4_fixed S hs a0 x1 x2 = some (.inl (r, S', hs'))) {yl : ClassId} {c0 : Value} (hT : gT S a0 = 5) : lMet l yL_fixed (lWs yL_fixed cL_fixed 5 [(0, 10, 13, 13), (0, 10, 17, 15)]) rmL_fixed [va_rf (some a0), .int x1, .int x2, va_rf (some o)] D Y S hs .long yl o c0 0 (.long r.toInt64) S' hs' := by
  refine l_ofW (by decide +kernel) ⟨(Nat.le_of_ble_eq_true rfl), (List.forall_mem_cons.mpr ⟨rf_cat _, (List.forall_mem_cons.mpr ⟨rfl, (List.forall_mem_cons.mpr ⟨rfl, (List.forall_mem_cons.mpr ⟨rf_cat _, (fun _ h => absurd h List.not_mem_nil)⟩)⟩)⟩)⟩)⟩ ?_
  intro p e s m args below meth c ls hsz htab hF hNc hAr hO hT0 hM hl
  have hl : lv_has ls 5 [(0, va_rf (some a0)), (1, .int x1), (2, .int x2), (3, va_rf (some o))] := by rw [g_args [va_rf (some a0), .int x1, .int x2, va_rf (some o)] 0 (List.forall_mem_cons.mpr ⟨rf_cat _, (List.forall_mem_cons.mpr ⟨rfl, (List.forall_mem_cons.mpr ⟨rfl, (List.forall_mem_cons.mpr ⟨rf_cat _, (fun _ h => absurd h List.not_mem_nil)⟩)⟩)⟩)⟩)] at hl; exact hl
  have hF : gF p s m args meth c RL cL_fixed 5 (some .int) D Y (gA S hs) := hF
  have hx := hF.1
  have hb := hF.2.1
  refine g_aload_n hx hb dL_fixed_0 rfl (lv_at hl 3 rfl) ?_
  refine lv_iconst (v := 0) hx hb dL_fixed_1 (by decide) ?_
  refine g_aload_n hx hb dL_fixed_2 rfl (lv_at hl 0 rfl) ?_
  refine lv_iload_n hx hb dL_fixed_3 rfl (lv_at hl 1 rfl) ?_
  refine lv_iload_n hx hb dL_fixed_4 rfl (lv_at hl 2 rfl) ?_
  refine g_callV (As := [.int x1, .int x2]) (rest := [.int 0, va_rf (some o)]) hF hM (c_X4_fixed h) k_X4_fixed u579 u580 u581 rfl rfl hT rfl hl.1 rfl (Nat.le_of_ble_eq_true rfl) dL_fixed_5 ⟨(Nat.le_of_ble_eq_true rfl), (Nat.le_of_ble_eq_true rfl)⟩ ⟨(Nat.le_of_ble_eq_true rfl), (Nat.le_of_ble_eq_true rfl)⟩ (fun H locs hM => ?_)
  refine lv_i2l hx hb dL_fixed_8 rfl ?_
  refine l_last hF hsz hM hAr hO hT0 dL_fixed_9 (fun H locs h1 h2 h3 h4 h5 => ?_)
  refine lv_goto (tgt := 21) hx hb dL_fixed_10 (by decide) ?_
  refine lv_iconst (v := 0) hx hb dL_fixed_21 (by decide) ?_
  exact l_end hF rfl h1 h2 h3 h4 h5 dL_fixed_22 (Nat.le_of_ble_eq_true rfl) (Nat.le_of_ble_eq_true rfl)
set_option maxHeartbeats 4000000 in
set_option maxRecDepth 100000 in
theorem cL_fixed_x {l : Launch} {D : va_G} {Y : Nat → ClassId} {S : GS} {hs : Nat} {a0 o : Nat} {x1 : Int32} {x2 : Int32} {x : Nat} (hfl : l.stackTraces = false) (h : f_X4_fixed S hs a0 x1 x2 = some (.inr x)) {i : Nat} {yl : ClassId} {c0 : Value} (hT : gT S a0 = 5) (hi : ([1, 2] : List Nat)[i]? = some x) : lMet l yL_fixed (lWs yL_fixed cL_fixed 5 [(0, 10, 13, 13), (0, 10, 17, 15)]) rmLx_fixed [va_rf (some a0), .int x1, .int x2, va_rf (some o)] D Y S hs .long yl o c0 (nI (i + 1)) c0 S hs := by
  refine l_ofW (by decide +kernel) ⟨(Nat.le_of_ble_eq_true rfl), (List.forall_mem_cons.mpr ⟨rf_cat _, (List.forall_mem_cons.mpr ⟨rfl, (List.forall_mem_cons.mpr ⟨rfl, (List.forall_mem_cons.mpr ⟨rf_cat _, (fun _ h => absurd h List.not_mem_nil)⟩)⟩)⟩)⟩)⟩ ?_
  intro p e s m args below meth c ls hsz htab hF hNc hAr hO hT0 hM hl
  have hl : lv_has ls 5 [(0, va_rf (some a0)), (1, .int x1), (2, .int x2), (3, va_rf (some o))] := by rw [g_args [va_rf (some a0), .int x1, .int x2, va_rf (some o)] 0 (List.forall_mem_cons.mpr ⟨rf_cat _, (List.forall_mem_cons.mpr ⟨rfl, (List.forall_mem_cons.mpr ⟨rfl, (List.forall_mem_cons.mpr ⟨rf_cat _, (fun _ h => absurd h List.not_mem_nil)⟩)⟩)⟩)⟩)] at hl; exact hl
  have hF : gF p s m args meth c RL cL_fixed 5 (some .int) D Y (gA S hs) := hF
  have hx := hF.1
  have hb := hF.2.1
  rcases i with _ | _ | i
  · have hx9 := Option.some.inj hi
    subst hx9
    refine g_aload_n hx hb dL_fixed_0 rfl (lv_at hl 3 rfl) ?_
    refine lv_iconst (v := 0) hx hb dL_fixed_1 (by decide) ?_
    refine g_aload_n hx hb dL_fixed_2 rfl (lv_at hl 0 rfl) ?_
    refine lv_iload_n hx hb dL_fixed_3 rfl (lv_at hl 1 rfl) ?_
    refine lv_iload_n hx hb dL_fixed_4 rfl (lv_at hl 2 rfl) ?_
    refine l_callX (pre := []) (x0 := ⟨0, 10, 13, 13⟩) (suf := [⟨0, 10, 17, 15⟩]) (As := [.int x1, .int x2]) (rest := [.int 0, va_rf (some o)]) hF hNc hM htab (cx_X4_fixed hfl h) k_X4_fixed u579 u580 u581 rfl rfl hT rfl hl.1 rfl (Nat.le_of_ble_eq_true rfl) dL_fixed_5 ⟨(Nat.le_of_ble_eq_true rfl), (Nat.le_of_ble_eq_true rfl)⟩ ⟨(Nat.le_of_ble_eq_true rfl), (Nat.le_of_ble_eq_true rfl)⟩ rfl (by decide) (by decide) (by decide) (fun _ h => absurd h List.not_mem_nil) u407 (fun q H locs h1 h2 h5 => ?_)
    refine g_astore (i := 4) (lv' := [(0, va_rf (some a0)), (1, .int x1), (2, .int x2), (3, va_rf (some o))]) hx hb dL_fixed_13 hl (by decide) (fun v => rfl) (fun ls hl => ?_)
    refine lv_iconst (v := nI (0 + 1)) hx hb dL_fixed_15 (by decide) ?_
    exact l_endX hF hsz rfl hO hT0 h1 h2 h5 dL_fixed_16 (Nat.le_of_ble_eq_true rfl) (Nat.le_of_ble_eq_true rfl)
  · have hx9 := Option.some.inj hi
    subst hx9
    refine g_aload_n hx hb dL_fixed_0 rfl (lv_at hl 3 rfl) ?_
    refine lv_iconst (v := 0) hx hb dL_fixed_1 (by decide) ?_
    refine g_aload_n hx hb dL_fixed_2 rfl (lv_at hl 0 rfl) ?_
    refine lv_iload_n hx hb dL_fixed_3 rfl (lv_at hl 1 rfl) ?_
    refine lv_iload_n hx hb dL_fixed_4 rfl (lv_at hl 2 rfl) ?_
    refine l_callX (pre := [⟨0, 10, 13, 13⟩]) (x0 := ⟨0, 10, 17, 15⟩) (suf := []) (As := [.int x1, .int x2]) (rest := [.int 0, va_rf (some o)]) hF hNc hM htab (cx_X4_fixed hfl h) k_X4_fixed u579 u580 u581 rfl rfl hT rfl hl.1 rfl (Nat.le_of_ble_eq_true rfl) dL_fixed_5 ⟨(Nat.le_of_ble_eq_true rfl), (Nat.le_of_ble_eq_true rfl)⟩ ⟨(Nat.le_of_ble_eq_true rfl), (Nat.le_of_ble_eq_true rfl)⟩ rfl (by decide) (by decide) (by decide) (List.forall_mem_cons.mpr ⟨⟨by decide, 1, by decide, u407⟩, (fun _ h => absurd h List.not_mem_nil)⟩) u487 (fun q H locs h1 h2 h5 => ?_)
    refine g_astore (i := 4) (lv' := [(0, va_rf (some a0)), (1, .int x1), (2, .int x2), (3, va_rf (some o))]) hx hb dL_fixed_17 hl (by decide) (fun v => rfl) (fun ls hl => ?_)
    refine lv_iconst (v := nI (1 + 1)) hx hb dL_fixed_19 (by decide) ?_
    exact l_endX hF hsz rfl hO hT0 h1 h2 h5 dL_fixed_20 (Nat.le_of_ble_eq_true rfl) (Nat.le_of_ble_eq_true rfl)
  · exact absurd hi (by simp)
abbrev rmL_copies : Room := { frames := 3, cells := 1, slots := 7, locals := 68 }
abbrev rmLx_copies : Room := { frames := 8, cells := 1, slots := 7, locals := 134 }
theorem kL_copies : lKc yL_copies cL_copies 7 [(0, 14, 17, 13), (0, 14, 21, 17)] 6 := ⟨u585, u62, by decide +kernel, by decide +kernel, by decide +kernel⟩
set_option maxHeartbeats 4000000 in
set_option maxRecDepth 100000 in
theorem cL_copies_r {l : Launch} {D : va_G} {Y : Nat → ClassId} {S : GS} {hs : Nat} {a0 o : Nat} {x1 : Int32} {x2 : Int32} {x3 : Int32} {x4 : Int32} {r : Int32} {S' : GS} {hs' : Nat} (h : f_X4_copies S hs a0 x1 x2 x3 x4 = some (.inl (r, S', hs'))) {yl : ClassId} {c0 : Value} (hT : gT S a0 = 5) : lMet l yL_copies (lWs yL_copies cL_copies 7 [(0, 14, 17, 13), (0, 14, 21, 17)]) rmL_copies [va_rf (some a0), .int x1, .int x2, .int x3, .int x4, va_rf (some o)] D Y S hs .long yl o c0 0 (.long r.toInt64) S' hs' := by
  refine l_ofW (by decide +kernel) ⟨(Nat.le_of_ble_eq_true rfl), (List.forall_mem_cons.mpr ⟨rf_cat _, (List.forall_mem_cons.mpr ⟨rfl, (List.forall_mem_cons.mpr ⟨rfl, (List.forall_mem_cons.mpr ⟨rfl, (List.forall_mem_cons.mpr ⟨rfl, (List.forall_mem_cons.mpr ⟨rf_cat _, (fun _ h => absurd h List.not_mem_nil)⟩)⟩)⟩)⟩)⟩)⟩)⟩ ?_
  intro p e s m args below meth c ls hsz htab hF hNc hAr hO hT0 hM hl
  have hl : lv_has ls 7 [(0, va_rf (some a0)), (1, .int x1), (2, .int x2), (3, .int x3), (4, .int x4), (5, va_rf (some o))] := by rw [g_args [va_rf (some a0), .int x1, .int x2, .int x3, .int x4, va_rf (some o)] 0 (List.forall_mem_cons.mpr ⟨rf_cat _, (List.forall_mem_cons.mpr ⟨rfl, (List.forall_mem_cons.mpr ⟨rfl, (List.forall_mem_cons.mpr ⟨rfl, (List.forall_mem_cons.mpr ⟨rfl, (List.forall_mem_cons.mpr ⟨rf_cat _, (fun _ h => absurd h List.not_mem_nil)⟩)⟩)⟩)⟩)⟩)⟩)] at hl; exact hl
  have hF : gF p s m args meth c RL cL_copies 7 (some .int) D Y (gA S hs) := hF
  have hx := hF.1
  have hb := hF.2.1
  refine g_aload hx hb dL_copies_0 (lv_at hl 5 rfl) ?_
  refine lv_iconst (v := 0) hx hb dL_copies_2 (by decide) ?_
  refine g_aload_n hx hb dL_copies_3 rfl (lv_at hl 0 rfl) ?_
  refine lv_iload_n hx hb dL_copies_4 rfl (lv_at hl 1 rfl) ?_
  refine lv_iload_n hx hb dL_copies_5 rfl (lv_at hl 2 rfl) ?_
  refine lv_iload_n hx hb dL_copies_6 rfl (lv_at hl 3 rfl) ?_
  refine lv_iload hx hb dL_copies_7 (lv_at hl 4 rfl) ?_
  refine g_callV (As := [.int x1, .int x2, .int x3, .int x4]) (rest := [.int 0, va_rf (some o)]) hF hM (c_X4_copies h) k_X4_copies u586 u587 u588 rfl rfl hT rfl hl.1 rfl (Nat.le_of_ble_eq_true rfl) dL_copies_9 ⟨(Nat.le_of_ble_eq_true rfl), (Nat.le_of_ble_eq_true rfl)⟩ ⟨(Nat.le_of_ble_eq_true rfl), (Nat.le_of_ble_eq_true rfl)⟩ (fun H locs hM => ?_)
  refine lv_i2l hx hb dL_copies_12 rfl ?_
  refine l_last hF hsz hM hAr hO hT0 dL_copies_13 (fun H locs h1 h2 h3 h4 h5 => ?_)
  refine lv_goto (tgt := 25) hx hb dL_copies_14 (by decide) ?_
  refine lv_iconst (v := 0) hx hb dL_copies_25 (by decide) ?_
  exact l_end hF rfl h1 h2 h3 h4 h5 dL_copies_26 (Nat.le_of_ble_eq_true rfl) (Nat.le_of_ble_eq_true rfl)
set_option maxHeartbeats 4000000 in
set_option maxRecDepth 100000 in
theorem cL_copies_x {l : Launch} {D : va_G} {Y : Nat → ClassId} {S : GS} {hs : Nat} {a0 o : Nat} {x1 : Int32} {x2 : Int32} {x3 : Int32} {x4 : Int32} {x : Nat} (hfl : l.stackTraces = false) (h : f_X4_copies S hs a0 x1 x2 x3 x4 = some (.inr x)) {i : Nat} {yl : ClassId} {c0 : Value} (hT : gT S a0 = 5) (hi : ([1, 4] : List Nat)[i]? = some x) : lMet l yL_copies (lWs yL_copies cL_copies 7 [(0, 14, 17, 13), (0, 14, 21, 17)]) rmLx_copies [va_rf (some a0), .int x1, .int x2, .int x3, .int x4, va_rf (some o)] D Y S hs .long yl o c0 (nI (i + 1)) c0 S hs := by
  refine l_ofW (by decide +kernel) ⟨(Nat.le_of_ble_eq_true rfl), (List.forall_mem_cons.mpr ⟨rf_cat _, (List.forall_mem_cons.mpr ⟨rfl, (List.forall_mem_cons.mpr ⟨rfl, (List.forall_mem_cons.mpr ⟨rfl, (List.forall_mem_cons.mpr ⟨rfl, (List.forall_mem_cons.mpr ⟨rf_cat _, (fun _ h => absurd h List.not_mem_nil)⟩)⟩)⟩)⟩)⟩)⟩)⟩ ?_
  intro p e s m args below meth c ls hsz htab hF hNc hAr hO hT0 hM hl
  have hl : lv_has ls 7 [(0, va_rf (some a0)), (1, .int x1), (2, .int x2), (3, .int x3), (4, .int x4), (5, va_rf (some o))] := by rw [g_args [va_rf (some a0), .int x1, .int x2, .int x3, .int x4, va_rf (some o)] 0 (List.forall_mem_cons.mpr ⟨rf_cat _, (List.forall_mem_cons.mpr ⟨rfl, (List.forall_mem_cons.mpr ⟨rfl, (List.forall_mem_cons.mpr ⟨rfl, (List.forall_mem_cons.mpr ⟨rfl, (List.forall_mem_cons.mpr ⟨rf_cat _, (fun _ h => absurd h List.not_mem_nil)⟩)⟩)⟩)⟩)⟩)⟩)] at hl; exact hl
  have hF : gF p s m args meth c RL cL_copies 7 (some .int) D Y (gA S hs) := hF
  have hx := hF.1
  have hb := hF.2.1
  rcases i with _ | _ | i
  · have hx9 := Option.some.inj hi
    subst hx9
    refine g_aload hx hb dL_copies_0 (lv_at hl 5 rfl) ?_
    refine lv_iconst (v := 0) hx hb dL_copies_2 (by decide) ?_
    refine g_aload_n hx hb dL_copies_3 rfl (lv_at hl 0 rfl) ?_
    refine lv_iload_n hx hb dL_copies_4 rfl (lv_at hl 1 rfl) ?_
    refine lv_iload_n hx hb dL_copies_5 rfl (lv_at hl 2 rfl) ?_
    refine lv_iload_n hx hb dL_copies_6 rfl (lv_at hl 3 rfl) ?_
    refine lv_iload hx hb dL_copies_7 (lv_at hl 4 rfl) ?_
    refine l_callX (pre := []) (x0 := ⟨0, 14, 17, 13⟩) (suf := [⟨0, 14, 21, 17⟩]) (As := [.int x1, .int x2, .int x3, .int x4]) (rest := [.int 0, va_rf (some o)]) hF hNc hM htab (cx_X4_copies hfl h) k_X4_copies u586 u587 u588 rfl rfl hT rfl hl.1 rfl (Nat.le_of_ble_eq_true rfl) dL_copies_9 ⟨(Nat.le_of_ble_eq_true rfl), (Nat.le_of_ble_eq_true rfl)⟩ ⟨(Nat.le_of_ble_eq_true rfl), (Nat.le_of_ble_eq_true rfl)⟩ rfl (by decide) (by decide) (by decide) (fun _ h => absurd h List.not_mem_nil) u407 (fun q H locs h1 h2 h5 => ?_)
    refine g_astore (i := 6) (lv' := [(0, va_rf (some a0)), (1, .int x1), (2, .int x2), (3, .int x3), (4, .int x4), (5, va_rf (some o))]) hx hb dL_copies_17 hl (by decide) (fun v => rfl) (fun ls hl => ?_)
    refine lv_iconst (v := nI (0 + 1)) hx hb dL_copies_19 (by decide) ?_
    exact l_endX hF hsz rfl hO hT0 h1 h2 h5 dL_copies_20 (Nat.le_of_ble_eq_true rfl) (Nat.le_of_ble_eq_true rfl)
  · have hx9 := Option.some.inj hi
    subst hx9
    refine g_aload hx hb dL_copies_0 (lv_at hl 5 rfl) ?_
    refine lv_iconst (v := 0) hx hb dL_copies_2 (by decide) ?_
    refine g_aload_n hx hb dL_copies_3 rfl (lv_at hl 0 rfl) ?_
    refine lv_iload_n hx hb dL_copies_4 rfl (lv_at hl 1 rfl) ?_
    refine lv_iload_n hx hb dL_copies_5 rfl (lv_at hl 2 rfl) ?_
    refine lv_iload_n hx hb dL_copies_6 rfl (lv_at hl 3 rfl) ?_
    refine lv_iload hx hb dL_copies_7 (lv_at hl 4 rfl) ?_
    refine l_callX (pre := [⟨0, 14, 17, 13⟩]) (x0 := ⟨0, 14, 21, 17⟩) (suf := []) (As := [.int x1, .int x2, .int x3, .int x4]) (rest := [.int 0, va_rf (some o)]) hF hNc hM htab (cx_X4_copies hfl h) k_X4_copies u586 u587 u588 rfl rfl hT rfl hl.1 rfl (Nat.le_of_ble_eq_true rfl) dL_copies_9 ⟨(Nat.le_of_ble_eq_true rfl), (Nat.le_of_ble_eq_true rfl)⟩ ⟨(Nat.le_of_ble_eq_true rfl), (Nat.le_of_ble_eq_true rfl)⟩ rfl (by decide) (by decide) (by decide) (List.forall_mem_cons.mpr ⟨⟨by decide, 1, by decide, u407⟩, (fun _ h => absurd h List.not_mem_nil)⟩) u488 (fun q H locs h1 h2 h5 => ?_)
    refine g_astore (i := 6) (lv' := [(0, va_rf (some a0)), (1, .int x1), (2, .int x2), (3, .int x3), (4, .int x4), (5, va_rf (some o))]) hx hb dL_copies_21 hl (by decide) (fun v => rfl) (fun ls hl => ?_)
    refine lv_iconst (v := nI (1 + 1)) hx hb dL_copies_23 (by decide) ?_
    exact l_endX hF hsz rfl hO hT0 h1 h2 h5 dL_copies_24 (Nat.le_of_ble_eq_true rfl) (Nat.le_of_ble_eq_true rfl)
  · exact absurd hi (by simp)
abbrev rmL_alone : Room := { frames := 5, cells := 1, slots := 7, locals := 109 }
abbrev rmLx_alone : Room := { frames := 8, cells := 1, slots := 7, locals := 134 }
theorem kL_alone : lKc yL_alone cL_alone 6 [(0, 12, 15, 13), (0, 12, 19, 17)] 5 := ⟨u598, u62, by decide +kernel, by decide +kernel, by decide +kernel⟩
set_option maxHeartbeats 4000000 in
set_option maxRecDepth 100000 in
theorem cL_alone_r {l : Launch} {D : va_G} {Y : Nat → ClassId} {S : GS} {hs : Nat} {a0 o : Nat} {x1 : Int32} {x2 : Int32} {x3 : Int32} {r : Int32} {S' : GS} {hs' : Nat} (h : f_X4_alone S hs a0 x1 x2 x3 = some (.inl (r, S', hs'))) {yl : ClassId} {c0 : Value} (hT : gT S a0 = 5) : lMet l yL_alone (lWs yL_alone cL_alone 6 [(0, 12, 15, 13), (0, 12, 19, 17)]) rmL_alone [va_rf (some a0), .int x1, .int x2, .int x3, va_rf (some o)] D Y S hs .long yl o c0 0 (.long r.toInt64) S' hs' := by
  refine l_ofW (by decide +kernel) ⟨(Nat.le_of_ble_eq_true rfl), (List.forall_mem_cons.mpr ⟨rf_cat _, (List.forall_mem_cons.mpr ⟨rfl, (List.forall_mem_cons.mpr ⟨rfl, (List.forall_mem_cons.mpr ⟨rfl, (List.forall_mem_cons.mpr ⟨rf_cat _, (fun _ h => absurd h List.not_mem_nil)⟩)⟩)⟩)⟩)⟩)⟩ ?_
  intro p e s m args below meth c ls hsz htab hF hNc hAr hO hT0 hM hl
  have hl : lv_has ls 6 [(0, va_rf (some a0)), (1, .int x1), (2, .int x2), (3, .int x3), (4, va_rf (some o))] := by rw [g_args [va_rf (some a0), .int x1, .int x2, .int x3, va_rf (some o)] 0 (List.forall_mem_cons.mpr ⟨rf_cat _, (List.forall_mem_cons.mpr ⟨rfl, (List.forall_mem_cons.mpr ⟨rfl, (List.forall_mem_cons.mpr ⟨rfl, (List.forall_mem_cons.mpr ⟨rf_cat _, (fun _ h => absurd h List.not_mem_nil)⟩)⟩)⟩)⟩)⟩)] at hl; exact hl
  have hF : gF p s m args meth c RL cL_alone 6 (some .int) D Y (gA S hs) := hF
  have hx := hF.1
  have hb := hF.2.1
  refine g_aload hx hb dL_alone_0 (lv_at hl 4 rfl) ?_
  refine lv_iconst (v := 0) hx hb dL_alone_2 (by decide) ?_
  refine g_aload_n hx hb dL_alone_3 rfl (lv_at hl 0 rfl) ?_
  refine lv_iload_n hx hb dL_alone_4 rfl (lv_at hl 1 rfl) ?_
  refine lv_iload_n hx hb dL_alone_5 rfl (lv_at hl 2 rfl) ?_
  refine lv_iload_n hx hb dL_alone_6 rfl (lv_at hl 3 rfl) ?_
  refine g_callV (As := [.int x1, .int x2, .int x3]) (rest := [.int 0, va_rf (some o)]) hF hM (c_X4_alone h) k_X4_alone u599 u600 u601 rfl rfl hT rfl hl.1 rfl (Nat.le_of_ble_eq_true rfl) dL_alone_7 ⟨(Nat.le_of_ble_eq_true rfl), (Nat.le_of_ble_eq_true rfl)⟩ ⟨(Nat.le_of_ble_eq_true rfl), (Nat.le_of_ble_eq_true rfl)⟩ (fun H locs hM => ?_)
  refine lv_i2l hx hb dL_alone_10 rfl ?_
  refine l_last hF hsz hM hAr hO hT0 dL_alone_11 (fun H locs h1 h2 h3 h4 h5 => ?_)
  refine lv_goto (tgt := 23) hx hb dL_alone_12 (by decide) ?_
  refine lv_iconst (v := 0) hx hb dL_alone_23 (by decide) ?_
  exact l_end hF rfl h1 h2 h3 h4 h5 dL_alone_24 (Nat.le_of_ble_eq_true rfl) (Nat.le_of_ble_eq_true rfl)
set_option maxHeartbeats 4000000 in
set_option maxRecDepth 100000 in
theorem cL_alone_x {l : Launch} {D : va_G} {Y : Nat → ClassId} {S : GS} {hs : Nat} {a0 o : Nat} {x1 : Int32} {x2 : Int32} {x3 : Int32} {x : Nat} (hfl : l.stackTraces = false) (h : f_X4_alone S hs a0 x1 x2 x3 = some (.inr x)) {i : Nat} {yl : ClassId} {c0 : Value} (hT : gT S a0 = 5) (hi : ([1, 4] : List Nat)[i]? = some x) : lMet l yL_alone (lWs yL_alone cL_alone 6 [(0, 12, 15, 13), (0, 12, 19, 17)]) rmLx_alone [va_rf (some a0), .int x1, .int x2, .int x3, va_rf (some o)] D Y S hs .long yl o c0 (nI (i + 1)) c0 S hs := by
  refine l_ofW (by decide +kernel) ⟨(Nat.le_of_ble_eq_true rfl), (List.forall_mem_cons.mpr ⟨rf_cat _, (List.forall_mem_cons.mpr ⟨rfl, (List.forall_mem_cons.mpr ⟨rfl, (List.forall_mem_cons.mpr ⟨rfl, (List.forall_mem_cons.mpr ⟨rf_cat _, (fun _ h => absurd h List.not_mem_nil)⟩)⟩)⟩)⟩)⟩)⟩ ?_
  intro p e s m args below meth c ls hsz htab hF hNc hAr hO hT0 hM hl
  have hl : lv_has ls 6 [(0, va_rf (some a0)), (1, .int x1), (2, .int x2), (3, .int x3), (4, va_rf (some o))] := by rw [g_args [va_rf (some a0), .int x1, .int x2, .int x3, va_rf (some o)] 0 (List.forall_mem_cons.mpr ⟨rf_cat _, (List.forall_mem_cons.mpr ⟨rfl, (List.forall_mem_cons.mpr ⟨rfl, (List.forall_mem_cons.mpr ⟨rfl, (List.forall_mem_cons.mpr ⟨rf_cat _, (fun _ h => absurd h List.not_mem_nil)⟩)⟩)⟩)⟩)⟩)] at hl; exact hl
  have hF : gF p s m args meth c RL cL_alone 6 (some .int) D Y (gA S hs) := hF
  have hx := hF.1
  have hb := hF.2.1
  rcases i with _ | _ | i
  · have hx9 := Option.some.inj hi
    subst hx9
    refine g_aload hx hb dL_alone_0 (lv_at hl 4 rfl) ?_
    refine lv_iconst (v := 0) hx hb dL_alone_2 (by decide) ?_
    refine g_aload_n hx hb dL_alone_3 rfl (lv_at hl 0 rfl) ?_
    refine lv_iload_n hx hb dL_alone_4 rfl (lv_at hl 1 rfl) ?_
    refine lv_iload_n hx hb dL_alone_5 rfl (lv_at hl 2 rfl) ?_
    refine lv_iload_n hx hb dL_alone_6 rfl (lv_at hl 3 rfl) ?_
    refine l_callX (pre := []) (x0 := ⟨0, 12, 15, 13⟩) (suf := [⟨0, 12, 19, 17⟩]) (As := [.int x1, .int x2, .int x3]) (rest := [.int 0, va_rf (some o)]) hF hNc hM htab (cx_X4_alone hfl h) k_X4_alone u599 u600 u601 rfl rfl hT rfl hl.1 rfl (Nat.le_of_ble_eq_true rfl) dL_alone_7 ⟨(Nat.le_of_ble_eq_true rfl), (Nat.le_of_ble_eq_true rfl)⟩ ⟨(Nat.le_of_ble_eq_true rfl), (Nat.le_of_ble_eq_true rfl)⟩ rfl (by decide) (by decide) (by decide) (fun _ h => absurd h List.not_mem_nil) u407 (fun q H locs h1 h2 h5 => ?_)
    refine g_astore (i := 5) (lv' := [(0, va_rf (some a0)), (1, .int x1), (2, .int x2), (3, .int x3), (4, va_rf (some o))]) hx hb dL_alone_15 hl (by decide) (fun v => rfl) (fun ls hl => ?_)
    refine lv_iconst (v := nI (0 + 1)) hx hb dL_alone_17 (by decide) ?_
    exact l_endX hF hsz rfl hO hT0 h1 h2 h5 dL_alone_18 (Nat.le_of_ble_eq_true rfl) (Nat.le_of_ble_eq_true rfl)
  · have hx9 := Option.some.inj hi
    subst hx9
    refine g_aload hx hb dL_alone_0 (lv_at hl 4 rfl) ?_
    refine lv_iconst (v := 0) hx hb dL_alone_2 (by decide) ?_
    refine g_aload_n hx hb dL_alone_3 rfl (lv_at hl 0 rfl) ?_
    refine lv_iload_n hx hb dL_alone_4 rfl (lv_at hl 1 rfl) ?_
    refine lv_iload_n hx hb dL_alone_5 rfl (lv_at hl 2 rfl) ?_
    refine lv_iload_n hx hb dL_alone_6 rfl (lv_at hl 3 rfl) ?_
    refine l_callX (pre := [⟨0, 12, 15, 13⟩]) (x0 := ⟨0, 12, 19, 17⟩) (suf := []) (As := [.int x1, .int x2, .int x3]) (rest := [.int 0, va_rf (some o)]) hF hNc hM htab (cx_X4_alone hfl h) k_X4_alone u599 u600 u601 rfl rfl hT rfl hl.1 rfl (Nat.le_of_ble_eq_true rfl) dL_alone_7 ⟨(Nat.le_of_ble_eq_true rfl), (Nat.le_of_ble_eq_true rfl)⟩ ⟨(Nat.le_of_ble_eq_true rfl), (Nat.le_of_ble_eq_true rfl)⟩ rfl (by decide) (by decide) (by decide) (List.forall_mem_cons.mpr ⟨⟨by decide, 1, by decide, u407⟩, (fun _ h => absurd h List.not_mem_nil)⟩) u488 (fun q H locs h1 h2 h5 => ?_)
    refine g_astore (i := 5) (lv' := [(0, va_rf (some a0)), (1, .int x1), (2, .int x2), (3, .int x3), (4, va_rf (some o))]) hx hb dL_alone_19 hl (by decide) (fun v => rfl) (fun ls hl => ?_)
    refine lv_iconst (v := nI (1 + 1)) hx hb dL_alone_21 (by decide) ?_
    exact l_endX hF hsz rfl hO hT0 h1 h2 h5 dL_alone_22 (Nat.le_of_ble_eq_true rfl) (Nat.le_of_ble_eq_true rfl)
  · exact absurd hi (by simp)
abbrev rmL_none : Room := { frames := 3, cells := 1, slots := 7, locals := 67 }
abbrev rmLx_none : Room := { frames := 8, cells := 1, slots := 7, locals := 132 }
theorem kL_none : lKc yL_none cL_none 4 [(0, 9, 12, 13)] 3 := ⟨u606, u62, by decide +kernel, by decide +kernel, by decide +kernel⟩
set_option maxHeartbeats 4000000 in
set_option maxRecDepth 100000 in
theorem cL_none_r {l : Launch} {D : va_G} {Y : Nat → ClassId} {S : GS} {hs : Nat} {a0 o : Nat} {x1 : Int32} {r : Int32} {S' : GS} {hs' : Nat} (h : f_X4_none S hs a0 x1 = some (.inl (r, S', hs'))) {yl : ClassId} {c0 : Value} (hT : gT S a0 = 5) : lMet l yL_none (lWs yL_none cL_none 4 [(0, 9, 12, 13)]) rmL_none [va_rf (some a0), .int x1, va_rf (some o)] D Y S hs .long yl o c0 0 (.long r.toInt64) S' hs' := by
  refine l_ofW (by decide +kernel) ⟨(Nat.le_of_ble_eq_true rfl), (List.forall_mem_cons.mpr ⟨rf_cat _, (List.forall_mem_cons.mpr ⟨rfl, (List.forall_mem_cons.mpr ⟨rf_cat _, (fun _ h => absurd h List.not_mem_nil)⟩)⟩)⟩)⟩ ?_
  intro p e s m args below meth c ls hsz htab hF hNc hAr hO hT0 hM hl
  have hl : lv_has ls 4 [(0, va_rf (some a0)), (1, .int x1), (2, va_rf (some o))] := by rw [g_args [va_rf (some a0), .int x1, va_rf (some o)] 0 (List.forall_mem_cons.mpr ⟨rf_cat _, (List.forall_mem_cons.mpr ⟨rfl, (List.forall_mem_cons.mpr ⟨rf_cat _, (fun _ h => absurd h List.not_mem_nil)⟩)⟩)⟩)] at hl; exact hl
  have hF : gF p s m args meth c RL cL_none 4 (some .int) D Y (gA S hs) := hF
  have hx := hF.1
  have hb := hF.2.1
  refine g_aload_n hx hb dL_none_0 rfl (lv_at hl 2 rfl) ?_
  refine lv_iconst (v := 0) hx hb dL_none_1 (by decide) ?_
  refine g_aload_n hx hb dL_none_2 rfl (lv_at hl 0 rfl) ?_
  refine lv_iload_n hx hb dL_none_3 rfl (lv_at hl 1 rfl) ?_
  refine g_callV (As := [.int x1]) (rest := [.int 0, va_rf (some o)]) hF hM (c_X4_none h) k_X4_none u607 u608 u609 rfl rfl hT rfl hl.1 rfl (Nat.le_of_ble_eq_true rfl) dL_none_4 ⟨(Nat.le_of_ble_eq_true rfl), (Nat.le_of_ble_eq_true rfl)⟩ ⟨(Nat.le_of_ble_eq_true rfl), (Nat.le_of_ble_eq_true rfl)⟩ (fun H locs hM => ?_)
  refine lv_i2l hx hb dL_none_7 rfl ?_
  refine l_last hF hsz hM hAr hO hT0 dL_none_8 (fun H locs h1 h2 h3 h4 h5 => ?_)
  refine lv_goto (tgt := 15) hx hb dL_none_9 (by decide) ?_
  refine lv_iconst (v := 0) hx hb dL_none_15 (by decide) ?_
  exact l_end hF rfl h1 h2 h3 h4 h5 dL_none_16 (Nat.le_of_ble_eq_true rfl) (Nat.le_of_ble_eq_true rfl)
set_option maxHeartbeats 4000000 in
set_option maxRecDepth 100000 in
theorem cL_none_x {l : Launch} {D : va_G} {Y : Nat → ClassId} {S : GS} {hs : Nat} {a0 o : Nat} {x1 : Int32} {x : Nat} (hfl : l.stackTraces = false) (h : f_X4_none S hs a0 x1 = some (.inr x)) {i : Nat} {yl : ClassId} {c0 : Value} (hT : gT S a0 = 5) (hi : ([1] : List Nat)[i]? = some x) : lMet l yL_none (lWs yL_none cL_none 4 [(0, 9, 12, 13)]) rmLx_none [va_rf (some a0), .int x1, va_rf (some o)] D Y S hs .long yl o c0 (nI (i + 1)) c0 S hs := by
  refine l_ofW (by decide +kernel) ⟨(Nat.le_of_ble_eq_true rfl), (List.forall_mem_cons.mpr ⟨rf_cat _, (List.forall_mem_cons.mpr ⟨rfl, (List.forall_mem_cons.mpr ⟨rf_cat _, (fun _ h => absurd h List.not_mem_nil)⟩)⟩)⟩)⟩ ?_
  intro p e s m args below meth c ls hsz htab hF hNc hAr hO hT0 hM hl
  have hl : lv_has ls 4 [(0, va_rf (some a0)), (1, .int x1), (2, va_rf (some o))] := by rw [g_args [va_rf (some a0), .int x1, va_rf (some o)] 0 (List.forall_mem_cons.mpr ⟨rf_cat _, (List.forall_mem_cons.mpr ⟨rfl, (List.forall_mem_cons.mpr ⟨rf_cat _, (fun _ h => absurd h List.not_mem_nil)⟩)⟩)⟩)] at hl; exact hl
  have hF : gF p s m args meth c RL cL_none 4 (some .int) D Y (gA S hs) := hF
  have hx := hF.1
  have hb := hF.2.1
  rcases i with _ | i
  · have hx9 := Option.some.inj hi
    subst hx9
    refine g_aload_n hx hb dL_none_0 rfl (lv_at hl 2 rfl) ?_
    refine lv_iconst (v := 0) hx hb dL_none_1 (by decide) ?_
    refine g_aload_n hx hb dL_none_2 rfl (lv_at hl 0 rfl) ?_
    refine lv_iload_n hx hb dL_none_3 rfl (lv_at hl 1 rfl) ?_
    refine l_callX (pre := []) (x0 := ⟨0, 9, 12, 13⟩) (suf := []) (As := [.int x1]) (rest := [.int 0, va_rf (some o)]) hF hNc hM htab (cx_X4_none hfl h) k_X4_none u607 u608 u609 rfl rfl hT rfl hl.1 rfl (Nat.le_of_ble_eq_true rfl) dL_none_4 ⟨(Nat.le_of_ble_eq_true rfl), (Nat.le_of_ble_eq_true rfl)⟩ ⟨(Nat.le_of_ble_eq_true rfl), (Nat.le_of_ble_eq_true rfl)⟩ rfl (by decide) (by decide) (by decide) (fun _ h => absurd h List.not_mem_nil) u407 (fun q H locs h1 h2 h5 => ?_)
    refine g_astore_n (i := 3) (lv' := [(0, va_rf (some a0)), (1, .int x1), (2, va_rf (some o))]) hx hb dL_none_12 rfl hl (by decide) (fun v => rfl) (fun ls hl => ?_)
    refine lv_iconst (v := nI (0 + 1)) hx hb dL_none_13 (by decide) ?_
    exact l_endX hF hsz rfl hO hT0 h1 h2 h5 dL_none_14 (Nat.le_of_ble_eq_true rfl) (Nat.le_of_ble_eq_true rfl)
  · exact absurd hi (by simp)
abbrev rmL_keys : Room := { frames := 4, cells := 1, slots := 7, locals := 90 }
abbrev rmLx_keys : Room := { frames := 10, cells := 1, slots := 7, locals := 178 }
theorem kL_keys : lKc yL_keys cL_keys 5 [(0, 10, 13, 13), (0, 10, 17, 15)] 4 := ⟨u613, u62, by decide +kernel, by decide +kernel, by decide +kernel⟩
set_option maxHeartbeats 4000000 in
set_option maxRecDepth 100000 in
theorem cL_keys_r {l : Launch} {D : va_G} {Y : Nat → ClassId} {S : GS} {hs : Nat} {a0 o : Nat} {x1 : Int32} {x2 : Int32} {r : Int32} {S' : GS} {hs' : Nat} (h : f_X4_keys S hs a0 x1 x2 = some (.inl (r, S', hs'))) {yl : ClassId} {c0 : Value} (hT : gT S a0 = 5) : lMet l yL_keys (lWs yL_keys cL_keys 5 [(0, 10, 13, 13), (0, 10, 17, 15)]) rmL_keys [va_rf (some a0), .int x1, .int x2, va_rf (some o)] D Y S hs .long yl o c0 0 (.long r.toInt64) S' hs' := by
  refine l_ofW (by decide +kernel) ⟨(Nat.le_of_ble_eq_true rfl), (List.forall_mem_cons.mpr ⟨rf_cat _, (List.forall_mem_cons.mpr ⟨rfl, (List.forall_mem_cons.mpr ⟨rfl, (List.forall_mem_cons.mpr ⟨rf_cat _, (fun _ h => absurd h List.not_mem_nil)⟩)⟩)⟩)⟩)⟩ ?_
  intro p e s m args below meth c ls hsz htab hF hNc hAr hO hT0 hM hl
  have hl : lv_has ls 5 [(0, va_rf (some a0)), (1, .int x1), (2, .int x2), (3, va_rf (some o))] := by rw [g_args [va_rf (some a0), .int x1, .int x2, va_rf (some o)] 0 (List.forall_mem_cons.mpr ⟨rf_cat _, (List.forall_mem_cons.mpr ⟨rfl, (List.forall_mem_cons.mpr ⟨rfl, (List.forall_mem_cons.mpr ⟨rf_cat _, (fun _ h => absurd h List.not_mem_nil)⟩)⟩)⟩)⟩)] at hl; exact hl
  have hF : gF p s m args meth c RL cL_keys 5 (some .int) D Y (gA S hs) := hF
  have hx := hF.1
  have hb := hF.2.1
  refine g_aload_n hx hb dL_keys_0 rfl (lv_at hl 3 rfl) ?_
  refine lv_iconst (v := 0) hx hb dL_keys_1 (by decide) ?_
  refine g_aload_n hx hb dL_keys_2 rfl (lv_at hl 0 rfl) ?_
  refine lv_iload_n hx hb dL_keys_3 rfl (lv_at hl 1 rfl) ?_
  refine lv_iload_n hx hb dL_keys_4 rfl (lv_at hl 2 rfl) ?_
  refine g_callV (As := [.int x1, .int x2]) (rest := [.int 0, va_rf (some o)]) hF hM (c_X4_keys h) k_X4_keys u614 u615 u616 rfl rfl hT rfl hl.1 rfl (Nat.le_of_ble_eq_true rfl) dL_keys_5 ⟨(Nat.le_of_ble_eq_true rfl), (Nat.le_of_ble_eq_true rfl)⟩ ⟨(Nat.le_of_ble_eq_true rfl), (Nat.le_of_ble_eq_true rfl)⟩ (fun H locs hM => ?_)
  refine lv_i2l hx hb dL_keys_8 rfl ?_
  refine l_last hF hsz hM hAr hO hT0 dL_keys_9 (fun H locs h1 h2 h3 h4 h5 => ?_)
  refine lv_goto (tgt := 21) hx hb dL_keys_10 (by decide) ?_
  refine lv_iconst (v := 0) hx hb dL_keys_21 (by decide) ?_
  exact l_end hF rfl h1 h2 h3 h4 h5 dL_keys_22 (Nat.le_of_ble_eq_true rfl) (Nat.le_of_ble_eq_true rfl)
set_option maxHeartbeats 4000000 in
set_option maxRecDepth 100000 in
theorem cL_keys_x {l : Launch} {D : va_G} {Y : Nat → ClassId} {S : GS} {hs : Nat} {a0 o : Nat} {x1 : Int32} {x2 : Int32} {x : Nat} (hfl : l.stackTraces = false) (h : f_X4_keys S hs a0 x1 x2 = some (.inr x)) {i : Nat} {yl : ClassId} {c0 : Value} (hT : gT S a0 = 5) (hi : ([1, 2] : List Nat)[i]? = some x) : lMet l yL_keys (lWs yL_keys cL_keys 5 [(0, 10, 13, 13), (0, 10, 17, 15)]) rmLx_keys [va_rf (some a0), .int x1, .int x2, va_rf (some o)] D Y S hs .long yl o c0 (nI (i + 1)) c0 S hs := by
  refine l_ofW (by decide +kernel) ⟨(Nat.le_of_ble_eq_true rfl), (List.forall_mem_cons.mpr ⟨rf_cat _, (List.forall_mem_cons.mpr ⟨rfl, (List.forall_mem_cons.mpr ⟨rfl, (List.forall_mem_cons.mpr ⟨rf_cat _, (fun _ h => absurd h List.not_mem_nil)⟩)⟩)⟩)⟩)⟩ ?_
  intro p e s m args below meth c ls hsz htab hF hNc hAr hO hT0 hM hl
  have hl : lv_has ls 5 [(0, va_rf (some a0)), (1, .int x1), (2, .int x2), (3, va_rf (some o))] := by rw [g_args [va_rf (some a0), .int x1, .int x2, va_rf (some o)] 0 (List.forall_mem_cons.mpr ⟨rf_cat _, (List.forall_mem_cons.mpr ⟨rfl, (List.forall_mem_cons.mpr ⟨rfl, (List.forall_mem_cons.mpr ⟨rf_cat _, (fun _ h => absurd h List.not_mem_nil)⟩)⟩)⟩)⟩)] at hl; exact hl
  have hF : gF p s m args meth c RL cL_keys 5 (some .int) D Y (gA S hs) := hF
  have hx := hF.1
  have hb := hF.2.1
  rcases i with _ | _ | i
  · have hx9 := Option.some.inj hi
    subst hx9
    refine g_aload_n hx hb dL_keys_0 rfl (lv_at hl 3 rfl) ?_
    refine lv_iconst (v := 0) hx hb dL_keys_1 (by decide) ?_
    refine g_aload_n hx hb dL_keys_2 rfl (lv_at hl 0 rfl) ?_
    refine lv_iload_n hx hb dL_keys_3 rfl (lv_at hl 1 rfl) ?_
    refine lv_iload_n hx hb dL_keys_4 rfl (lv_at hl 2 rfl) ?_
    refine l_callX (pre := []) (x0 := ⟨0, 10, 13, 13⟩) (suf := [⟨0, 10, 17, 15⟩]) (As := [.int x1, .int x2]) (rest := [.int 0, va_rf (some o)]) hF hNc hM htab (cx_X4_keys hfl h) k_X4_keys u614 u615 u616 rfl rfl hT rfl hl.1 rfl (Nat.le_of_ble_eq_true rfl) dL_keys_5 ⟨(Nat.le_of_ble_eq_true rfl), (Nat.le_of_ble_eq_true rfl)⟩ ⟨(Nat.le_of_ble_eq_true rfl), (Nat.le_of_ble_eq_true rfl)⟩ rfl (by decide) (by decide) (by decide) (fun _ h => absurd h List.not_mem_nil) u407 (fun q H locs h1 h2 h5 => ?_)
    refine g_astore (i := 4) (lv' := [(0, va_rf (some a0)), (1, .int x1), (2, .int x2), (3, va_rf (some o))]) hx hb dL_keys_13 hl (by decide) (fun v => rfl) (fun ls hl => ?_)
    refine lv_iconst (v := nI (0 + 1)) hx hb dL_keys_15 (by decide) ?_
    exact l_endX hF hsz rfl hO hT0 h1 h2 h5 dL_keys_16 (Nat.le_of_ble_eq_true rfl) (Nat.le_of_ble_eq_true rfl)
  · have hx9 := Option.some.inj hi
    subst hx9
    refine g_aload_n hx hb dL_keys_0 rfl (lv_at hl 3 rfl) ?_
    refine lv_iconst (v := 0) hx hb dL_keys_1 (by decide) ?_
    refine g_aload_n hx hb dL_keys_2 rfl (lv_at hl 0 rfl) ?_
    refine lv_iload_n hx hb dL_keys_3 rfl (lv_at hl 1 rfl) ?_
    refine lv_iload_n hx hb dL_keys_4 rfl (lv_at hl 2 rfl) ?_
    refine l_callX (pre := [⟨0, 10, 13, 13⟩]) (x0 := ⟨0, 10, 17, 15⟩) (suf := []) (As := [.int x1, .int x2]) (rest := [.int 0, va_rf (some o)]) hF hNc hM htab (cx_X4_keys hfl h) k_X4_keys u614 u615 u616 rfl rfl hT rfl hl.1 rfl (Nat.le_of_ble_eq_true rfl) dL_keys_5 ⟨(Nat.le_of_ble_eq_true rfl), (Nat.le_of_ble_eq_true rfl)⟩ ⟨(Nat.le_of_ble_eq_true rfl), (Nat.le_of_ble_eq_true rfl)⟩ rfl (by decide) (by decide) (by decide) (List.forall_mem_cons.mpr ⟨⟨by decide, 1, by decide, u407⟩, (fun _ h => absurd h List.not_mem_nil)⟩) u487 (fun q H locs h1 h2 h5 => ?_)
    refine g_astore (i := 4) (lv' := [(0, va_rf (some a0)), (1, .int x1), (2, .int x2), (3, va_rf (some o))]) hx hb dL_keys_17 hl (by decide) (fun v => rfl) (fun ls hl => ?_)
    refine lv_iconst (v := nI (1 + 1)) hx hb dL_keys_19 (by decide) ?_
    exact l_endX hF hsz rfl hO hT0 h1 h2 h5 dL_keys_20 (Nat.le_of_ble_eq_true rfl) (Nat.le_of_ble_eq_true rfl)
  · exact absurd hi (by simp)
abbrev rmL_values : Room := { frames := 4, cells := 1, slots := 7, locals := 90 }
abbrev rmLx_values : Room := { frames := 10, cells := 1, slots := 7, locals := 178 }
theorem kL_values : lKc yL_values cL_values 5 [(0, 10, 13, 13), (0, 10, 17, 15)] 4 := ⟨u629, u62, by decide +kernel, by decide +kernel, by decide +kernel⟩
set_option maxHeartbeats 4000000 in
set_option maxRecDepth 100000 in
theorem cL_values_r {l : Launch} {D : va_G} {Y : Nat → ClassId} {S : GS} {hs : Nat} {a0 o : Nat} {x1 : Int32} {x2 : Int32} {r : Int32} {S' : GS} {hs' : Nat} (h : f_X4_values S hs a0 x1 x2 = some (.inl (r, S', hs'))) {yl : ClassId} {c0 : Value} (hT : gT S a0 = 5) : lMet l yL_values (lWs yL_values cL_values 5 [(0, 10, 13, 13), (0, 10, 17, 15)]) rmL_values [va_rf (some a0), .int x1, .int x2, va_rf (some o)] D Y S hs .long yl o c0 0 (.long r.toInt64) S' hs' := by
  refine l_ofW (by decide +kernel) ⟨(Nat.le_of_ble_eq_true rfl), (List.forall_mem_cons.mpr ⟨rf_cat _, (List.forall_mem_cons.mpr ⟨rfl, (List.forall_mem_cons.mpr ⟨rfl, (List.forall_mem_cons.mpr ⟨rf_cat _, (fun _ h => absurd h List.not_mem_nil)⟩)⟩)⟩)⟩)⟩ ?_
  intro p e s m args below meth c ls hsz htab hF hNc hAr hO hT0 hM hl
  have hl : lv_has ls 5 [(0, va_rf (some a0)), (1, .int x1), (2, .int x2), (3, va_rf (some o))] := by rw [g_args [va_rf (some a0), .int x1, .int x2, va_rf (some o)] 0 (List.forall_mem_cons.mpr ⟨rf_cat _, (List.forall_mem_cons.mpr ⟨rfl, (List.forall_mem_cons.mpr ⟨rfl, (List.forall_mem_cons.mpr ⟨rf_cat _, (fun _ h => absurd h List.not_mem_nil)⟩)⟩)⟩)⟩)] at hl; exact hl
  have hF : gF p s m args meth c RL cL_values 5 (some .int) D Y (gA S hs) := hF
  have hx := hF.1
  have hb := hF.2.1
  refine g_aload_n hx hb dL_values_0 rfl (lv_at hl 3 rfl) ?_
  refine lv_iconst (v := 0) hx hb dL_values_1 (by decide) ?_
  refine g_aload_n hx hb dL_values_2 rfl (lv_at hl 0 rfl) ?_
  refine lv_iload_n hx hb dL_values_3 rfl (lv_at hl 1 rfl) ?_
  refine lv_iload_n hx hb dL_values_4 rfl (lv_at hl 2 rfl) ?_
  refine g_callV (As := [.int x1, .int x2]) (rest := [.int 0, va_rf (some o)]) hF hM (c_X4_values h) k_X4_values u630 u631 u632 rfl rfl hT rfl hl.1 rfl (Nat.le_of_ble_eq_true rfl) dL_values_5 ⟨(Nat.le_of_ble_eq_true rfl), (Nat.le_of_ble_eq_true rfl)⟩ ⟨(Nat.le_of_ble_eq_true rfl), (Nat.le_of_ble_eq_true rfl)⟩ (fun H locs hM => ?_)
  refine lv_i2l hx hb dL_values_8 rfl ?_
  refine l_last hF hsz hM hAr hO hT0 dL_values_9 (fun H locs h1 h2 h3 h4 h5 => ?_)
  refine lv_goto (tgt := 21) hx hb dL_values_10 (by decide) ?_
  refine lv_iconst (v := 0) hx hb dL_values_21 (by decide) ?_
  exact l_end hF rfl h1 h2 h3 h4 h5 dL_values_22 (Nat.le_of_ble_eq_true rfl) (Nat.le_of_ble_eq_true rfl)
set_option maxHeartbeats 4000000 in
set_option maxRecDepth 100000 in
theorem cL_values_x {l : Launch} {D : va_G} {Y : Nat → ClassId} {S : GS} {hs : Nat} {a0 o : Nat} {x1 : Int32} {x2 : Int32} {x : Nat} (hfl : l.stackTraces = false) (h : f_X4_values S hs a0 x1 x2 = some (.inr x)) {i : Nat} {yl : ClassId} {c0 : Value} (hT : gT S a0 = 5) (hi : ([1, 2] : List Nat)[i]? = some x) : lMet l yL_values (lWs yL_values cL_values 5 [(0, 10, 13, 13), (0, 10, 17, 15)]) rmLx_values [va_rf (some a0), .int x1, .int x2, va_rf (some o)] D Y S hs .long yl o c0 (nI (i + 1)) c0 S hs := by
  refine l_ofW (by decide +kernel) ⟨(Nat.le_of_ble_eq_true rfl), (List.forall_mem_cons.mpr ⟨rf_cat _, (List.forall_mem_cons.mpr ⟨rfl, (List.forall_mem_cons.mpr ⟨rfl, (List.forall_mem_cons.mpr ⟨rf_cat _, (fun _ h => absurd h List.not_mem_nil)⟩)⟩)⟩)⟩)⟩ ?_
  intro p e s m args below meth c ls hsz htab hF hNc hAr hO hT0 hM hl
  have hl : lv_has ls 5 [(0, va_rf (some a0)), (1, .int x1), (2, .int x2), (3, va_rf (some o))] := by rw [g_args [va_rf (some a0), .int x1, .int x2, va_rf (some o)] 0 (List.forall_mem_cons.mpr ⟨rf_cat _, (List.forall_mem_cons.mpr ⟨rfl, (List.forall_mem_cons.mpr ⟨rfl, (List.forall_mem_cons.mpr ⟨rf_cat _, (fun _ h => absurd h List.not_mem_nil)⟩)⟩)⟩)⟩)] at hl; exact hl
  have hF : gF p s m args meth c RL cL_values 5 (some .int) D Y (gA S hs) := hF
  have hx := hF.1
  have hb := hF.2.1
  rcases i with _ | _ | i
  · have hx9 := Option.some.inj hi
    subst hx9
    refine g_aload_n hx hb dL_values_0 rfl (lv_at hl 3 rfl) ?_
    refine lv_iconst (v := 0) hx hb dL_values_1 (by decide) ?_
    refine g_aload_n hx hb dL_values_2 rfl (lv_at hl 0 rfl) ?_
    refine lv_iload_n hx hb dL_values_3 rfl (lv_at hl 1 rfl) ?_
    refine lv_iload_n hx hb dL_values_4 rfl (lv_at hl 2 rfl) ?_
    refine l_callX (pre := []) (x0 := ⟨0, 10, 13, 13⟩) (suf := [⟨0, 10, 17, 15⟩]) (As := [.int x1, .int x2]) (rest := [.int 0, va_rf (some o)]) hF hNc hM htab (cx_X4_values hfl h) k_X4_values u630 u631 u632 rfl rfl hT rfl hl.1 rfl (Nat.le_of_ble_eq_true rfl) dL_values_5 ⟨(Nat.le_of_ble_eq_true rfl), (Nat.le_of_ble_eq_true rfl)⟩ ⟨(Nat.le_of_ble_eq_true rfl), (Nat.le_of_ble_eq_true rfl)⟩ rfl (by decide) (by decide) (by decide) (fun _ h => absurd h List.not_mem_nil) u407 (fun q H locs h1 h2 h5 => ?_)
    refine g_astore (i := 4) (lv' := [(0, va_rf (some a0)), (1, .int x1), (2, .int x2), (3, va_rf (some o))]) hx hb dL_values_13 hl (by decide) (fun v => rfl) (fun ls hl => ?_)
    refine lv_iconst (v := nI (0 + 1)) hx hb dL_values_15 (by decide) ?_
    exact l_endX hF hsz rfl hO hT0 h1 h2 h5 dL_values_16 (Nat.le_of_ble_eq_true rfl) (Nat.le_of_ble_eq_true rfl)
  · have hx9 := Option.some.inj hi
    subst hx9
    refine g_aload_n hx hb dL_values_0 rfl (lv_at hl 3 rfl) ?_
    refine lv_iconst (v := 0) hx hb dL_values_1 (by decide) ?_
    refine g_aload_n hx hb dL_values_2 rfl (lv_at hl 0 rfl) ?_
    refine lv_iload_n hx hb dL_values_3 rfl (lv_at hl 1 rfl) ?_
    refine lv_iload_n hx hb dL_values_4 rfl (lv_at hl 2 rfl) ?_
    refine l_callX (pre := [⟨0, 10, 13, 13⟩]) (x0 := ⟨0, 10, 17, 15⟩) (suf := []) (As := [.int x1, .int x2]) (rest := [.int 0, va_rf (some o)]) hF hNc hM htab (cx_X4_values hfl h) k_X4_values u630 u631 u632 rfl rfl hT rfl hl.1 rfl (Nat.le_of_ble_eq_true rfl) dL_values_5 ⟨(Nat.le_of_ble_eq_true rfl), (Nat.le_of_ble_eq_true rfl)⟩ ⟨(Nat.le_of_ble_eq_true rfl), (Nat.le_of_ble_eq_true rfl)⟩ rfl (by decide) (by decide) (by decide) (List.forall_mem_cons.mpr ⟨⟨by decide, 1, by decide, u407⟩, (fun _ h => absurd h List.not_mem_nil)⟩) u487 (fun q H locs h1 h2 h5 => ?_)
    refine g_astore (i := 4) (lv' := [(0, va_rf (some a0)), (1, .int x1), (2, .int x2), (3, va_rf (some o))]) hx hb dL_values_17 hl (by decide) (fun v => rfl) (fun ls hl => ?_)
    refine lv_iconst (v := nI (1 + 1)) hx hb dL_values_19 (by decide) ?_
    exact l_endX hF hsz rfl hO hT0 h1 h2 h5 dL_values_20 (Nat.le_of_ble_eq_true rfl) (Nat.le_of_ble_eq_true rfl)
  · exact absurd hi (by simp)
abbrev rmL_kind : Room := { frames := 2, cells := 0, slots := 0, locals := 43 }
abbrev rmLx_kind : Room := { frames := 8, cells := 1, slots := 6, locals := 132 }
theorem kL_kind : lKc yL_kind cL_kind 4 [(0, 9, 12, 13)] 3 := ⟨u636, u62, by decide +kernel, by decide +kernel, by decide +kernel⟩
set_option maxHeartbeats 4000000 in
set_option maxRecDepth 100000 in
theorem cL_kind_r {l : Launch} {D : va_G} {Y : Nat → ClassId} {S : GS} {hs : Nat} {a0 o : Nat} {x1 : Int32} {r : Int32} (h : f_X4_kind S a0 x1 = some (.inl r)) {yl : ClassId} {c0 : Value} (hT : gT S a0 = 5) : lMet l yL_kind (lWs yL_kind cL_kind 4 [(0, 9, 12, 13)]) rmL_kind [va_rf (some a0), .int x1, va_rf (some o)] D Y S hs .long yl o c0 0 (.long r.toInt64) S hs := by
  refine l_ofW (by decide +kernel) ⟨(Nat.le_of_ble_eq_true rfl), (List.forall_mem_cons.mpr ⟨rf_cat _, (List.forall_mem_cons.mpr ⟨rfl, (List.forall_mem_cons.mpr ⟨rf_cat _, (fun _ h => absurd h List.not_mem_nil)⟩)⟩)⟩)⟩ ?_
  intro p e s m args below meth c ls hsz htab hF hNc hAr hO hT0 hM hl
  have hl : lv_has ls 4 [(0, va_rf (some a0)), (1, .int x1), (2, va_rf (some o))] := by rw [g_args [va_rf (some a0), .int x1, va_rf (some o)] 0 (List.forall_mem_cons.mpr ⟨rf_cat _, (List.forall_mem_cons.mpr ⟨rfl, (List.forall_mem_cons.mpr ⟨rf_cat _, (fun _ h => absurd h List.not_mem_nil)⟩)⟩)⟩)] at hl; exact hl
  have hF : gF p s m args meth c RL cL_kind 4 (some .int) D Y (gA S hs) := hF
  have hx := hF.1
  have hb := hF.2.1
  refine g_aload_n hx hb dL_kind_0 rfl (lv_at hl 2 rfl) ?_
  refine lv_iconst (v := 0) hx hb dL_kind_1 (by decide) ?_
  refine g_aload_n hx hb dL_kind_2 rfl (lv_at hl 0 rfl) ?_
  refine lv_iload_n hx hb dL_kind_3 rfl (lv_at hl 1 rfl) ?_
  refine g_callV (As := [.int x1]) (rest := [.int 0, va_rf (some o)]) hF hM (c_X4_kind h) k_X4_kind u637 u638 u639 rfl rfl hT rfl hl.1 rfl (Nat.le_of_ble_eq_true rfl) dL_kind_4 ⟨(Nat.le_of_ble_eq_true rfl), (Nat.le_of_ble_eq_true rfl)⟩ ⟨(Nat.le_of_ble_eq_true rfl), (Nat.le_of_ble_eq_true rfl)⟩ (fun H locs hM => ?_)
  refine lv_i2l hx hb dL_kind_7 rfl ?_
  refine l_last hF hsz hM hAr hO hT0 dL_kind_8 (fun H locs h1 h2 h3 h4 h5 => ?_)
  refine lv_goto (tgt := 15) hx hb dL_kind_9 (by decide) ?_
  refine lv_iconst (v := 0) hx hb dL_kind_15 (by decide) ?_
  exact l_end hF rfl h1 h2 h3 h4 h5 dL_kind_16 (Nat.le_of_ble_eq_true rfl) (Nat.le_of_ble_eq_true rfl)
set_option maxHeartbeats 4000000 in
set_option maxRecDepth 100000 in
theorem cL_kind_x {l : Launch} {D : va_G} {Y : Nat → ClassId} {S : GS} {hs : Nat} {a0 o : Nat} {x1 : Int32} {x : Nat} (hfl : l.stackTraces = false) (h : f_X4_kind S a0 x1 = some (.inr x)) {i : Nat} {yl : ClassId} {c0 : Value} (hT : gT S a0 = 5) (hi : ([1] : List Nat)[i]? = some x) : lMet l yL_kind (lWs yL_kind cL_kind 4 [(0, 9, 12, 13)]) rmLx_kind [va_rf (some a0), .int x1, va_rf (some o)] D Y S hs .long yl o c0 (nI (i + 1)) c0 S hs := by
  refine l_ofW (by decide +kernel) ⟨(Nat.le_of_ble_eq_true rfl), (List.forall_mem_cons.mpr ⟨rf_cat _, (List.forall_mem_cons.mpr ⟨rfl, (List.forall_mem_cons.mpr ⟨rf_cat _, (fun _ h => absurd h List.not_mem_nil)⟩)⟩)⟩)⟩ ?_
  intro p e s m args below meth c ls hsz htab hF hNc hAr hO hT0 hM hl
  have hl : lv_has ls 4 [(0, va_rf (some a0)), (1, .int x1), (2, va_rf (some o))] := by rw [g_args [va_rf (some a0), .int x1, va_rf (some o)] 0 (List.forall_mem_cons.mpr ⟨rf_cat _, (List.forall_mem_cons.mpr ⟨rfl, (List.forall_mem_cons.mpr ⟨rf_cat _, (fun _ h => absurd h List.not_mem_nil)⟩)⟩)⟩)] at hl; exact hl
  have hF : gF p s m args meth c RL cL_kind 4 (some .int) D Y (gA S hs) := hF
  have hx := hF.1
  have hb := hF.2.1
  rcases i with _ | i
  · have hx9 := Option.some.inj hi
    subst hx9
    refine g_aload_n hx hb dL_kind_0 rfl (lv_at hl 2 rfl) ?_
    refine lv_iconst (v := 0) hx hb dL_kind_1 (by decide) ?_
    refine g_aload_n hx hb dL_kind_2 rfl (lv_at hl 0 rfl) ?_
    refine lv_iload_n hx hb dL_kind_3 rfl (lv_at hl 1 rfl) ?_
    refine l_callX (pre := []) (x0 := ⟨0, 9, 12, 13⟩) (suf := []) (As := [.int x1]) (rest := [.int 0, va_rf (some o)]) hF hNc hM htab (cx_X4_kind hfl h) k_X4_kind u637 u638 u639 rfl rfl hT rfl hl.1 rfl (Nat.le_of_ble_eq_true rfl) dL_kind_4 ⟨(Nat.le_of_ble_eq_true rfl), (Nat.le_of_ble_eq_true rfl)⟩ ⟨(Nat.le_of_ble_eq_true rfl), (Nat.le_of_ble_eq_true rfl)⟩ rfl (by decide) (by decide) (by decide) (fun _ h => absurd h List.not_mem_nil) u407 (fun q H locs h1 h2 h5 => ?_)
    refine g_astore_n (i := 3) (lv' := [(0, va_rf (some a0)), (1, .int x1), (2, va_rf (some o))]) hx hb dL_kind_12 rfl hl (by decide) (fun v => rfl) (fun ls hl => ?_)
    refine lv_iconst (v := nI (0 + 1)) hx hb dL_kind_13 (by decide) ?_
    exact l_endX hF hsz rfl hO hT0 h1 h2 h5 dL_kind_14 (Nat.le_of_ble_eq_true rfl) (Nat.le_of_ble_eq_true rfl)
  · exact absurd hi (by simp)
abbrev rmL_size : Room := { frames := 3, cells := 0, slots := 0, locals := 64 }
abbrev rmLx_size : Room := { frames := 9, cells := 1, slots := 6, locals := 153 }
theorem kL_size : lKc yL_size cL_size 4 [(0, 9, 12, 13), (0, 9, 15, 15)] 3 := ⟨u643, u62, by decide +kernel, by decide +kernel, by decide +kernel⟩
set_option maxHeartbeats 4000000 in
set_option maxRecDepth 100000 in
theorem cL_size_r {l : Launch} {D : va_G} {Y : Nat → ClassId} {S : GS} {hs : Nat} {a0 o : Nat} {x1 : Int32} {r : Int32} (h : f_X4_size S a0 x1 = some (.inl r)) {yl : ClassId} {c0 : Value} (hT : gT S a0 = 5) : lMet l yL_size (lWs yL_size cL_size 4 [(0, 9, 12, 13), (0, 9, 15, 15)]) rmL_size [va_rf (some a0), .int x1, va_rf (some o)] D Y S hs .long yl o c0 0 (.long r.toInt64) S hs := by
  refine l_ofW (by decide +kernel) ⟨(Nat.le_of_ble_eq_true rfl), (List.forall_mem_cons.mpr ⟨rf_cat _, (List.forall_mem_cons.mpr ⟨rfl, (List.forall_mem_cons.mpr ⟨rf_cat _, (fun _ h => absurd h List.not_mem_nil)⟩)⟩)⟩)⟩ ?_
  intro p e s m args below meth c ls hsz htab hF hNc hAr hO hT0 hM hl
  have hl : lv_has ls 4 [(0, va_rf (some a0)), (1, .int x1), (2, va_rf (some o))] := by rw [g_args [va_rf (some a0), .int x1, va_rf (some o)] 0 (List.forall_mem_cons.mpr ⟨rf_cat _, (List.forall_mem_cons.mpr ⟨rfl, (List.forall_mem_cons.mpr ⟨rf_cat _, (fun _ h => absurd h List.not_mem_nil)⟩)⟩)⟩)] at hl; exact hl
  have hF : gF p s m args meth c RL cL_size 4 (some .int) D Y (gA S hs) := hF
  have hx := hF.1
  have hb := hF.2.1
  refine g_aload_n hx hb dL_size_0 rfl (lv_at hl 2 rfl) ?_
  refine lv_iconst (v := 0) hx hb dL_size_1 (by decide) ?_
  refine g_aload_n hx hb dL_size_2 rfl (lv_at hl 0 rfl) ?_
  refine lv_iload_n hx hb dL_size_3 rfl (lv_at hl 1 rfl) ?_
  refine g_callV (As := [.int x1]) (rest := [.int 0, va_rf (some o)]) hF hM (c_X4_size h) k_X4_size u644 u645 u646 rfl rfl hT rfl hl.1 rfl (Nat.le_of_ble_eq_true rfl) dL_size_4 ⟨(Nat.le_of_ble_eq_true rfl), (Nat.le_of_ble_eq_true rfl)⟩ ⟨(Nat.le_of_ble_eq_true rfl), (Nat.le_of_ble_eq_true rfl)⟩ (fun H locs hM => ?_)
  refine lv_i2l hx hb dL_size_7 rfl ?_
  refine l_last hF hsz hM hAr hO hT0 dL_size_8 (fun H locs h1 h2 h3 h4 h5 => ?_)
  refine lv_goto (tgt := 18) hx hb dL_size_9 (by decide) ?_
  refine lv_iconst (v := 0) hx hb dL_size_18 (by decide) ?_
  exact l_end hF rfl h1 h2 h3 h4 h5 dL_size_19 (Nat.le_of_ble_eq_true rfl) (Nat.le_of_ble_eq_true rfl)
set_option maxHeartbeats 4000000 in
set_option maxRecDepth 100000 in
theorem cL_size_x {l : Launch} {D : va_G} {Y : Nat → ClassId} {S : GS} {hs : Nat} {a0 o : Nat} {x1 : Int32} {x : Nat} (hfl : l.stackTraces = false) (h : f_X4_size S a0 x1 = some (.inr x)) {i : Nat} {yl : ClassId} {c0 : Value} (hT : gT S a0 = 5) (hi : ([1, 2] : List Nat)[i]? = some x) : lMet l yL_size (lWs yL_size cL_size 4 [(0, 9, 12, 13), (0, 9, 15, 15)]) rmLx_size [va_rf (some a0), .int x1, va_rf (some o)] D Y S hs .long yl o c0 (nI (i + 1)) c0 S hs := by
  refine l_ofW (by decide +kernel) ⟨(Nat.le_of_ble_eq_true rfl), (List.forall_mem_cons.mpr ⟨rf_cat _, (List.forall_mem_cons.mpr ⟨rfl, (List.forall_mem_cons.mpr ⟨rf_cat _, (fun _ h => absurd h List.not_mem_nil)⟩)⟩)⟩)⟩ ?_
  intro p e s m args below meth c ls hsz htab hF hNc hAr hO hT0 hM hl
  have hl : lv_has ls 4 [(0, va_rf (some a0)), (1, .int x1), (2, va_rf (some o))] := by rw [g_args [va_rf (some a0), .int x1, va_rf (some o)] 0 (List.forall_mem_cons.mpr ⟨rf_cat _, (List.forall_mem_cons.mpr ⟨rfl, (List.forall_mem_cons.mpr ⟨rf_cat _, (fun _ h => absurd h List.not_mem_nil)⟩)⟩)⟩)] at hl; exact hl
  have hF : gF p s m args meth c RL cL_size 4 (some .int) D Y (gA S hs) := hF
  have hx := hF.1
  have hb := hF.2.1
  rcases i with _ | _ | i
  · have hx9 := Option.some.inj hi
    subst hx9
    refine g_aload_n hx hb dL_size_0 rfl (lv_at hl 2 rfl) ?_
    refine lv_iconst (v := 0) hx hb dL_size_1 (by decide) ?_
    refine g_aload_n hx hb dL_size_2 rfl (lv_at hl 0 rfl) ?_
    refine lv_iload_n hx hb dL_size_3 rfl (lv_at hl 1 rfl) ?_
    refine l_callX (pre := []) (x0 := ⟨0, 9, 12, 13⟩) (suf := [⟨0, 9, 15, 15⟩]) (As := [.int x1]) (rest := [.int 0, va_rf (some o)]) hF hNc hM htab (cx_X4_size hfl h) k_X4_size u644 u645 u646 rfl rfl hT rfl hl.1 rfl (Nat.le_of_ble_eq_true rfl) dL_size_4 ⟨(Nat.le_of_ble_eq_true rfl), (Nat.le_of_ble_eq_true rfl)⟩ ⟨(Nat.le_of_ble_eq_true rfl), (Nat.le_of_ble_eq_true rfl)⟩ rfl (by decide) (by decide) (by decide) (fun _ h => absurd h List.not_mem_nil) u407 (fun q H locs h1 h2 h5 => ?_)
    refine g_astore_n (i := 3) (lv' := [(0, va_rf (some a0)), (1, .int x1), (2, va_rf (some o))]) hx hb dL_size_12 rfl hl (by decide) (fun v => rfl) (fun ls hl => ?_)
    refine lv_iconst (v := nI (0 + 1)) hx hb dL_size_13 (by decide) ?_
    exact l_endX hF hsz rfl hO hT0 h1 h2 h5 dL_size_14 (Nat.le_of_ble_eq_true rfl) (Nat.le_of_ble_eq_true rfl)
  · have hx9 := Option.some.inj hi
    subst hx9
    refine g_aload_n hx hb dL_size_0 rfl (lv_at hl 2 rfl) ?_
    refine lv_iconst (v := 0) hx hb dL_size_1 (by decide) ?_
    refine g_aload_n hx hb dL_size_2 rfl (lv_at hl 0 rfl) ?_
    refine lv_iload_n hx hb dL_size_3 rfl (lv_at hl 1 rfl) ?_
    refine l_callX (pre := [⟨0, 9, 12, 13⟩]) (x0 := ⟨0, 9, 15, 15⟩) (suf := []) (As := [.int x1]) (rest := [.int 0, va_rf (some o)]) hF hNc hM htab (cx_X4_size hfl h) k_X4_size u644 u645 u646 rfl rfl hT rfl hl.1 rfl (Nat.le_of_ble_eq_true rfl) dL_size_4 ⟨(Nat.le_of_ble_eq_true rfl), (Nat.le_of_ble_eq_true rfl)⟩ ⟨(Nat.le_of_ble_eq_true rfl), (Nat.le_of_ble_eq_true rfl)⟩ rfl (by decide) (by decide) (by decide) (List.forall_mem_cons.mpr ⟨⟨by decide, 1, by decide, u407⟩, (fun _ h => absurd h List.not_mem_nil)⟩) u487 (fun q H locs h1 h2 h5 => ?_)
    refine g_astore_n (i := 3) (lv' := [(0, va_rf (some a0)), (1, .int x1), (2, va_rf (some o))]) hx hb dL_size_15 rfl hl (by decide) (fun v => rfl) (fun ls hl => ?_)
    refine lv_iconst (v := nI (1 + 1)) hx hb dL_size_16 (by decide) ?_
    exact l_endX hF hsz rfl hO hT0 h1 h2 h5 dL_size_17 (Nat.le_of_ble_eq_true rfl) (Nat.le_of_ble_eq_true rfl)
  · exact absurd hi (by simp)
abbrev rmL_walk : Room := { frames := 5, cells := 0, slots := 0, locals := 112 }
abbrev rmLx_walk : Room := { frames := 9, cells := 1, slots := 6, locals := 155 }
theorem kL_walk : lKc yL_walk cL_walk 5 [(0, 9, 12, 13), (0, 9, 16, 15), (0, 9, 20, 17)] 4 := ⟨u654, u62, by decide +kernel, by decide +kernel, by decide +kernel⟩
set_option maxHeartbeats 4000000 in
set_option maxRecDepth 100000 in
theorem cL_walk_r {l : Launch} {D : va_G} {Y : Nat → ClassId} {S : GS} {hs : Nat} {a0 o : Nat} {x1 : Int32} {x2 : Int32} {r : Int64} (h : f_X4_walk S a0 x1 x2 = some (.inl r)) {yl : ClassId} {c0 : Value} (hT : gT S a0 = 5) : lMet l yL_walk (lWs yL_walk cL_walk 5 [(0, 9, 12, 13), (0, 9, 16, 15), (0, 9, 20, 17)]) rmL_walk [va_rf (some a0), .int x1, .int x2, va_rf (some o)] D Y S hs .long yl o c0 0 (.long r) S hs := by
  refine l_ofW (by decide +kernel) ⟨(Nat.le_of_ble_eq_true rfl), (List.forall_mem_cons.mpr ⟨rf_cat _, (List.forall_mem_cons.mpr ⟨rfl, (List.forall_mem_cons.mpr ⟨rfl, (List.forall_mem_cons.mpr ⟨rf_cat _, (fun _ h => absurd h List.not_mem_nil)⟩)⟩)⟩)⟩)⟩ ?_
  intro p e s m args below meth c ls hsz htab hF hNc hAr hO hT0 hM hl
  have hl : lv_has ls 5 [(0, va_rf (some a0)), (1, .int x1), (2, .int x2), (3, va_rf (some o))] := by rw [g_args [va_rf (some a0), .int x1, .int x2, va_rf (some o)] 0 (List.forall_mem_cons.mpr ⟨rf_cat _, (List.forall_mem_cons.mpr ⟨rfl, (List.forall_mem_cons.mpr ⟨rfl, (List.forall_mem_cons.mpr ⟨rf_cat _, (fun _ h => absurd h List.not_mem_nil)⟩)⟩)⟩)⟩)] at hl; exact hl
  have hF : gF p s m args meth c RL cL_walk 5 (some .int) D Y (gA S hs) := hF
  have hx := hF.1
  have hb := hF.2.1
  refine g_aload_n hx hb dL_walk_0 rfl (lv_at hl 3 rfl) ?_
  refine lv_iconst (v := 0) hx hb dL_walk_1 (by decide) ?_
  refine g_aload_n hx hb dL_walk_2 rfl (lv_at hl 0 rfl) ?_
  refine lv_iload_n hx hb dL_walk_3 rfl (lv_at hl 1 rfl) ?_
  refine lv_iload_n hx hb dL_walk_4 rfl (lv_at hl 2 rfl) ?_
  refine g_callV (As := [.int x1, .int x2]) (rest := [.int 0, va_rf (some o)]) hF hM (c_X4_walk h) k_X4_walk u655 u656 u657 rfl rfl hT rfl hl.1 rfl (Nat.le_of_ble_eq_true rfl) dL_walk_5 ⟨(Nat.le_of_ble_eq_true rfl), (Nat.le_of_ble_eq_true rfl)⟩ ⟨(Nat.le_of_ble_eq_true rfl), (Nat.le_of_ble_eq_true rfl)⟩ (fun H locs hM => ?_)
  refine l_last hF hsz hM hAr hO hT0 dL_walk_8 (fun H locs h1 h2 h3 h4 h5 => ?_)
  refine lv_goto (tgt := 24) hx hb dL_walk_9 (by decide) ?_
  refine lv_iconst (v := 0) hx hb dL_walk_24 (by decide) ?_
  exact l_end hF rfl h1 h2 h3 h4 h5 dL_walk_25 (Nat.le_of_ble_eq_true rfl) (Nat.le_of_ble_eq_true rfl)
set_option maxHeartbeats 4000000 in
set_option maxRecDepth 100000 in
theorem cL_walk_x {l : Launch} {D : va_G} {Y : Nat → ClassId} {S : GS} {hs : Nat} {a0 o : Nat} {x1 : Int32} {x2 : Int32} {x : Nat} (hfl : l.stackTraces = false) (h : f_X4_walk S a0 x1 x2 = some (.inr x)) {i : Nat} {yl : ClassId} {c0 : Value} (hT : gT S a0 = 5) (hi : ([1, 2, 4] : List Nat)[i]? = some x) : lMet l yL_walk (lWs yL_walk cL_walk 5 [(0, 9, 12, 13), (0, 9, 16, 15), (0, 9, 20, 17)]) rmLx_walk [va_rf (some a0), .int x1, .int x2, va_rf (some o)] D Y S hs .long yl o c0 (nI (i + 1)) c0 S hs := by
  refine l_ofW (by decide +kernel) ⟨(Nat.le_of_ble_eq_true rfl), (List.forall_mem_cons.mpr ⟨rf_cat _, (List.forall_mem_cons.mpr ⟨rfl, (List.forall_mem_cons.mpr ⟨rfl, (List.forall_mem_cons.mpr ⟨rf_cat _, (fun _ h => absurd h List.not_mem_nil)⟩)⟩)⟩)⟩)⟩ ?_
  intro p e s m args below meth c ls hsz htab hF hNc hAr hO hT0 hM hl
  have hl : lv_has ls 5 [(0, va_rf (some a0)), (1, .int x1), (2, .int x2), (3, va_rf (some o))] := by rw [g_args [va_rf (some a0), .int x1, .int x2, va_rf (some o)] 0 (List.forall_mem_cons.mpr ⟨rf_cat _, (List.forall_mem_cons.mpr ⟨rfl, (List.forall_mem_cons.mpr ⟨rfl, (List.forall_mem_cons.mpr ⟨rf_cat _, (fun _ h => absurd h List.not_mem_nil)⟩)⟩)⟩)⟩)] at hl; exact hl
  have hF : gF p s m args meth c RL cL_walk 5 (some .int) D Y (gA S hs) := hF
  have hx := hF.1
  have hb := hF.2.1
  rcases i with _ | _ | _ | i
  · have hx9 := Option.some.inj hi
    subst hx9
    refine g_aload_n hx hb dL_walk_0 rfl (lv_at hl 3 rfl) ?_
    refine lv_iconst (v := 0) hx hb dL_walk_1 (by decide) ?_
    refine g_aload_n hx hb dL_walk_2 rfl (lv_at hl 0 rfl) ?_
    refine lv_iload_n hx hb dL_walk_3 rfl (lv_at hl 1 rfl) ?_
    refine lv_iload_n hx hb dL_walk_4 rfl (lv_at hl 2 rfl) ?_
    refine l_callX (pre := []) (x0 := ⟨0, 9, 12, 13⟩) (suf := [⟨0, 9, 16, 15⟩, ⟨0, 9, 20, 17⟩]) (As := [.int x1, .int x2]) (rest := [.int 0, va_rf (some o)]) hF hNc hM htab (cx_X4_walk hfl h) k_X4_walk u655 u656 u657 rfl rfl hT rfl hl.1 rfl (Nat.le_of_ble_eq_true rfl) dL_walk_5 ⟨(Nat.le_of_ble_eq_true rfl), (Nat.le_of_ble_eq_true rfl)⟩ ⟨(Nat.le_of_ble_eq_true rfl), (Nat.le_of_ble_eq_true rfl)⟩ rfl (by decide) (by decide) (by decide) (fun _ h => absurd h List.not_mem_nil) u407 (fun q H locs h1 h2 h5 => ?_)
    refine g_astore (i := 4) (lv' := [(0, va_rf (some a0)), (1, .int x1), (2, .int x2), (3, va_rf (some o))]) hx hb dL_walk_12 hl (by decide) (fun v => rfl) (fun ls hl => ?_)
    refine lv_iconst (v := nI (0 + 1)) hx hb dL_walk_14 (by decide) ?_
    exact l_endX hF hsz rfl hO hT0 h1 h2 h5 dL_walk_15 (Nat.le_of_ble_eq_true rfl) (Nat.le_of_ble_eq_true rfl)
  · have hx9 := Option.some.inj hi
    subst hx9
    refine g_aload_n hx hb dL_walk_0 rfl (lv_at hl 3 rfl) ?_
    refine lv_iconst (v := 0) hx hb dL_walk_1 (by decide) ?_
    refine g_aload_n hx hb dL_walk_2 rfl (lv_at hl 0 rfl) ?_
    refine lv_iload_n hx hb dL_walk_3 rfl (lv_at hl 1 rfl) ?_
    refine lv_iload_n hx hb dL_walk_4 rfl (lv_at hl 2 rfl) ?_
    refine l_callX (pre := [⟨0, 9, 12, 13⟩]) (x0 := ⟨0, 9, 16, 15⟩) (suf := [⟨0, 9, 20, 17⟩]) (As := [.int x1, .int x2]) (rest := [.int 0, va_rf (some o)]) hF hNc hM htab (cx_X4_walk hfl h) k_X4_walk u655 u656 u657 rfl rfl hT rfl hl.1 rfl (Nat.le_of_ble_eq_true rfl) dL_walk_5 ⟨(Nat.le_of_ble_eq_true rfl), (Nat.le_of_ble_eq_true rfl)⟩ ⟨(Nat.le_of_ble_eq_true rfl), (Nat.le_of_ble_eq_true rfl)⟩ rfl (by decide) (by decide) (by decide) (List.forall_mem_cons.mpr ⟨⟨by decide, 1, by decide, u407⟩, (fun _ h => absurd h List.not_mem_nil)⟩) u487 (fun q H locs h1 h2 h5 => ?_)
    refine g_astore (i := 4) (lv' := [(0, va_rf (some a0)), (1, .int x1), (2, .int x2), (3, va_rf (some o))]) hx hb dL_walk_16 hl (by decide) (fun v => rfl) (fun ls hl => ?_)
    refine lv_iconst (v := nI (1 + 1)) hx hb dL_walk_18 (by decide) ?_
    exact l_endX hF hsz rfl hO hT0 h1 h2 h5 dL_walk_19 (Nat.le_of_ble_eq_true rfl) (Nat.le_of_ble_eq_true rfl)
  · have hx9 := Option.some.inj hi
    subst hx9
    refine g_aload_n hx hb dL_walk_0 rfl (lv_at hl 3 rfl) ?_
    refine lv_iconst (v := 0) hx hb dL_walk_1 (by decide) ?_
    refine g_aload_n hx hb dL_walk_2 rfl (lv_at hl 0 rfl) ?_
    refine lv_iload_n hx hb dL_walk_3 rfl (lv_at hl 1 rfl) ?_
    refine lv_iload_n hx hb dL_walk_4 rfl (lv_at hl 2 rfl) ?_
    refine l_callX (pre := [⟨0, 9, 12, 13⟩, ⟨0, 9, 16, 15⟩]) (x0 := ⟨0, 9, 20, 17⟩) (suf := []) (As := [.int x1, .int x2]) (rest := [.int 0, va_rf (some o)]) hF hNc hM htab (cx_X4_walk hfl h) k_X4_walk u655 u656 u657 rfl rfl hT rfl hl.1 rfl (Nat.le_of_ble_eq_true rfl) dL_walk_5 ⟨(Nat.le_of_ble_eq_true rfl), (Nat.le_of_ble_eq_true rfl)⟩ ⟨(Nat.le_of_ble_eq_true rfl), (Nat.le_of_ble_eq_true rfl)⟩ rfl (by decide) (by decide) (by decide) (List.forall_mem_cons.mpr ⟨⟨by decide, 1, by decide, u407⟩, (List.forall_mem_cons.mpr ⟨⟨by decide, 2, by decide, u487⟩, (fun _ h => absurd h List.not_mem_nil)⟩)⟩) u488 (fun q H locs h1 h2 h5 => ?_)
    refine g_astore (i := 4) (lv' := [(0, va_rf (some a0)), (1, .int x1), (2, .int x2), (3, va_rf (some o))]) hx hb dL_walk_20 hl (by decide) (fun v => rfl) (fun ls hl => ?_)
    refine lv_iconst (v := nI (2 + 1)) hx hb dL_walk_22 (by decide) ?_
    exact l_endX hF hsz rfl hO hT0 h1 h2 h5 dL_walk_23 (Nat.le_of_ble_eq_true rfl) (Nat.le_of_ble_eq_true rfl)
  · exact absurd hi (by simp)
abbrev rmL_isSame : Room := { frames := 6, cells := 0, slots := 0, locals := 133 }
abbrev rmLx_isSame : Room := { frames := 8, cells := 1, slots := 6, locals := 134 }
theorem kL_isSame : lKc yL_isSame cL_isSame 5 [(0, 17, 20, 13), (0, 17, 24, 15)] 4 := ⟨u662, u62, by decide +kernel, by decide +kernel, by decide +kernel⟩
set_option maxHeartbeats 4000000 in
set_option maxRecDepth 100000 in
theorem cL_isSame_r {l : Launch} {D : va_G} {Y : Nat → ClassId} {S : GS} {hs : Nat} {a0 o : Nat} {x1 : Int32} {x2 : Int32} {r : Int32} (h : f_X4_isSame S a0 x1 x2 = some (.inl r)) {yl : ClassId} {c0 : Value} (hT : gT S a0 = 5) {v : Int64} (hv : (if r = 0 then (0 : Int64) else 1) = v) : lMet l yL_isSame (lWs yL_isSame cL_isSame 5 [(0, 17, 20, 13), (0, 17, 24, 15)]) rmL_isSame [va_rf (some a0), .int x1, .int x2, va_rf (some o)] D Y S hs .long yl o c0 0 (.long v) S hs := by
  refine l_ofW (by decide +kernel) ⟨(Nat.le_of_ble_eq_true rfl), (List.forall_mem_cons.mpr ⟨rf_cat _, (List.forall_mem_cons.mpr ⟨rfl, (List.forall_mem_cons.mpr ⟨rfl, (List.forall_mem_cons.mpr ⟨rf_cat _, (fun _ h => absurd h List.not_mem_nil)⟩)⟩)⟩)⟩)⟩ ?_
  intro p e s m args below meth c ls hsz htab hF hNc hAr hO hT0 hM hl
  have hl : lv_has ls 5 [(0, va_rf (some a0)), (1, .int x1), (2, .int x2), (3, va_rf (some o))] := by rw [g_args [va_rf (some a0), .int x1, .int x2, va_rf (some o)] 0 (List.forall_mem_cons.mpr ⟨rf_cat _, (List.forall_mem_cons.mpr ⟨rfl, (List.forall_mem_cons.mpr ⟨rfl, (List.forall_mem_cons.mpr ⟨rf_cat _, (fun _ h => absurd h List.not_mem_nil)⟩)⟩)⟩)⟩)] at hl; exact hl
  have hF : gF p s m args meth c RL cL_isSame 5 (some .int) D Y (gA S hs) := hF
  have hx := hF.1
  have hb := hF.2.1
  refine g_aload_n hx hb dL_isSame_0 rfl (lv_at hl 3 rfl) ?_
  refine lv_iconst (v := 0) hx hb dL_isSame_1 (by decide) ?_
  refine g_aload_n hx hb dL_isSame_2 rfl (lv_at hl 0 rfl) ?_
  refine lv_iload_n hx hb dL_isSame_3 rfl (lv_at hl 1 rfl) ?_
  refine lv_iload_n hx hb dL_isSame_4 rfl (lv_at hl 2 rfl) ?_
  refine g_callV (As := [.int x1, .int x2]) (rest := [.int 0, va_rf (some o)]) hF hM (c_X4_isSame h) k_X4_isSame u663 u664 u665 rfl rfl hT rfl hl.1 rfl (Nat.le_of_ble_eq_true rfl) dL_isSame_5 ⟨(Nat.le_of_ble_eq_true rfl), (Nat.le_of_ble_eq_true rfl)⟩ ⟨(Nat.le_of_ble_eq_true rfl), (Nat.le_of_ble_eq_true rfl)⟩ (fun H locs hM => ?_)
  refine lv_if_eq (tgt := 15) hx hb dL_isSame_8 (by decide) (fun c1 => ?_) (fun c1 => ?_)
  · have e := hv.symm.trans (if_pos c1)
    subst e
    refine lv_lconst (v := 0) hx hb dL_isSame_15 (by decide) ?_
    refine l_last hF hsz hM hAr hO hT0 dL_isSame_16 (fun H locs h1 h2 h3 h4 h5 => ?_)
    refine lv_goto (tgt := 28) hx hb dL_isSame_17 (by decide) ?_
    refine lv_iconst (v := 0) hx hb dL_isSame_28 (by decide) ?_
    exact l_end hF rfl h1 h2 h3 h4 h5 dL_isSame_29 (Nat.le_of_ble_eq_true rfl) (Nat.le_of_ble_eq_true rfl)
  · have e := hv.symm.trans (if_neg c1)
    subst e
    refine lv_lconst (v := 1) hx hb dL_isSame_11 (by decide) ?_
    refine lv_goto (tgt := 16) hx hb dL_isSame_12 (by decide) ?_
    refine l_last hF hsz hM hAr hO hT0 dL_isSame_16 (fun H locs h1 h2 h3 h4 h5 => ?_)
    refine lv_goto (tgt := 28) hx hb dL_isSame_17 (by decide) ?_
    refine lv_iconst (v := 0) hx hb dL_isSame_28 (by decide) ?_
    exact l_end hF rfl h1 h2 h3 h4 h5 dL_isSame_29 (Nat.le_of_ble_eq_true rfl) (Nat.le_of_ble_eq_true rfl)
set_option maxHeartbeats 4000000 in
set_option maxRecDepth 100000 in
theorem cL_isSame_x {l : Launch} {D : va_G} {Y : Nat → ClassId} {S : GS} {hs : Nat} {a0 o : Nat} {x1 : Int32} {x2 : Int32} {x : Nat} (hfl : l.stackTraces = false) (h : f_X4_isSame S a0 x1 x2 = some (.inr x)) {i : Nat} {yl : ClassId} {c0 : Value} (hT : gT S a0 = 5) (hi : ([1, 2] : List Nat)[i]? = some x) : lMet l yL_isSame (lWs yL_isSame cL_isSame 5 [(0, 17, 20, 13), (0, 17, 24, 15)]) rmLx_isSame [va_rf (some a0), .int x1, .int x2, va_rf (some o)] D Y S hs .long yl o c0 (nI (i + 1)) c0 S hs := by
  refine l_ofW (by decide +kernel) ⟨(Nat.le_of_ble_eq_true rfl), (List.forall_mem_cons.mpr ⟨rf_cat _, (List.forall_mem_cons.mpr ⟨rfl, (List.forall_mem_cons.mpr ⟨rfl, (List.forall_mem_cons.mpr ⟨rf_cat _, (fun _ h => absurd h List.not_mem_nil)⟩)⟩)⟩)⟩)⟩ ?_
  intro p e s m args below meth c ls hsz htab hF hNc hAr hO hT0 hM hl
  have hl : lv_has ls 5 [(0, va_rf (some a0)), (1, .int x1), (2, .int x2), (3, va_rf (some o))] := by rw [g_args [va_rf (some a0), .int x1, .int x2, va_rf (some o)] 0 (List.forall_mem_cons.mpr ⟨rf_cat _, (List.forall_mem_cons.mpr ⟨rfl, (List.forall_mem_cons.mpr ⟨rfl, (List.forall_mem_cons.mpr ⟨rf_cat _, (fun _ h => absurd h List.not_mem_nil)⟩)⟩)⟩)⟩)] at hl; exact hl
  have hF : gF p s m args meth c RL cL_isSame 5 (some .int) D Y (gA S hs) := hF
  have hx := hF.1
  have hb := hF.2.1
  rcases i with _ | _ | i
  · have hx9 := Option.some.inj hi
    subst hx9
    refine g_aload_n hx hb dL_isSame_0 rfl (lv_at hl 3 rfl) ?_
    refine lv_iconst (v := 0) hx hb dL_isSame_1 (by decide) ?_
    refine g_aload_n hx hb dL_isSame_2 rfl (lv_at hl 0 rfl) ?_
    refine lv_iload_n hx hb dL_isSame_3 rfl (lv_at hl 1 rfl) ?_
    refine lv_iload_n hx hb dL_isSame_4 rfl (lv_at hl 2 rfl) ?_
    refine l_callX (pre := []) (x0 := ⟨0, 17, 20, 13⟩) (suf := [⟨0, 17, 24, 15⟩]) (As := [.int x1, .int x2]) (rest := [.int 0, va_rf (some o)]) hF hNc hM htab (cx_X4_isSame hfl h) k_X4_isSame u663 u664 u665 rfl rfl hT rfl hl.1 rfl (Nat.le_of_ble_eq_true rfl) dL_isSame_5 ⟨(Nat.le_of_ble_eq_true rfl), (Nat.le_of_ble_eq_true rfl)⟩ ⟨(Nat.le_of_ble_eq_true rfl), (Nat.le_of_ble_eq_true rfl)⟩ rfl (by decide) (by decide) (by decide) (fun _ h => absurd h List.not_mem_nil) u407 (fun q H locs h1 h2 h5 => ?_)
    refine g_astore (i := 4) (lv' := [(0, va_rf (some a0)), (1, .int x1), (2, .int x2), (3, va_rf (some o))]) hx hb dL_isSame_20 hl (by decide) (fun v => rfl) (fun ls hl => ?_)
    refine lv_iconst (v := nI (0 + 1)) hx hb dL_isSame_22 (by decide) ?_
    exact l_endX hF hsz rfl hO hT0 h1 h2 h5 dL_isSame_23 (Nat.le_of_ble_eq_true rfl) (Nat.le_of_ble_eq_true rfl)
  · have hx9 := Option.some.inj hi
    subst hx9
    refine g_aload_n hx hb dL_isSame_0 rfl (lv_at hl 3 rfl) ?_
    refine lv_iconst (v := 0) hx hb dL_isSame_1 (by decide) ?_
    refine g_aload_n hx hb dL_isSame_2 rfl (lv_at hl 0 rfl) ?_
    refine lv_iload_n hx hb dL_isSame_3 rfl (lv_at hl 1 rfl) ?_
    refine lv_iload_n hx hb dL_isSame_4 rfl (lv_at hl 2 rfl) ?_
    refine l_callX (pre := [⟨0, 17, 20, 13⟩]) (x0 := ⟨0, 17, 24, 15⟩) (suf := []) (As := [.int x1, .int x2]) (rest := [.int 0, va_rf (some o)]) hF hNc hM htab (cx_X4_isSame hfl h) k_X4_isSame u663 u664 u665 rfl rfl hT rfl hl.1 rfl (Nat.le_of_ble_eq_true rfl) dL_isSame_5 ⟨(Nat.le_of_ble_eq_true rfl), (Nat.le_of_ble_eq_true rfl)⟩ ⟨(Nat.le_of_ble_eq_true rfl), (Nat.le_of_ble_eq_true rfl)⟩ rfl (by decide) (by decide) (by decide) (List.forall_mem_cons.mpr ⟨⟨by decide, 1, by decide, u407⟩, (fun _ h => absurd h List.not_mem_nil)⟩) u487 (fun q H locs h1 h2 h5 => ?_)
    refine g_astore (i := 4) (lv' := [(0, va_rf (some a0)), (1, .int x1), (2, .int x2), (3, va_rf (some o))]) hx hb dL_isSame_24 hl (by decide) (fun v => rfl) (fun ls hl => ?_)
    refine lv_iconst (v := nI (1 + 1)) hx hb dL_isSame_26 (by decide) ?_
    exact l_endX hF hsz rfl hO hT0 h1 h2 h5 dL_isSame_27 (Nat.le_of_ble_eq_true rfl) (Nat.le_of_ble_eq_true rfl)
  · exact absurd hi (by simp)
abbrev rmL_hash : Room := { frames := 5, cells := 0, slots := 0, locals := 107 }
abbrev rmLx_hash : Room := { frames := 9, cells := 1, slots := 6, locals := 154 }
theorem kL_hash : lKc yL_hash cL_hash 4 [(0, 9, 12, 13), (0, 9, 15, 15)] 3 := ⟨u675, u62, by decide +kernel, by decide +kernel, by decide +kernel⟩
set_option maxHeartbeats 4000000 in
set_option maxRecDepth 100000 in
theorem cL_hash_r {l : Launch} {D : va_G} {Y : Nat → ClassId} {S : GS} {hs : Nat} {a0 o : Nat} {x1 : Int32} {r : Int32} (h : f_X4_hash S a0 x1 = some (.inl r)) {yl : ClassId} {c0 : Value} (hT : gT S a0 = 5) : lMet l yL_hash (lWs yL_hash cL_hash 4 [(0, 9, 12, 13), (0, 9, 15, 15)]) rmL_hash [va_rf (some a0), .int x1, va_rf (some o)] D Y S hs .long yl o c0 0 (.long r.toInt64) S hs := by
  refine l_ofW (by decide +kernel) ⟨(Nat.le_of_ble_eq_true rfl), (List.forall_mem_cons.mpr ⟨rf_cat _, (List.forall_mem_cons.mpr ⟨rfl, (List.forall_mem_cons.mpr ⟨rf_cat _, (fun _ h => absurd h List.not_mem_nil)⟩)⟩)⟩)⟩ ?_
  intro p e s m args below meth c ls hsz htab hF hNc hAr hO hT0 hM hl
  have hl : lv_has ls 4 [(0, va_rf (some a0)), (1, .int x1), (2, va_rf (some o))] := by rw [g_args [va_rf (some a0), .int x1, va_rf (some o)] 0 (List.forall_mem_cons.mpr ⟨rf_cat _, (List.forall_mem_cons.mpr ⟨rfl, (List.forall_mem_cons.mpr ⟨rf_cat _, (fun _ h => absurd h List.not_mem_nil)⟩)⟩)⟩)] at hl; exact hl
  have hF : gF p s m args meth c RL cL_hash 4 (some .int) D Y (gA S hs) := hF
  have hx := hF.1
  have hb := hF.2.1
  refine g_aload_n hx hb dL_hash_0 rfl (lv_at hl 2 rfl) ?_
  refine lv_iconst (v := 0) hx hb dL_hash_1 (by decide) ?_
  refine g_aload_n hx hb dL_hash_2 rfl (lv_at hl 0 rfl) ?_
  refine lv_iload_n hx hb dL_hash_3 rfl (lv_at hl 1 rfl) ?_
  refine g_callV (As := [.int x1]) (rest := [.int 0, va_rf (some o)]) hF hM (c_X4_hash h) k_X4_hash u676 u677 u678 rfl rfl hT rfl hl.1 rfl (Nat.le_of_ble_eq_true rfl) dL_hash_4 ⟨(Nat.le_of_ble_eq_true rfl), (Nat.le_of_ble_eq_true rfl)⟩ ⟨(Nat.le_of_ble_eq_true rfl), (Nat.le_of_ble_eq_true rfl)⟩ (fun H locs hM => ?_)
  refine lv_i2l hx hb dL_hash_7 rfl ?_
  refine l_last hF hsz hM hAr hO hT0 dL_hash_8 (fun H locs h1 h2 h3 h4 h5 => ?_)
  refine lv_goto (tgt := 18) hx hb dL_hash_9 (by decide) ?_
  refine lv_iconst (v := 0) hx hb dL_hash_18 (by decide) ?_
  exact l_end hF rfl h1 h2 h3 h4 h5 dL_hash_19 (Nat.le_of_ble_eq_true rfl) (Nat.le_of_ble_eq_true rfl)
set_option maxHeartbeats 4000000 in
set_option maxRecDepth 100000 in
theorem cL_hash_x {l : Launch} {D : va_G} {Y : Nat → ClassId} {S : GS} {hs : Nat} {a0 o : Nat} {x1 : Int32} {x : Nat} (hfl : l.stackTraces = false) (h : f_X4_hash S a0 x1 = some (.inr x)) {i : Nat} {yl : ClassId} {c0 : Value} (hT : gT S a0 = 5) (hi : ([1, 2] : List Nat)[i]? = some x) : lMet l yL_hash (lWs yL_hash cL_hash 4 [(0, 9, 12, 13), (0, 9, 15, 15)]) rmLx_hash [va_rf (some a0), .int x1, va_rf (some o)] D Y S hs .long yl o c0 (nI (i + 1)) c0 S hs := by
  refine l_ofW (by decide +kernel) ⟨(Nat.le_of_ble_eq_true rfl), (List.forall_mem_cons.mpr ⟨rf_cat _, (List.forall_mem_cons.mpr ⟨rfl, (List.forall_mem_cons.mpr ⟨rf_cat _, (fun _ h => absurd h List.not_mem_nil)⟩)⟩)⟩)⟩ ?_
  intro p e s m args below meth c ls hsz htab hF hNc hAr hO hT0 hM hl
  have hl : lv_has ls 4 [(0, va_rf (some a0)), (1, .int x1), (2, va_rf (some o))] := by rw [g_args [va_rf (some a0), .int x1, va_rf (some o)] 0 (List.forall_mem_cons.mpr ⟨rf_cat _, (List.forall_mem_cons.mpr ⟨rfl, (List.forall_mem_cons.mpr ⟨rf_cat _, (fun _ h => absurd h List.not_mem_nil)⟩)⟩)⟩)] at hl; exact hl
  have hF : gF p s m args meth c RL cL_hash 4 (some .int) D Y (gA S hs) := hF
  have hx := hF.1
  have hb := hF.2.1
  rcases i with _ | _ | i
  · have hx9 := Option.some.inj hi
    subst hx9
    refine g_aload_n hx hb dL_hash_0 rfl (lv_at hl 2 rfl) ?_
    refine lv_iconst (v := 0) hx hb dL_hash_1 (by decide) ?_
    refine g_aload_n hx hb dL_hash_2 rfl (lv_at hl 0 rfl) ?_
    refine lv_iload_n hx hb dL_hash_3 rfl (lv_at hl 1 rfl) ?_
    refine l_callX (pre := []) (x0 := ⟨0, 9, 12, 13⟩) (suf := [⟨0, 9, 15, 15⟩]) (As := [.int x1]) (rest := [.int 0, va_rf (some o)]) hF hNc hM htab (cx_X4_hash hfl h) k_X4_hash u676 u677 u678 rfl rfl hT rfl hl.1 rfl (Nat.le_of_ble_eq_true rfl) dL_hash_4 ⟨(Nat.le_of_ble_eq_true rfl), (Nat.le_of_ble_eq_true rfl)⟩ ⟨(Nat.le_of_ble_eq_true rfl), (Nat.le_of_ble_eq_true rfl)⟩ rfl (by decide) (by decide) (by decide) (fun _ h => absurd h List.not_mem_nil) u407 (fun q H locs h1 h2 h5 => ?_)
    refine g_astore_n (i := 3) (lv' := [(0, va_rf (some a0)), (1, .int x1), (2, va_rf (some o))]) hx hb dL_hash_12 rfl hl (by decide) (fun v => rfl) (fun ls hl => ?_)
    refine lv_iconst (v := nI (0 + 1)) hx hb dL_hash_13 (by decide) ?_
    exact l_endX hF hsz rfl hO hT0 h1 h2 h5 dL_hash_14 (Nat.le_of_ble_eq_true rfl) (Nat.le_of_ble_eq_true rfl)
  · have hx9 := Option.some.inj hi
    subst hx9
    refine g_aload_n hx hb dL_hash_0 rfl (lv_at hl 2 rfl) ?_
    refine lv_iconst (v := 0) hx hb dL_hash_1 (by decide) ?_
    refine g_aload_n hx hb dL_hash_2 rfl (lv_at hl 0 rfl) ?_
    refine lv_iload_n hx hb dL_hash_3 rfl (lv_at hl 1 rfl) ?_
    refine l_callX (pre := [⟨0, 9, 12, 13⟩]) (x0 := ⟨0, 9, 15, 15⟩) (suf := []) (As := [.int x1]) (rest := [.int 0, va_rf (some o)]) hF hNc hM htab (cx_X4_hash hfl h) k_X4_hash u676 u677 u678 rfl rfl hT rfl hl.1 rfl (Nat.le_of_ble_eq_true rfl) dL_hash_4 ⟨(Nat.le_of_ble_eq_true rfl), (Nat.le_of_ble_eq_true rfl)⟩ ⟨(Nat.le_of_ble_eq_true rfl), (Nat.le_of_ble_eq_true rfl)⟩ rfl (by decide) (by decide) (by decide) (List.forall_mem_cons.mpr ⟨⟨by decide, 1, by decide, u407⟩, (fun _ h => absurd h List.not_mem_nil)⟩) u487 (fun q H locs h1 h2 h5 => ?_)
    refine g_astore_n (i := 3) (lv' := [(0, va_rf (some a0)), (1, .int x1), (2, va_rf (some o))]) hx hb dL_hash_15 rfl hl (by decide) (fun v => rfl) (fun ls hl => ?_)
    refine lv_iconst (v := nI (1 + 1)) hx hb dL_hash_16 (by decide) ?_
    exact l_endX hF hsz rfl hO hT0 h1 h2 h5 dL_hash_17 (Nat.le_of_ble_eq_true rfl) (Nat.le_of_ble_eq_true rfl)
  · exact absurd hi (by simp)
abbrev rmL_keyAt : Room := { frames := 3, cells := 0, slots := 0, locals := 66 }
abbrev rmLx_keyAt : Room := { frames := 9, cells := 1, slots := 6, locals := 155 }
theorem kL_keyAt : lKc yL_keyAt cL_keyAt 5 [(0, 10, 13, 13), (0, 10, 17, 15), (0, 10, 21, 17)] 4 := ⟨u687, u62, by decide +kernel, by decide +kernel, by decide +kernel⟩
set_option maxHeartbeats 4000000 in
set_option maxRecDepth 100000 in
theorem cL_keyAt_r {l : Launch} {D : va_G} {Y : Nat → ClassId} {S : GS} {hs : Nat} {a0 o : Nat} {x1 : Int32} {x2 : Int32} {r : Int32} (h : f_X4_keyAt S a0 x1 x2 = some (.inl r)) {yl : ClassId} {c0 : Value} (hT : gT S a0 = 5) : lMet l yL_keyAt (lWs yL_keyAt cL_keyAt 5 [(0, 10, 13, 13), (0, 10, 17, 15), (0, 10, 21, 17)]) rmL_keyAt [va_rf (some a0), .int x1, .int x2, va_rf (some o)] D Y S hs .long yl o c0 0 (.long r.toInt64) S hs := by
  refine l_ofW (by decide +kernel) ⟨(Nat.le_of_ble_eq_true rfl), (List.forall_mem_cons.mpr ⟨rf_cat _, (List.forall_mem_cons.mpr ⟨rfl, (List.forall_mem_cons.mpr ⟨rfl, (List.forall_mem_cons.mpr ⟨rf_cat _, (fun _ h => absurd h List.not_mem_nil)⟩)⟩)⟩)⟩)⟩ ?_
  intro p e s m args below meth c ls hsz htab hF hNc hAr hO hT0 hM hl
  have hl : lv_has ls 5 [(0, va_rf (some a0)), (1, .int x1), (2, .int x2), (3, va_rf (some o))] := by rw [g_args [va_rf (some a0), .int x1, .int x2, va_rf (some o)] 0 (List.forall_mem_cons.mpr ⟨rf_cat _, (List.forall_mem_cons.mpr ⟨rfl, (List.forall_mem_cons.mpr ⟨rfl, (List.forall_mem_cons.mpr ⟨rf_cat _, (fun _ h => absurd h List.not_mem_nil)⟩)⟩)⟩)⟩)] at hl; exact hl
  have hF : gF p s m args meth c RL cL_keyAt 5 (some .int) D Y (gA S hs) := hF
  have hx := hF.1
  have hb := hF.2.1
  refine g_aload_n hx hb dL_keyAt_0 rfl (lv_at hl 3 rfl) ?_
  refine lv_iconst (v := 0) hx hb dL_keyAt_1 (by decide) ?_
  refine g_aload_n hx hb dL_keyAt_2 rfl (lv_at hl 0 rfl) ?_
  refine lv_iload_n hx hb dL_keyAt_3 rfl (lv_at hl 1 rfl) ?_
  refine lv_iload_n hx hb dL_keyAt_4 rfl (lv_at hl 2 rfl) ?_
  refine g_callV (As := [.int x1, .int x2]) (rest := [.int 0, va_rf (some o)]) hF hM (c_X4_keyAt h) k_X4_keyAt u688 u689 u690 rfl rfl hT rfl hl.1 rfl (Nat.le_of_ble_eq_true rfl) dL_keyAt_5 ⟨(Nat.le_of_ble_eq_true rfl), (Nat.le_of_ble_eq_true rfl)⟩ ⟨(Nat.le_of_ble_eq_true rfl), (Nat.le_of_ble_eq_true rfl)⟩ (fun H locs hM => ?_)
  refine lv_i2l hx hb dL_keyAt_8 rfl ?_
  refine l_last hF hsz hM hAr hO hT0 dL_keyAt_9 (fun H locs h1 h2 h3 h4 h5 => ?_)
  refine lv_goto (tgt := 25) hx hb dL_keyAt_10 (by decide) ?_
  refine lv_iconst (v := 0) hx hb dL_keyAt_25 (by decide) ?_
  exact l_end hF rfl h1 h2 h3 h4 h5 dL_keyAt_26 (Nat.le_of_ble_eq_true rfl) (Nat.le_of_ble_eq_true rfl)
set_option maxHeartbeats 4000000 in
set_option maxRecDepth 100000 in
theorem cL_keyAt_x {l : Launch} {D : va_G} {Y : Nat → ClassId} {S : GS} {hs : Nat} {a0 o : Nat} {x1 : Int32} {x2 : Int32} {x : Nat} (hfl : l.stackTraces = false) (h : f_X4_keyAt S a0 x1 x2 = some (.inr x)) {i : Nat} {yl : ClassId} {c0 : Value} (hT : gT S a0 = 5) (hi : ([1, 2, 4] : List Nat)[i]? = some x) : lMet l yL_keyAt (lWs yL_keyAt cL_keyAt 5 [(0, 10, 13, 13), (0, 10, 17, 15), (0, 10, 21, 17)]) rmLx_keyAt [va_rf (some a0), .int x1, .int x2, va_rf (some o)] D Y S hs .long yl o c0 (nI (i + 1)) c0 S hs := by
  refine l_ofW (by decide +kernel) ⟨(Nat.le_of_ble_eq_true rfl), (List.forall_mem_cons.mpr ⟨rf_cat _, (List.forall_mem_cons.mpr ⟨rfl, (List.forall_mem_cons.mpr ⟨rfl, (List.forall_mem_cons.mpr ⟨rf_cat _, (fun _ h => absurd h List.not_mem_nil)⟩)⟩)⟩)⟩)⟩ ?_
  intro p e s m args below meth c ls hsz htab hF hNc hAr hO hT0 hM hl
  have hl : lv_has ls 5 [(0, va_rf (some a0)), (1, .int x1), (2, .int x2), (3, va_rf (some o))] := by rw [g_args [va_rf (some a0), .int x1, .int x2, va_rf (some o)] 0 (List.forall_mem_cons.mpr ⟨rf_cat _, (List.forall_mem_cons.mpr ⟨rfl, (List.forall_mem_cons.mpr ⟨rfl, (List.forall_mem_cons.mpr ⟨rf_cat _, (fun _ h => absurd h List.not_mem_nil)⟩)⟩)⟩)⟩)] at hl; exact hl
  have hF : gF p s m args meth c RL cL_keyAt 5 (some .int) D Y (gA S hs) := hF
  have hx := hF.1
  have hb := hF.2.1
  rcases i with _ | _ | _ | i
  · have hx9 := Option.some.inj hi
    subst hx9
    refine g_aload_n hx hb dL_keyAt_0 rfl (lv_at hl 3 rfl) ?_
    refine lv_iconst (v := 0) hx hb dL_keyAt_1 (by decide) ?_
    refine g_aload_n hx hb dL_keyAt_2 rfl (lv_at hl 0 rfl) ?_
    refine lv_iload_n hx hb dL_keyAt_3 rfl (lv_at hl 1 rfl) ?_
    refine lv_iload_n hx hb dL_keyAt_4 rfl (lv_at hl 2 rfl) ?_
    refine l_callX (pre := []) (x0 := ⟨0, 10, 13, 13⟩) (suf := [⟨0, 10, 17, 15⟩, ⟨0, 10, 21, 17⟩]) (As := [.int x1, .int x2]) (rest := [.int 0, va_rf (some o)]) hF hNc hM htab (cx_X4_keyAt hfl h) k_X4_keyAt u688 u689 u690 rfl rfl hT rfl hl.1 rfl (Nat.le_of_ble_eq_true rfl) dL_keyAt_5 ⟨(Nat.le_of_ble_eq_true rfl), (Nat.le_of_ble_eq_true rfl)⟩ ⟨(Nat.le_of_ble_eq_true rfl), (Nat.le_of_ble_eq_true rfl)⟩ rfl (by decide) (by decide) (by decide) (fun _ h => absurd h List.not_mem_nil) u407 (fun q H locs h1 h2 h5 => ?_)
    refine g_astore (i := 4) (lv' := [(0, va_rf (some a0)), (1, .int x1), (2, .int x2), (3, va_rf (some o))]) hx hb dL_keyAt_13 hl (by decide) (fun v => rfl) (fun ls hl => ?_)
    refine lv_iconst (v := nI (0 + 1)) hx hb dL_keyAt_15 (by decide) ?_
    exact l_endX hF hsz rfl hO hT0 h1 h2 h5 dL_keyAt_16 (Nat.le_of_ble_eq_true rfl) (Nat.le_of_ble_eq_true rfl)
  · have hx9 := Option.some.inj hi
    subst hx9
    refine g_aload_n hx hb dL_keyAt_0 rfl (lv_at hl 3 rfl) ?_
    refine lv_iconst (v := 0) hx hb dL_keyAt_1 (by decide) ?_
    refine g_aload_n hx hb dL_keyAt_2 rfl (lv_at hl 0 rfl) ?_
    refine lv_iload_n hx hb dL_keyAt_3 rfl (lv_at hl 1 rfl) ?_
    refine lv_iload_n hx hb dL_keyAt_4 rfl (lv_at hl 2 rfl) ?_
    refine l_callX (pre := [⟨0, 10, 13, 13⟩]) (x0 := ⟨0, 10, 17, 15⟩) (suf := [⟨0, 10, 21, 17⟩]) (As := [.int x1, .int x2]) (rest := [.int 0, va_rf (some o)]) hF hNc hM htab (cx_X4_keyAt hfl h) k_X4_keyAt u688 u689 u690 rfl rfl hT rfl hl.1 rfl (Nat.le_of_ble_eq_true rfl) dL_keyAt_5 ⟨(Nat.le_of_ble_eq_true rfl), (Nat.le_of_ble_eq_true rfl)⟩ ⟨(Nat.le_of_ble_eq_true rfl), (Nat.le_of_ble_eq_true rfl)⟩ rfl (by decide) (by decide) (by decide) (List.forall_mem_cons.mpr ⟨⟨by decide, 1, by decide, u407⟩, (fun _ h => absurd h List.not_mem_nil)⟩) u487 (fun q H locs h1 h2 h5 => ?_)
    refine g_astore (i := 4) (lv' := [(0, va_rf (some a0)), (1, .int x1), (2, .int x2), (3, va_rf (some o))]) hx hb dL_keyAt_17 hl (by decide) (fun v => rfl) (fun ls hl => ?_)
    refine lv_iconst (v := nI (1 + 1)) hx hb dL_keyAt_19 (by decide) ?_
    exact l_endX hF hsz rfl hO hT0 h1 h2 h5 dL_keyAt_20 (Nat.le_of_ble_eq_true rfl) (Nat.le_of_ble_eq_true rfl)
  · have hx9 := Option.some.inj hi
    subst hx9
    refine g_aload_n hx hb dL_keyAt_0 rfl (lv_at hl 3 rfl) ?_
    refine lv_iconst (v := 0) hx hb dL_keyAt_1 (by decide) ?_
    refine g_aload_n hx hb dL_keyAt_2 rfl (lv_at hl 0 rfl) ?_
    refine lv_iload_n hx hb dL_keyAt_3 rfl (lv_at hl 1 rfl) ?_
    refine lv_iload_n hx hb dL_keyAt_4 rfl (lv_at hl 2 rfl) ?_
    refine l_callX (pre := [⟨0, 10, 13, 13⟩, ⟨0, 10, 17, 15⟩]) (x0 := ⟨0, 10, 21, 17⟩) (suf := []) (As := [.int x1, .int x2]) (rest := [.int 0, va_rf (some o)]) hF hNc hM htab (cx_X4_keyAt hfl h) k_X4_keyAt u688 u689 u690 rfl rfl hT rfl hl.1 rfl (Nat.le_of_ble_eq_true rfl) dL_keyAt_5 ⟨(Nat.le_of_ble_eq_true rfl), (Nat.le_of_ble_eq_true rfl)⟩ ⟨(Nat.le_of_ble_eq_true rfl), (Nat.le_of_ble_eq_true rfl)⟩ rfl (by decide) (by decide) (by decide) (List.forall_mem_cons.mpr ⟨⟨by decide, 1, by decide, u407⟩, (List.forall_mem_cons.mpr ⟨⟨by decide, 2, by decide, u487⟩, (fun _ h => absurd h List.not_mem_nil)⟩)⟩) u488 (fun q H locs h1 h2 h5 => ?_)
    refine g_astore (i := 4) (lv' := [(0, va_rf (some a0)), (1, .int x1), (2, .int x2), (3, va_rf (some o))]) hx hb dL_keyAt_21 hl (by decide) (fun v => rfl) (fun ls hl => ?_)
    refine lv_iconst (v := nI (2 + 1)) hx hb dL_keyAt_23 (by decide) ?_
    exact l_endX hF hsz rfl hO hT0 h1 h2 h5 dL_keyAt_24 (Nat.le_of_ble_eq_true rfl) (Nat.le_of_ble_eq_true rfl)
  · exact absurd hi (by simp)
abbrev rmL_markAt : Room := { frames := 3, cells := 0, slots := 0, locals := 66 }
abbrev rmLx_markAt : Room := { frames := 9, cells := 1, slots := 6, locals := 155 }
theorem kL_markAt : lKc yL_markAt cL_markAt 5 [(0, 10, 13, 13), (0, 10, 17, 15), (0, 10, 21, 17)] 4 := ⟨u702, u62, by decide +kernel, by decide +kernel, by decide +kernel⟩
set_option maxHeartbeats 4000000 in
set_option maxRecDepth 100000 in
theorem cL_markAt_r {l : Launch} {D : va_G} {Y : Nat → ClassId} {S : GS} {hs : Nat} {a0 o : Nat} {x1 : Int32} {x2 : Int32} {r : Int32} (h : f_X4_markAt S a0 x1 x2 = some (.inl r)) {yl : ClassId} {c0 : Value} (hT : gT S a0 = 5) : lMet l yL_markAt (lWs yL_markAt cL_markAt 5 [(0, 10, 13, 13), (0, 10, 17, 15), (0, 10, 21, 17)]) rmL_markAt [va_rf (some a0), .int x1, .int x2, va_rf (some o)] D Y S hs .long yl o c0 0 (.long r.toInt64) S hs := by
  refine l_ofW (by decide +kernel) ⟨(Nat.le_of_ble_eq_true rfl), (List.forall_mem_cons.mpr ⟨rf_cat _, (List.forall_mem_cons.mpr ⟨rfl, (List.forall_mem_cons.mpr ⟨rfl, (List.forall_mem_cons.mpr ⟨rf_cat _, (fun _ h => absurd h List.not_mem_nil)⟩)⟩)⟩)⟩)⟩ ?_
  intro p e s m args below meth c ls hsz htab hF hNc hAr hO hT0 hM hl
  have hl : lv_has ls 5 [(0, va_rf (some a0)), (1, .int x1), (2, .int x2), (3, va_rf (some o))] := by rw [g_args [va_rf (some a0), .int x1, .int x2, va_rf (some o)] 0 (List.forall_mem_cons.mpr ⟨rf_cat _, (List.forall_mem_cons.mpr ⟨rfl, (List.forall_mem_cons.mpr ⟨rfl, (List.forall_mem_cons.mpr ⟨rf_cat _, (fun _ h => absurd h List.not_mem_nil)⟩)⟩)⟩)⟩)] at hl; exact hl
  have hF : gF p s m args meth c RL cL_markAt 5 (some .int) D Y (gA S hs) := hF
  have hx := hF.1
  have hb := hF.2.1
  refine g_aload_n hx hb dL_markAt_0 rfl (lv_at hl 3 rfl) ?_
  refine lv_iconst (v := 0) hx hb dL_markAt_1 (by decide) ?_
  refine g_aload_n hx hb dL_markAt_2 rfl (lv_at hl 0 rfl) ?_
  refine lv_iload_n hx hb dL_markAt_3 rfl (lv_at hl 1 rfl) ?_
  refine lv_iload_n hx hb dL_markAt_4 rfl (lv_at hl 2 rfl) ?_
  refine g_callV (As := [.int x1, .int x2]) (rest := [.int 0, va_rf (some o)]) hF hM (c_X4_markAt h) k_X4_markAt u703 u704 u705 rfl rfl hT rfl hl.1 rfl (Nat.le_of_ble_eq_true rfl) dL_markAt_5 ⟨(Nat.le_of_ble_eq_true rfl), (Nat.le_of_ble_eq_true rfl)⟩ ⟨(Nat.le_of_ble_eq_true rfl), (Nat.le_of_ble_eq_true rfl)⟩ (fun H locs hM => ?_)
  refine lv_i2l hx hb dL_markAt_8 rfl ?_
  refine l_last hF hsz hM hAr hO hT0 dL_markAt_9 (fun H locs h1 h2 h3 h4 h5 => ?_)
  refine lv_goto (tgt := 25) hx hb dL_markAt_10 (by decide) ?_
  refine lv_iconst (v := 0) hx hb dL_markAt_25 (by decide) ?_
  exact l_end hF rfl h1 h2 h3 h4 h5 dL_markAt_26 (Nat.le_of_ble_eq_true rfl) (Nat.le_of_ble_eq_true rfl)
set_option maxHeartbeats 4000000 in
set_option maxRecDepth 100000 in
theorem cL_markAt_x {l : Launch} {D : va_G} {Y : Nat → ClassId} {S : GS} {hs : Nat} {a0 o : Nat} {x1 : Int32} {x2 : Int32} {x : Nat} (hfl : l.stackTraces = false) (h : f_X4_markAt S a0 x1 x2 = some (.inr x)) {i : Nat} {yl : ClassId} {c0 : Value} (hT : gT S a0 = 5) (hi : ([1, 2, 4] : List Nat)[i]? = some x) : lMet l yL_markAt (lWs yL_markAt cL_markAt 5 [(0, 10, 13, 13), (0, 10, 17, 15), (0, 10, 21, 17)]) rmLx_markAt [va_rf (some a0), .int x1, .int x2, va_rf (some o)] D Y S hs .long yl o c0 (nI (i + 1)) c0 S hs := by
  refine l_ofW (by decide +kernel) ⟨(Nat.le_of_ble_eq_true rfl), (List.forall_mem_cons.mpr ⟨rf_cat _, (List.forall_mem_cons.mpr ⟨rfl, (List.forall_mem_cons.mpr ⟨rfl, (List.forall_mem_cons.mpr ⟨rf_cat _, (fun _ h => absurd h List.not_mem_nil)⟩)⟩)⟩)⟩)⟩ ?_
  intro p e s m args below meth c ls hsz htab hF hNc hAr hO hT0 hM hl
  have hl : lv_has ls 5 [(0, va_rf (some a0)), (1, .int x1), (2, .int x2), (3, va_rf (some o))] := by rw [g_args [va_rf (some a0), .int x1, .int x2, va_rf (some o)] 0 (List.forall_mem_cons.mpr ⟨rf_cat _, (List.forall_mem_cons.mpr ⟨rfl, (List.forall_mem_cons.mpr ⟨rfl, (List.forall_mem_cons.mpr ⟨rf_cat _, (fun _ h => absurd h List.not_mem_nil)⟩)⟩)⟩)⟩)] at hl; exact hl
  have hF : gF p s m args meth c RL cL_markAt 5 (some .int) D Y (gA S hs) := hF
  have hx := hF.1
  have hb := hF.2.1
  rcases i with _ | _ | _ | i
  · have hx9 := Option.some.inj hi
    subst hx9
    refine g_aload_n hx hb dL_markAt_0 rfl (lv_at hl 3 rfl) ?_
    refine lv_iconst (v := 0) hx hb dL_markAt_1 (by decide) ?_
    refine g_aload_n hx hb dL_markAt_2 rfl (lv_at hl 0 rfl) ?_
    refine lv_iload_n hx hb dL_markAt_3 rfl (lv_at hl 1 rfl) ?_
    refine lv_iload_n hx hb dL_markAt_4 rfl (lv_at hl 2 rfl) ?_
    refine l_callX (pre := []) (x0 := ⟨0, 10, 13, 13⟩) (suf := [⟨0, 10, 17, 15⟩, ⟨0, 10, 21, 17⟩]) (As := [.int x1, .int x2]) (rest := [.int 0, va_rf (some o)]) hF hNc hM htab (cx_X4_markAt hfl h) k_X4_markAt u703 u704 u705 rfl rfl hT rfl hl.1 rfl (Nat.le_of_ble_eq_true rfl) dL_markAt_5 ⟨(Nat.le_of_ble_eq_true rfl), (Nat.le_of_ble_eq_true rfl)⟩ ⟨(Nat.le_of_ble_eq_true rfl), (Nat.le_of_ble_eq_true rfl)⟩ rfl (by decide) (by decide) (by decide) (fun _ h => absurd h List.not_mem_nil) u407 (fun q H locs h1 h2 h5 => ?_)
    refine g_astore (i := 4) (lv' := [(0, va_rf (some a0)), (1, .int x1), (2, .int x2), (3, va_rf (some o))]) hx hb dL_markAt_13 hl (by decide) (fun v => rfl) (fun ls hl => ?_)
    refine lv_iconst (v := nI (0 + 1)) hx hb dL_markAt_15 (by decide) ?_
    exact l_endX hF hsz rfl hO hT0 h1 h2 h5 dL_markAt_16 (Nat.le_of_ble_eq_true rfl) (Nat.le_of_ble_eq_true rfl)
  · have hx9 := Option.some.inj hi
    subst hx9
    refine g_aload_n hx hb dL_markAt_0 rfl (lv_at hl 3 rfl) ?_
    refine lv_iconst (v := 0) hx hb dL_markAt_1 (by decide) ?_
    refine g_aload_n hx hb dL_markAt_2 rfl (lv_at hl 0 rfl) ?_
    refine lv_iload_n hx hb dL_markAt_3 rfl (lv_at hl 1 rfl) ?_
    refine lv_iload_n hx hb dL_markAt_4 rfl (lv_at hl 2 rfl) ?_
    refine l_callX (pre := [⟨0, 10, 13, 13⟩]) (x0 := ⟨0, 10, 17, 15⟩) (suf := [⟨0, 10, 21, 17⟩]) (As := [.int x1, .int x2]) (rest := [.int 0, va_rf (some o)]) hF hNc hM htab (cx_X4_markAt hfl h) k_X4_markAt u703 u704 u705 rfl rfl hT rfl hl.1 rfl (Nat.le_of_ble_eq_true rfl) dL_markAt_5 ⟨(Nat.le_of_ble_eq_true rfl), (Nat.le_of_ble_eq_true rfl)⟩ ⟨(Nat.le_of_ble_eq_true rfl), (Nat.le_of_ble_eq_true rfl)⟩ rfl (by decide) (by decide) (by decide) (List.forall_mem_cons.mpr ⟨⟨by decide, 1, by decide, u407⟩, (fun _ h => absurd h List.not_mem_nil)⟩) u487 (fun q H locs h1 h2 h5 => ?_)
    refine g_astore (i := 4) (lv' := [(0, va_rf (some a0)), (1, .int x1), (2, .int x2), (3, va_rf (some o))]) hx hb dL_markAt_17 hl (by decide) (fun v => rfl) (fun ls hl => ?_)
    refine lv_iconst (v := nI (1 + 1)) hx hb dL_markAt_19 (by decide) ?_
    exact l_endX hF hsz rfl hO hT0 h1 h2 h5 dL_markAt_20 (Nat.le_of_ble_eq_true rfl) (Nat.le_of_ble_eq_true rfl)
  · have hx9 := Option.some.inj hi
    subst hx9
    refine g_aload_n hx hb dL_markAt_0 rfl (lv_at hl 3 rfl) ?_
    refine lv_iconst (v := 0) hx hb dL_markAt_1 (by decide) ?_
    refine g_aload_n hx hb dL_markAt_2 rfl (lv_at hl 0 rfl) ?_
    refine lv_iload_n hx hb dL_markAt_3 rfl (lv_at hl 1 rfl) ?_
    refine lv_iload_n hx hb dL_markAt_4 rfl (lv_at hl 2 rfl) ?_
    refine l_callX (pre := [⟨0, 10, 13, 13⟩, ⟨0, 10, 17, 15⟩]) (x0 := ⟨0, 10, 21, 17⟩) (suf := []) (As := [.int x1, .int x2]) (rest := [.int 0, va_rf (some o)]) hF hNc hM htab (cx_X4_markAt hfl h) k_X4_markAt u703 u704 u705 rfl rfl hT rfl hl.1 rfl (Nat.le_of_ble_eq_true rfl) dL_markAt_5 ⟨(Nat.le_of_ble_eq_true rfl), (Nat.le_of_ble_eq_true rfl)⟩ ⟨(Nat.le_of_ble_eq_true rfl), (Nat.le_of_ble_eq_true rfl)⟩ rfl (by decide) (by decide) (by decide) (List.forall_mem_cons.mpr ⟨⟨by decide, 1, by decide, u407⟩, (List.forall_mem_cons.mpr ⟨⟨by decide, 2, by decide, u487⟩, (fun _ h => absurd h List.not_mem_nil)⟩)⟩) u488 (fun q H locs h1 h2 h5 => ?_)
    refine g_astore (i := 4) (lv' := [(0, va_rf (some a0)), (1, .int x1), (2, .int x2), (3, va_rf (some o))]) hx hb dL_markAt_21 hl (by decide) (fun v => rfl) (fun ls hl => ?_)
    refine lv_iconst (v := nI (2 + 1)) hx hb dL_markAt_23 (by decide) ?_
    exact l_endX hF hsz rfl hO hT0 h1 h2 h5 dL_markAt_24 (Nat.le_of_ble_eq_true rfl) (Nat.le_of_ble_eq_true rfl)
  · exact absurd hi (by simp)
abbrev rmL_placeOf : Room := { frames := 5, cells := 0, slots := 0, locals := 115 }
abbrev rmLx_placeOf : Room := { frames := 9, cells := 1, slots := 6, locals := 156 }
theorem kL_placeOf : lKc yL_placeOf cL_placeOf 7 [(0, 14, 17, 13), (0, 14, 21, 15)] 6 := ⟨u710, u62, by decide +kernel, by decide +kernel, by decide +kernel⟩
set_option maxHeartbeats 4000000 in
set_option maxRecDepth 100000 in
theorem cL_placeOf_r {l : Launch} {D : va_G} {Y : Nat → ClassId} {S : GS} {hs : Nat} {a0 o : Nat} {x1 : Int32} {x2 : Int32} {x3 : Int32} {x4 : Int32} {r : Int32} (h : f_X4_placeOf S a0 x1 x2 x3 x4 = some (.inl r)) {yl : ClassId} {c0 : Value} (hT : gT S a0 = 5) : lMet l yL_placeOf (lWs yL_placeOf cL_placeOf 7 [(0, 14, 17, 13), (0, 14, 21, 15)]) rmL_placeOf [va_rf (some a0), .int x1, .int x2, .int x3, .int x4, va_rf (some o)] D Y S hs .long yl o c0 0 (.long r.toInt64) S hs := by
  refine l_ofW (by decide +kernel) ⟨(Nat.le_of_ble_eq_true rfl), (List.forall_mem_cons.mpr ⟨rf_cat _, (List.forall_mem_cons.mpr ⟨rfl, (List.forall_mem_cons.mpr ⟨rfl, (List.forall_mem_cons.mpr ⟨rfl, (List.forall_mem_cons.mpr ⟨rfl, (List.forall_mem_cons.mpr ⟨rf_cat _, (fun _ h => absurd h List.not_mem_nil)⟩)⟩)⟩)⟩)⟩)⟩)⟩ ?_
  intro p e s m args below meth c ls hsz htab hF hNc hAr hO hT0 hM hl
  have hl : lv_has ls 7 [(0, va_rf (some a0)), (1, .int x1), (2, .int x2), (3, .int x3), (4, .int x4), (5, va_rf (some o))] := by rw [g_args [va_rf (some a0), .int x1, .int x2, .int x3, .int x4, va_rf (some o)] 0 (List.forall_mem_cons.mpr ⟨rf_cat _, (List.forall_mem_cons.mpr ⟨rfl, (List.forall_mem_cons.mpr ⟨rfl, (List.forall_mem_cons.mpr ⟨rfl, (List.forall_mem_cons.mpr ⟨rfl, (List.forall_mem_cons.mpr ⟨rf_cat _, (fun _ h => absurd h List.not_mem_nil)⟩)⟩)⟩)⟩)⟩)⟩)] at hl; exact hl
  have hF : gF p s m args meth c RL cL_placeOf 7 (some .int) D Y (gA S hs) := hF
  have hx := hF.1
  have hb := hF.2.1
  refine g_aload hx hb dL_placeOf_0 (lv_at hl 5 rfl) ?_
  refine lv_iconst (v := 0) hx hb dL_placeOf_2 (by decide) ?_
  refine g_aload_n hx hb dL_placeOf_3 rfl (lv_at hl 0 rfl) ?_
  refine lv_iload_n hx hb dL_placeOf_4 rfl (lv_at hl 1 rfl) ?_
  refine lv_iload_n hx hb dL_placeOf_5 rfl (lv_at hl 2 rfl) ?_
  refine lv_iload_n hx hb dL_placeOf_6 rfl (lv_at hl 3 rfl) ?_
  refine lv_iload hx hb dL_placeOf_7 (lv_at hl 4 rfl) ?_
  refine g_callV (As := [.int x1, .int x2, .int x3, .int x4]) (rest := [.int 0, va_rf (some o)]) hF hM (c_X4_placeOf h) k_X4_placeOf u711 u712 u713 rfl rfl hT rfl hl.1 rfl (Nat.le_of_ble_eq_true rfl) dL_placeOf_9 ⟨(Nat.le_of_ble_eq_true rfl), (Nat.le_of_ble_eq_true rfl)⟩ ⟨(Nat.le_of_ble_eq_true rfl), (Nat.le_of_ble_eq_true rfl)⟩ (fun H locs hM => ?_)
  refine lv_i2l hx hb dL_placeOf_12 rfl ?_
  refine l_last hF hsz hM hAr hO hT0 dL_placeOf_13 (fun H locs h1 h2 h3 h4 h5 => ?_)
  refine lv_goto (tgt := 25) hx hb dL_placeOf_14 (by decide) ?_
  refine lv_iconst (v := 0) hx hb dL_placeOf_25 (by decide) ?_
  exact l_end hF rfl h1 h2 h3 h4 h5 dL_placeOf_26 (Nat.le_of_ble_eq_true rfl) (Nat.le_of_ble_eq_true rfl)
set_option maxHeartbeats 4000000 in
set_option maxRecDepth 100000 in
theorem cL_placeOf_x {l : Launch} {D : va_G} {Y : Nat → ClassId} {S : GS} {hs : Nat} {a0 o : Nat} {x1 : Int32} {x2 : Int32} {x3 : Int32} {x4 : Int32} {x : Nat} (hfl : l.stackTraces = false) (h : f_X4_placeOf S a0 x1 x2 x3 x4 = some (.inr x)) {i : Nat} {yl : ClassId} {c0 : Value} (hT : gT S a0 = 5) (hi : ([1, 2] : List Nat)[i]? = some x) : lMet l yL_placeOf (lWs yL_placeOf cL_placeOf 7 [(0, 14, 17, 13), (0, 14, 21, 15)]) rmLx_placeOf [va_rf (some a0), .int x1, .int x2, .int x3, .int x4, va_rf (some o)] D Y S hs .long yl o c0 (nI (i + 1)) c0 S hs := by
  refine l_ofW (by decide +kernel) ⟨(Nat.le_of_ble_eq_true rfl), (List.forall_mem_cons.mpr ⟨rf_cat _, (List.forall_mem_cons.mpr ⟨rfl, (List.forall_mem_cons.mpr ⟨rfl, (List.forall_mem_cons.mpr ⟨rfl, (List.forall_mem_cons.mpr ⟨rfl, (List.forall_mem_cons.mpr ⟨rf_cat _, (fun _ h => absurd h List.not_mem_nil)⟩)⟩)⟩)⟩)⟩)⟩)⟩ ?_
  intro p e s m args below meth c ls hsz htab hF hNc hAr hO hT0 hM hl
  have hl : lv_has ls 7 [(0, va_rf (some a0)), (1, .int x1), (2, .int x2), (3, .int x3), (4, .int x4), (5, va_rf (some o))] := by rw [g_args [va_rf (some a0), .int x1, .int x2, .int x3, .int x4, va_rf (some o)] 0 (List.forall_mem_cons.mpr ⟨rf_cat _, (List.forall_mem_cons.mpr ⟨rfl, (List.forall_mem_cons.mpr ⟨rfl, (List.forall_mem_cons.mpr ⟨rfl, (List.forall_mem_cons.mpr ⟨rfl, (List.forall_mem_cons.mpr ⟨rf_cat _, (fun _ h => absurd h List.not_mem_nil)⟩)⟩)⟩)⟩)⟩)⟩)] at hl; exact hl
  have hF : gF p s m args meth c RL cL_placeOf 7 (some .int) D Y (gA S hs) := hF
  have hx := hF.1
  have hb := hF.2.1
  rcases i with _ | _ | i
  · have hx9 := Option.some.inj hi
    subst hx9
    refine g_aload hx hb dL_placeOf_0 (lv_at hl 5 rfl) ?_
    refine lv_iconst (v := 0) hx hb dL_placeOf_2 (by decide) ?_
    refine g_aload_n hx hb dL_placeOf_3 rfl (lv_at hl 0 rfl) ?_
    refine lv_iload_n hx hb dL_placeOf_4 rfl (lv_at hl 1 rfl) ?_
    refine lv_iload_n hx hb dL_placeOf_5 rfl (lv_at hl 2 rfl) ?_
    refine lv_iload_n hx hb dL_placeOf_6 rfl (lv_at hl 3 rfl) ?_
    refine lv_iload hx hb dL_placeOf_7 (lv_at hl 4 rfl) ?_
    refine l_callX (pre := []) (x0 := ⟨0, 14, 17, 13⟩) (suf := [⟨0, 14, 21, 15⟩]) (As := [.int x1, .int x2, .int x3, .int x4]) (rest := [.int 0, va_rf (some o)]) hF hNc hM htab (cx_X4_placeOf hfl h) k_X4_placeOf u711 u712 u713 rfl rfl hT rfl hl.1 rfl (Nat.le_of_ble_eq_true rfl) dL_placeOf_9 ⟨(Nat.le_of_ble_eq_true rfl), (Nat.le_of_ble_eq_true rfl)⟩ ⟨(Nat.le_of_ble_eq_true rfl), (Nat.le_of_ble_eq_true rfl)⟩ rfl (by decide) (by decide) (by decide) (fun _ h => absurd h List.not_mem_nil) u407 (fun q H locs h1 h2 h5 => ?_)
    refine g_astore (i := 6) (lv' := [(0, va_rf (some a0)), (1, .int x1), (2, .int x2), (3, .int x3), (4, .int x4), (5, va_rf (some o))]) hx hb dL_placeOf_17 hl (by decide) (fun v => rfl) (fun ls hl => ?_)
    refine lv_iconst (v := nI (0 + 1)) hx hb dL_placeOf_19 (by decide) ?_
    exact l_endX hF hsz rfl hO hT0 h1 h2 h5 dL_placeOf_20 (Nat.le_of_ble_eq_true rfl) (Nat.le_of_ble_eq_true rfl)
  · have hx9 := Option.some.inj hi
    subst hx9
    refine g_aload hx hb dL_placeOf_0 (lv_at hl 5 rfl) ?_
    refine lv_iconst (v := 0) hx hb dL_placeOf_2 (by decide) ?_
    refine g_aload_n hx hb dL_placeOf_3 rfl (lv_at hl 0 rfl) ?_
    refine lv_iload_n hx hb dL_placeOf_4 rfl (lv_at hl 1 rfl) ?_
    refine lv_iload_n hx hb dL_placeOf_5 rfl (lv_at hl 2 rfl) ?_
    refine lv_iload_n hx hb dL_placeOf_6 rfl (lv_at hl 3 rfl) ?_
    refine lv_iload hx hb dL_placeOf_7 (lv_at hl 4 rfl) ?_
    refine l_callX (pre := [⟨0, 14, 17, 13⟩]) (x0 := ⟨0, 14, 21, 15⟩) (suf := []) (As := [.int x1, .int x2, .int x3, .int x4]) (rest := [.int 0, va_rf (some o)]) hF hNc hM htab (cx_X4_placeOf hfl h) k_X4_placeOf u711 u712 u713 rfl rfl hT rfl hl.1 rfl (Nat.le_of_ble_eq_true rfl) dL_placeOf_9 ⟨(Nat.le_of_ble_eq_true rfl), (Nat.le_of_ble_eq_true rfl)⟩ ⟨(Nat.le_of_ble_eq_true rfl), (Nat.le_of_ble_eq_true rfl)⟩ rfl (by decide) (by decide) (by decide) (List.forall_mem_cons.mpr ⟨⟨by decide, 1, by decide, u407⟩, (fun _ h => absurd h List.not_mem_nil)⟩) u487 (fun q H locs h1 h2 h5 => ?_)
    refine g_astore (i := 6) (lv' := [(0, va_rf (some a0)), (1, .int x1), (2, .int x2), (3, .int x3), (4, .int x4), (5, va_rf (some o))]) hx hb dL_placeOf_21 hl (by decide) (fun v => rfl) (fun ls hl => ?_)
    refine lv_iconst (v := nI (1 + 1)) hx hb dL_placeOf_23 (by decide) ?_
    exact l_endX hF hsz rfl hO hT0 h1 h2 h5 dL_placeOf_24 (Nat.le_of_ble_eq_true rfl) (Nat.le_of_ble_eq_true rfl)
  · exact absurd hi (by simp)
