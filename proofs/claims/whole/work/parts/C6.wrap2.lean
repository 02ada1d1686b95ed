abbrev rmL_put : Room := { frames := 4, cells := 0, slots := 0, locals := 95 }
abbrev rmLx_put : Room := { frames := 9, cells := 1, slots := 6, locals := 158 }
theorem kL_put : lKc yL_put cL_put 7 [(0, 14, 17, 13), (0, 14, 21, 15), (0, 14, 25, 71), (0, 14, 29, 17), (0, 14, 33, 73)] 6 := ⟨u725, u62, by decide +kernel, by decide +kernel, by decide +kernel⟩
set_option maxHeartbeats 4000000 in
set_option maxRecDepth 100000 in
theorem cL_put_r {l : Launch} {D : va_G} {Y : Nat → ClassId} {S : GS} {hs : Nat} {a0 o : Nat} {x1 : Int32} {x2 : Int32} {x3 : Int32} {x4 : Int32} {r : Int32} {S' : GS} (h : f_X4_put S a0 x1 x2 x3 x4 = some (.inl (r, S'))) {yl : ClassId} {c0 : Value} (hT : gT S a0 = 5) : lMet l yL_put (lWs yL_put cL_put 7 [(0, 14, 17, 13), (0, 14, 21, 15), (0, 14, 25, 71), (0, 14, 29, 17), (0, 14, 33, 73)]) rmL_put [va_rf (some a0), .int x1, .int x2, .int x3, .int x4, va_rf (some o)] D Y S hs .long yl o c0 0 (.long r.toInt64) S' hs := by
  refine l_ofW (by decide +kernel) ⟨(Nat.le_of_ble_eq_true rfl), (List.forall_mem_cons.mpr ⟨rf_cat _, (List.forall_mem_cons.mpr ⟨rfl, (List.forall_mem_cons.mpr ⟨rfl, (List.forall_mem_cons.mpr ⟨rfl, (List.forall_mem_cons.mpr ⟨rfl, (List.forall_mem_cons.mpr ⟨rf_cat _, (fun _ h => absurd h List.not_mem_nil)⟩)⟩)⟩)⟩)⟩)⟩)⟩ ?_
  intro p e s m args below meth c ls hsz htab hF hNc hAr hO hT0 hM hl
  have hl : lv_has ls 7 [(0, va_rf (some a0)), (1, .int x1), (2, .int x2), (3, .int x3), (4, .int x4), (5, va_rf (some o))] := by rw [g_args [va_rf (some a0), .int x1, .int x2, .int x3, .int x4, va_rf (some o)] 0 (List.forall_mem_cons.mpr ⟨rf_cat _, (List.forall_mem_cons.mpr ⟨rfl, (List.forall_mem_cons.mpr ⟨rfl, (List.forall_mem_cons.mpr ⟨rfl, (List.forall_mem_cons.mpr ⟨rfl, (List.forall_mem_cons.mpr ⟨rf_cat _, (fun _ h => absurd h List.not_mem_nil)⟩)⟩)⟩)⟩)⟩)⟩)] at hl; exact hl
  have hF : gF p s m args meth c RL cL_put 7 (some .int) D Y (gA S hs) := hF
  have hx := hF.1
  have hb := hF.2.1
  refine g_aload hx hb dL_put_0 (lv_at hl 5 rfl) ?_
  refine lv_iconst (v := 0) hx hb dL_put_2 (by decide) ?_
  refine g_aload_n hx hb dL_put_3 rfl (lv_at hl 0 rfl) ?_
  refine lv_iload_n hx hb dL_put_4 rfl (lv_at hl 1 rfl) ?_
  refine lv_iload_n hx hb dL_put_5 rfl (lv_at hl 2 rfl) ?_
  refine lv_iload_n hx hb dL_put_6 rfl (lv_at hl 3 rfl) ?_
  refine lv_iload hx hb dL_put_7 (lv_at hl 4 rfl) ?_
  refine g_callV (As := [.int x1, .int x2, .int x3, .int x4]) (rest := [.int 0, va_rf (some o)]) hF hM (c_X4_put h) k_X4_put u728 u729 u730 rfl rfl hT rfl hl.1 rfl (Nat.le_of_ble_eq_true rfl) dL_put_9 ⟨(Nat.le_of_ble_eq_true rfl), (Nat.le_of_ble_eq_true rfl)⟩ ⟨(Nat.le_of_ble_eq_true rfl), (Nat.le_of_ble_eq_true rfl)⟩ (fun H locs hM => ?_)
  refine lv_i2l hx hb dL_put_12 rfl ?_
  refine l_last hF hsz hM hAr hO hT0 dL_put_13 (fun H locs h1 h2 h3 h4 h5 => ?_)
  refine lv_goto (tgt := 37) hx hb dL_put_14 (by decide) ?_
  refine lv_iconst (v := 0) hx hb dL_put_37 (by decide) ?_
  exact l_end hF rfl h1 h2 h3 h4 h5 dL_put_38 (Nat.le_of_ble_eq_true rfl) (Nat.le_of_ble_eq_true rfl)
set_option maxHeartbeats 4000000 in
set_option maxRecDepth 100000 in
theorem cL_put_x {l : Launch} {D : va_G} {Y : Nat → ClassId} {S : GS} {hs : Nat} {a0 o : Nat} {x1 : Int32} {x2 : Int32} {x3 : Int32} {x4 : Int32} {x : Nat} (hfl : l.stackTraces = false) (h : f_X4_put S a0 x1 x2 x3 x4 = some (.inr x)) {i : Nat} {yl : ClassId} {c0 : Value} (hT : gT S a0 = 5) (hi : ([1, 2, 3, 4, 5] : List Nat)[i]? = some x) : lMet l yL_put (lWs yL_put cL_put 7 [(0, 14, 17, 13), (0, 14, 21, 15), (0, 14, 25, 71), (0, 14, 29, 17), (0, 14, 33, 73)]) rmLx_put [va_rf (some a0), .int x1, .int x2, .int x3, .int x4, va_rf (some o)] D Y S hs .long yl o c0 (nI (i + 1)) c0 S hs := by
  refine l_ofW (by decide +kernel) ⟨(Nat.le_of_ble_eq_true rfl), (List.forall_mem_cons.mpr ⟨rf_cat _, (List.forall_mem_cons.mpr ⟨rfl, (List.forall_mem_cons.mpr ⟨rfl, (List.forall_mem_cons.mpr ⟨rfl, (List.forall_mem_cons.mpr ⟨rfl, (List.forall_mem_cons.mpr ⟨rf_cat _, (fun _ h => absurd h List.not_mem_nil)⟩)⟩)⟩)⟩)⟩)⟩)⟩ ?_
  intro p e s m args below meth c ls hsz htab hF hNc hAr hO hT0 hM hl
  have hl : lv_has ls 7 [(0, va_rf (some a0)), (1, .int x1), (2, .int x2), (3, .int x3), (4, .int x4), (5, va_rf (some o))] := by rw [g_args [va_rf (some a0), .int x1, .int x2, .int x3, .int x4, va_rf (some o)] 0 (List.forall_mem_cons.mpr ⟨rf_cat _, (List.forall_mem_cons.mpr ⟨rfl, (List.forall_mem_cons.mpr ⟨rfl, (List.forall_mem_cons.mpr ⟨rfl, (List.forall_mem_cons.mpr ⟨rfl, (List.forall_mem_cons.mpr ⟨rf_cat _, (fun _ h => absurd h List.not_mem_nil)⟩)⟩)⟩)⟩)⟩)⟩)] at hl; exact hl
  have hF : gF p s m args meth c RL cL_put 7 (some .int) D Y (gA S hs) := hF
  have hx := hF.1
  have hb := hF.2.1
  rcases i with _ | _ | _ | _ | _ | i
  · have hx9 := Option.some.inj hi
    subst hx9
    refine g_aload hx hb dL_put_0 (lv_at hl 5 rfl) ?_
    refine lv_iconst (v := 0) hx hb dL_put_2 (by decide) ?_
    refine g_aload_n hx hb dL_put_3 rfl (lv_at hl 0 rfl) ?_
    refine lv_iload_n hx hb dL_put_4 rfl (lv_at hl 1 rfl) ?_
    refine lv_iload_n hx hb dL_put_5 rfl (lv_at hl 2 rfl) ?_
    refine lv_iload_n hx hb dL_put_6 rfl (lv_at hl 3 rfl) ?_
    refine lv_iload hx hb dL_put_7 (lv_at hl 4 rfl) ?_
    refine l_callX (pre := []) (x0 := ⟨0, 14, 17, 13⟩) (suf := [⟨0, 14, 21, 15⟩, ⟨0, 14, 25, 71⟩, ⟨0, 14, 29, 17⟩, ⟨0, 14, 33, 73⟩]) (As := [.int x1, .int x2, .int x3, .int x4]) (rest := [.int 0, va_rf (some o)]) hF hNc hM htab (cx_X4_put hfl h) k_X4_put u728 u729 u730 rfl rfl hT rfl hl.1 rfl (Nat.le_of_ble_eq_true rfl) dL_put_9 ⟨(Nat.le_of_ble_eq_true rfl), (Nat.le_of_ble_eq_true rfl)⟩ ⟨(Nat.le_of_ble_eq_true rfl), (Nat.le_of_ble_eq_true rfl)⟩ rfl (by decide) (by decide) (by decide) (fun _ h => absurd h List.not_mem_nil) u407 (fun q H locs h1 h2 h5 => ?_)
    refine g_astore (i := 6) (lv' := [(0, va_rf (some a0)), (1, .int x1), (2, .int x2), (3, .int x3), (4, .int x4), (5, va_rf (some o))]) hx hb dL_put_17 hl (by decide) (fun v => rfl) (fun ls hl => ?_)
    refine lv_iconst (v := nI (0 + 1)) hx hb dL_put_19 (by decide) ?_
    exact l_endX hF hsz rfl hO hT0 h1 h2 h5 dL_put_20 (Nat.le_of_ble_eq_true rfl) (Nat.le_of_ble_eq_true rfl)
  · have hx9 := Option.some.inj hi
    subst hx9
    refine g_aload hx hb dL_put_0 (lv_at hl 5 rfl) ?_
    refine lv_iconst (v := 0) hx hb dL_put_2 (by decide) ?_
    refine g_aload_n hx hb dL_put_3 rfl (lv_at hl 0 rfl) ?_
    refine lv_iload_n hx hb dL_put_4 rfl (lv_at hl 1 rfl) ?_
    refine lv_iload_n hx hb dL_put_5 rfl (lv_at hl 2 rfl) ?_
    refine lv_iload_n hx hb dL_put_6 rfl (lv_at hl 3 rfl) ?_
    refine lv_iload hx hb dL_put_7 (lv_at hl 4 rfl) ?_
    refine l_callX (pre := [⟨0, 14, 17, 13⟩]) (x0 := ⟨0, 14, 21, 15⟩) (suf := [⟨0, 14, 25, 71⟩, ⟨0, 14, 29, 17⟩, ⟨0, 14, 33, 73⟩]) (As := [.int x1, .int x2, .int x3, .int x4]) (rest := [.int 0, va_rf (some o)]) hF hNc hM htab (cx_X4_put hfl h) k_X4_put u728 u729 u730 rfl rfl hT rfl hl.1 rfl (Nat.le_of_ble_eq_true rfl) dL_put_9 ⟨(Nat.le_of_ble_eq_true rfl), (Nat.le_of_ble_eq_true rfl)⟩ ⟨(Nat.le_of_ble_eq_true rfl), (Nat.le_of_ble_eq_true rfl)⟩ rfl (by decide) (by decide) (by decide) (List.forall_mem_cons.mpr ⟨⟨by decide, 1, by decide, u407⟩, (fun _ h => absurd h List.not_mem_nil)⟩) u487 (fun q H locs h1 h2 h5 => ?_)
    refine g_astore (i := 6) (lv' := [(0, va_rf (some a0)), (1, .int x1), (2, .int x2), (3, .int x3), (4, .int x4), (5, va_rf (some o))]) hx hb dL_put_21 hl (by decide) (fun v => rfl) (fun ls hl => ?_)
    refine lv_iconst (v := nI (1 + 1)) hx hb dL_put_23 (by decide) ?_
    exact l_endX hF hsz rfl hO hT0 h1 h2 h5 dL_put_24 (Nat.le_of_ble_eq_true rfl) (Nat.le_of_ble_eq_true rfl)
  · have hx9 := Option.some.inj hi
    subst hx9
    refine g_aload hx hb dL_put_0 (lv_at hl 5 rfl) ?_
    refine lv_iconst (v := 0) hx hb dL_put_2 (by decide) ?_
    refine g_aload_n hx hb dL_put_3 rfl (lv_at hl 0 rfl) ?_
    refine lv_iload_n hx hb dL_put_4 rfl (lv_at hl 1 rfl) ?_
    refine lv_iload_n hx hb dL_put_5 rfl (lv_at hl 2 rfl) ?_
    refine lv_iload_n hx hb dL_put_6 rfl (lv_at hl 3 rfl) ?_
    refine lv_iload hx hb dL_put_7 (lv_at hl 4 rfl) ?_
    refine l_callX (pre := [⟨0, 14, 17, 13⟩, ⟨0, 14, 21, 15⟩]) (x0 := ⟨0, 14, 25, 71⟩) (suf := [⟨0, 14, 29, 17⟩, ⟨0, 14, 33, 73⟩]) (As := [.int x1, .int x2, .int x3, .int x4]) (rest := [.int 0, va_rf (some o)]) hF hNc hM htab (cx_X4_put hfl h) k_X4_put u728 u729 u730 rfl rfl hT rfl hl.1 rfl (Nat.le_of_ble_eq_true rfl) dL_put_9 ⟨(Nat.le_of_ble_eq_true rfl), (Nat.le_of_ble_eq_true rfl)⟩ ⟨(Nat.le_of_ble_eq_true rfl), (Nat.le_of_ble_eq_true rfl)⟩ rfl (by decide) (by decide) (by decide) (List.forall_mem_cons.mpr ⟨⟨by decide, 1, by decide, u407⟩, (List.forall_mem_cons.mpr ⟨⟨by decide, 2, by decide, u487⟩, (fun _ h => absurd h List.not_mem_nil)⟩)⟩) u726 (fun q H locs h1 h2 h5 => ?_)
    refine g_astore (i := 6) (lv' := [(0, va_rf (some a0)), (1, .int x1), (2, .int x2), (3, .int x3), (4, .int x4), (5, va_rf (some o))]) hx hb dL_put_25 hl (by decide) (fun v => rfl) (fun ls hl => ?_)
    refine lv_iconst (v := nI (2 + 1)) hx hb dL_put_27 (by decide) ?_
    exact l_endX hF hsz rfl hO hT0 h1 h2 h5 dL_put_28 (Nat.le_of_ble_eq_true rfl) (Nat.le_of_ble_eq_true rfl)
  · have hx9 := Option.some.inj hi
    subst hx9
    refine g_aload hx hb dL_put_0 (lv_at hl 5 rfl) ?_
    refine lv_iconst (v := 0) hx hb dL_put_2 (by decide) ?_
    refine g_aload_n hx hb dL_put_3 rfl (lv_at hl 0 rfl) ?_
    refine lv_iload_n hx hb dL_put_4 rfl (lv_at hl 1 rfl) ?_
    refine lv_iload_n hx hb dL_put_5 rfl (lv_at hl 2 rfl) ?_
    refine lv_iload_n hx hb dL_put_6 rfl (lv_at hl 3 rfl) ?_
    refine lv_iload hx hb dL_put_7 (lv_at hl 4 rfl) ?_
    refine l_callX (pre := [⟨0, 14, 17, 13⟩, ⟨0, 14, 21, 15⟩, ⟨0, 14, 25, 71⟩]) (x0 := ⟨0, 14, 29, 17⟩) (suf := [⟨0, 14, 33, 73⟩]) (As := [.int x1, .int x2, .int x3, .int x4]) (rest := [.int 0, va_rf (some o)]) hF hNc hM htab (cx_X4_put hfl h) k_X4_put u728 u729 u730 rfl rfl hT rfl hl.1 rfl (Nat.le_of_ble_eq_true rfl) dL_put_9 ⟨(Nat.le_of_ble_eq_true rfl), (Nat.le_of_ble_eq_true rfl)⟩ ⟨(Nat.le_of_ble_eq_true rfl), (Nat.le_of_ble_eq_true rfl)⟩ rfl (by decide) (by decide) (by decide) (List.forall_mem_cons.mpr ⟨⟨by decide, 1, by decide, u407⟩, (List.forall_mem_cons.mpr ⟨⟨by decide, 2, by decide, u487⟩, (List.forall_mem_cons.mpr ⟨⟨by decide, 3, by decide, u726⟩, (fun _ h => absurd h List.not_mem_nil)⟩)⟩)⟩) u488 (fun q H locs h1 h2 h5 => ?_)
    refine g_astore (i := 6) (lv' := [(0, va_rf (some a0)), (1, .int x1), (2, .int x2), (3, .int x3), (4, .int x4), (5, va_rf (some o))]) hx hb dL_put_29 hl (by decide) (fun v => rfl) (fun ls hl => ?_)
    refine lv_iconst (v := nI (3 + 1)) hx hb dL_put_31 (by decide) ?_
    exact l_endX hF hsz rfl hO hT0 h1 h2 h5 dL_put_32 (Nat.le_of_ble_eq_true rfl) (Nat.le_of_ble_eq_true rfl)
  · have hx9 := Option.some.inj hi
    subst hx9
    refine g_aload hx hb dL_put_0 (lv_at hl 5 rfl) ?_
    refine lv_iconst (v := 0) hx hb dL_put_2 (by decide) ?_
    refine g_aload_n hx hb dL_put_3 rfl (lv_at hl 0 rfl) ?_
    refine lv_iload_n hx hb dL_put_4 rfl (lv_at hl 1 rfl) ?_
    refine lv_iload_n hx hb dL_put_5 rfl (lv_at hl 2 rfl) ?_
    refine lv_iload_n hx hb dL_put_6 rfl (lv_at hl 3 rfl) ?_
    refine lv_iload hx hb dL_put_7 (lv_at hl 4 rfl) ?_
    refine l_callX (pre := [⟨0, 14, 17, 13⟩, ⟨0, 14, 21, 15⟩, ⟨0, 14, 25, 71⟩, ⟨0, 14, 29, 17⟩]) (x0 := ⟨0, 14, 33, 73⟩) (suf := []) (As := [.int x1, .int x2, .int x3, .int x4]) (rest := [.int 0, va_rf (some o)]) hF hNc hM htab (cx_X4_put hfl h) k_X4_put u728 u729 u730 rfl rfl hT rfl hl.1 rfl (Nat.le_of_ble_eq_true rfl) dL_put_9 ⟨(Nat.le_of_ble_eq_true rfl), (Nat.le_of_ble_eq_true rfl)⟩ ⟨(Nat.le_of_ble_eq_true rfl), (Nat.le_of_ble_eq_true rfl)⟩ rfl (by decide) (by decide) (by decide) (List.forall_mem_cons.mpr ⟨⟨by decide, 1, by decide, u407⟩, (List.forall_mem_cons.mpr ⟨⟨by decide, 2, by decide, u487⟩, (List.forall_mem_cons.mpr ⟨⟨by decide, 3, by decide, u726⟩, (List.forall_mem_cons.mpr ⟨⟨by decide, 4, by decide, u488⟩, (fun _ h => absurd h List.not_mem_nil)⟩)⟩)⟩)⟩) u727 (fun q H locs h1 h2 h5 => ?_)
    refine g_astore (i := 6) (lv' := [(0, va_rf (some a0)), (1, .int x1), (2, .int x2), (3, .int x3), (4, .int x4), (5, va_rf (some o))]) hx hb dL_put_33 hl (by decide) (fun v => rfl) (fun ls hl => ?_)
    refine lv_iconst (v := nI (4 + 1)) hx hb dL_put_35 (by decide) ?_
    exact l_endX hF hsz rfl hO hT0 h1 h2 h5 dL_put_36 (Nat.le_of_ble_eq_true rfl) (Nat.le_of_ble_eq_true rfl)
  · exact absurd hi (by simp)
abbrev rmL_set : Room := { frames := 4, cells := 0, slots := 0, locals := 90 }
abbrev rmLx_set : Room := { frames := 9, cells := 1, slots := 6, locals := 159 }
theorem kL_set : lKc yL_set cL_set 7 [(0, 14, 17, 13), (0, 14, 21, 15), (0, 14, 25, 71), (0, 14, 29, 17)] 6 := ⟨u782, u62, by decide +kernel, by decide +kernel, by decide +kernel⟩
set_option maxHeartbeats 4000000 in
set_option maxRecDepth 100000 in
theorem cL_set_r {l : Launch} {D : va_G} {Y : Nat → ClassId} {S : GS} {hs : Nat} {a0 o : Nat} {x1 : Int32} {x2 : Int32} {x3 : Int32} {x4 : Int32} {r : Int32} {S' : GS} (h : f_X4_set S a0 x1 x2 x3 x4 = some (.inl (r, S'))) {yl : ClassId} {c0 : Value} (hT : gT S a0 = 5) : lMet l yL_set (lWs yL_set cL_set 7 [(0, 14, 17, 13), (0, 14, 21, 15), (0, 14, 25, 71), (0, 14, 29, 17)]) rmL_set [va_rf (some a0), .int x1, .int x2, .int x3, .int x4, va_rf (some o)] D Y S hs .long yl o c0 0 (.long r.toInt64) S' hs := by
  refine l_ofW (by decide +kernel) ⟨(Nat.le_of_ble_eq_true rfl), (List.forall_mem_cons.mpr ⟨rf_cat _, (List.forall_mem_cons.mpr ⟨rfl, (List.forall_mem_cons.mpr ⟨rfl, (List.forall_mem_cons.mpr ⟨rfl, (List.forall_mem_cons.mpr ⟨rfl, (List.forall_mem_cons.mpr ⟨rf_cat _, (fun _ h => absurd h List.not_mem_nil)⟩)⟩)⟩)⟩)⟩)⟩)⟩ ?_
  intro p e s m args below meth c ls hsz htab hF hNc hAr hO hT0 hM hl
  have hl : lv_has ls 7 [(0, va_rf (some a0)), (1, .int x1), (2, .int x2), (3, .int x3), (4, .int x4), (5, va_rf (some o))] := by rw [g_args [va_rf (some a0), .int x1, .int x2, .int x3, .int x4, va_rf (some o)] 0 (List.forall_mem_cons.mpr ⟨rf_cat _, (List.forall_mem_cons.mpr ⟨rfl, (List.forall_mem_cons.mpr ⟨rfl, (List.forall_mem_cons.mpr ⟨rfl, (List.forall_mem_cons.mpr ⟨rfl, (List.forall_mem_cons.mpr ⟨rf_cat _, (fun _ h => absurd h List.not_mem_nil)⟩)⟩)⟩)⟩)⟩)⟩)] at hl; exact hl
  have hF : gF p s m args meth c RL cL_set 7 (some .int) D Y (gA S hs) := hF
  have hx := hF.1
  have hb := hF.2.1
  refine g_aload hx hb dL_set_0 (lv_at hl 5 rfl) ?_
  refine lv_iconst (v := 0) hx hb dL_set_2 (by decide) ?_
  refine g_aload_n hx hb dL_set_3 rfl (lv_at hl 0 rfl) ?_
  refine lv_iload_n hx hb dL_set_4 rfl (lv_at hl 1 rfl) ?_
  refine lv_iload_n hx hb dL_set_5 rfl (lv_at hl 2 rfl) ?_
  refine lv_iload_n hx hb dL_set_6 rfl (lv_at hl 3 rfl) ?_
  refine lv_iload hx hb dL_set_7 (lv_at hl 4 rfl) ?_
  refine g_callV (As := [.int x1, .int x2, .int x3, .int x4]) (rest := [.int 0, va_rf (some o)]) hF hM (c_X4_set h) k_X4_set u783 u784 u785 rfl rfl hT rfl hl.1 rfl (Nat.le_of_ble_eq_true rfl) dL_set_9 ⟨(Nat.le_of_ble_eq_true rfl), (Nat.le_of_ble_eq_true rfl)⟩ ⟨(Nat.le_of_ble_eq_true rfl), (Nat.le_of_ble_eq_true rfl)⟩ (fun H locs hM => ?_)
  refine lv_i2l hx hb dL_set_12 rfl ?_
  refine l_last hF hsz hM hAr hO hT0 dL_set_13 (fun H locs h1 h2 h3 h4 h5 => ?_)
  refine lv_goto (tgt := 33) hx hb dL_set_14 (by decide) ?_
  refine lv_iconst (v := 0) hx hb dL_set_33 (by decide) ?_
  exact l_end hF rfl h1 h2 h3 h4 h5 dL_set_34 (Nat.le_of_ble_eq_true rfl) (Nat.le_of_ble_eq_true rfl)
set_option maxHeartbeats 4000000 in
set_option maxRecDepth 100000 in
theorem cL_set_x {l : Launch} {D : va_G} {Y : Nat → ClassId} {S : GS} {hs : Nat} {a0 o : Nat} {x1 : Int32} {x2 : Int32} {x3 : Int32} {x4 : Int32} {x : Nat} (hfl : l.stackTraces = false) (h : f_X4_set S a0 x1 x2 x3 x4 = some (.inr x)) {i : Nat} {yl : ClassId} {c0 : Value} (hT : gT S a0 = 5) (hi : ([1, 2, 3, 4] : List Nat)[i]? = some x) : lMet l yL_set (lWs yL_set cL_set 7 [(0, 14, 17, 13), (0, 14, 21, 15), (0, 14, 25, 71), (0, 14, 29, 17)]) rmLx_set [va_rf (some a0), .int x1, .int x2, .int x3, .int x4, va_rf (some o)] D Y S hs .long yl o c0 (nI (i + 1)) c0 S hs := by
  refine l_ofW (by decide +kernel) ⟨(Nat.le_of_ble_eq_true rfl), (List.forall_mem_cons.mpr ⟨rf_cat _, (List.forall_mem_cons.mpr ⟨rfl, (List.forall_mem_cons.mpr ⟨rfl, (List.forall_mem_cons.mpr ⟨rfl, (List.forall_mem_cons.mpr ⟨rfl, (List.forall_mem_cons.mpr ⟨rf_cat _, (fun _ h => absurd h List.not_mem_nil)⟩)⟩)⟩)⟩)⟩)⟩)⟩ ?_
  intro p e s m args below meth c ls hsz htab hF hNc hAr hO hT0 hM hl
  have hl : lv_has ls 7 [(0, va_rf (some a0)), (1, .int x1), (2, .int x2), (3, .int x3), (4, .int x4), (5, va_rf (some o))] := by rw [g_args [va_rf (some a0), .int x1, .int x2, .int x3, .int x4, va_rf (some o)] 0 (List.forall_mem_cons.mpr ⟨rf_cat _, (List.forall_mem_cons.mpr ⟨rfl, (List.forall_mem_cons.mpr ⟨rfl, (List.forall_mem_cons.mpr ⟨rfl, (List.forall_mem_cons.mpr ⟨rfl, (List.forall_mem_cons.mpr ⟨rf_cat _, (fun _ h => absurd h List.not_mem_nil)⟩)⟩)⟩)⟩)⟩)⟩)] at hl; exact hl
  have hF : gF p s m args meth c RL cL_set 7 (some .int) D Y (gA S hs) := hF
  have hx := hF.1
  have hb := hF.2.1
  rcases i with _ | _ | _ | _ | i
  · have hx9 := Option.some.inj hi
    subst hx9
    refine g_aload hx hb dL_set_0 (lv_at hl 5 rfl) ?_
    refine lv_iconst (v := 0) hx hb dL_set_2 (by decide) ?_
    refine g_aload_n hx hb dL_set_3 rfl (lv_at hl 0 rfl) ?_
    refine lv_iload_n hx hb dL_set_4 rfl (lv_at hl 1 rfl) ?_
    refine lv_iload_n hx hb dL_set_5 rfl (lv_at hl 2 rfl) ?_
    refine lv_iload_n hx hb dL_set_6 rfl (lv_at hl 3 rfl) ?_
    refine lv_iload hx hb dL_set_7 (lv_at hl 4 rfl) ?_
    refine l_callX (pre := []) (x0 := ⟨0, 14, 17, 13⟩) (suf := [⟨0, 14, 21, 15⟩, ⟨0, 14, 25, 71⟩, ⟨0, 14, 29, 17⟩]) (As := [.int x1, .int x2, .int x3, .int x4]) (rest := [.int 0, va_rf (some o)]) hF hNc hM htab (cx_X4_set hfl h) k_X4_set u783 u784 u785 rfl rfl hT rfl hl.1 rfl (Nat.le_of_ble_eq_true rfl) dL_set_9 ⟨(Nat.le_of_ble_eq_true rfl), (Nat.le_of_ble_eq_true rfl)⟩ ⟨(Nat.le_of_ble_eq_true rfl), (Nat.le_of_ble_eq_true rfl)⟩ rfl (by decide) (by decide) (by decide) (fun _ h => absurd h List.not_mem_nil) u407 (fun q H locs h1 h2 h5 => ?_)
    refine g_astore (i := 6) (lv' := [(0, va_rf (some a0)), (1, .int x1), (2, .int x2), (3, .int x3), (4, .int x4), (5, va_rf (some o))]) hx hb dL_set_17 hl (by decide) (fun v => rfl) (fun ls hl => ?_)
    refine lv_iconst (v := nI (0 + 1)) hx hb dL_set_19 (by decide) ?_
    exact l_endX hF hsz rfl hO hT0 h1 h2 h5 dL_set_20 (Nat.le_of_ble_eq_true rfl) (Nat.le_of_ble_eq_true rfl)
  · have hx9 := Option.some.inj hi
    subst hx9
    refine g_aload hx hb dL_set_0 (lv_at hl 5 rfl) ?_
    refine lv_iconst (v := 0) hx hb dL_set_2 (by decide) ?_
    refine g_aload_n hx hb dL_set_3 rfl (lv_at hl 0 rfl) ?_
    refine lv_iload_n hx hb dL_set_4 rfl (lv_at hl 1 rfl) ?_
    refine lv_iload_n hx hb dL_set_5 rfl (lv_at hl 2 rfl) ?_
    refine lv_iload_n hx hb dL_set_6 rfl (lv_at hl 3 rfl) ?_
    refine lv_iload hx hb dL_set_7 (lv_at hl 4 rfl) ?_
    refine l_callX (pre := [⟨0, 14, 17, 13⟩]) (x0 := ⟨0, 14, 21, 15⟩) (suf := [⟨0, 14, 25, 71⟩, ⟨0, 14, 29, 17⟩]) (As := [.int x1, .int x2, .int x3, .int x4]) (rest := [.int 0, va_rf (some o)]) hF hNc hM htab (cx_X4_set hfl h) k_X4_set u783 u784 u785 rfl rfl hT rfl hl.1 rfl (Nat.le_of_ble_eq_true rfl) dL_set_9 ⟨(Nat.le_of_ble_eq_true rfl), (Nat.le_of_ble_eq_true rfl)⟩ ⟨(Nat.le_of_ble_eq_true rfl), (Nat.le_of_ble_eq_true rfl)⟩ rfl (by decide) (by decide) (by decide) (List.forall_mem_cons.mpr ⟨⟨by decide, 1, by decide, u407⟩, (fun _ h => absurd h List.not_mem_nil)⟩) u487 (fun q H locs h1 h2 h5 => ?_)
    refine g_astore (i := 6) (lv' := [(0, va_rf (some a0)), (1, .int x1), (2, .int x2), (3, .int x3), (4, .int x4), (5, va_rf (some o))]) hx hb dL_set_21 hl (by decide) (fun v => rfl) (fun ls hl => ?_)
    refine lv_iconst (v := nI (1 + 1)) hx hb dL_set_23 (by decide) ?_
    exact l_endX hF hsz rfl hO hT0 h1 h2 h5 dL_set_24 (Nat.le_of_ble_eq_true rfl) (Nat.le_of_ble_eq_true rfl)
  · have hx9 := Option.some.inj hi
    subst hx9
    refine g_aload hx hb dL_set_0 (lv_at hl 5 rfl) ?_
    refine lv_iconst (v := 0) hx hb dL_set_2 (by decide) ?_
    refine g_aload_n hx hb dL_set_3 rfl (lv_at hl 0 rfl) ?_
    refine lv_iload_n hx hb dL_set_4 rfl (lv_at hl 1 rfl) ?_
    refine lv_iload_n hx hb dL_set_5 rfl (lv_at hl 2 rfl) ?_
    refine lv_iload_n hx hb dL_set_6 rfl (lv_at hl 3 rfl) ?_
    refine lv_iload hx hb dL_set_7 (lv_at hl 4 rfl) ?_
    refine l_callX (pre := [⟨0, 14, 17, 13⟩, ⟨0, 14, 21, 15⟩]) (x0 := ⟨0, 14, 25, 71⟩) (suf := [⟨0, 14, 29, 17⟩]) (As := [.int x1, .int x2, .int x3, .int x4]) (rest := [.int 0, va_rf (some o)]) hF hNc hM htab (cx_X4_set hfl h) k_X4_set u783 u784 u785 rfl rfl hT rfl hl.1 rfl (Nat.le_of_ble_eq_true rfl) dL_set_9 ⟨(Nat.le_of_ble_eq_true rfl), (Nat.le_of_ble_eq_true rfl)⟩ ⟨(Nat.le_of_ble_eq_true rfl), (Nat.le_of_ble_eq_true rfl)⟩ rfl (by decide) (by decide) (by decide) (List.forall_mem_cons.mpr ⟨⟨by decide, 1, by decide, u407⟩, (List.forall_mem_cons.mpr ⟨⟨by decide, 2, by decide, u487⟩, (fun _ h => absurd h List.not_mem_nil)⟩)⟩) u726 (fun q H locs h1 h2 h5 => ?_)
    refine g_astore (i := 6) (lv' := [(0, va_rf (some a0)), (1, .int x1), (2, .int x2), (3, .int x3), (4, .int x4), (5, va_rf (some o))]) hx hb dL_set_25 hl (by decide) (fun v => rfl) (fun ls hl => ?_)
    refine lv_iconst (v := nI (2 + 1)) hx hb dL_set_27 (by decide) ?_
    exact l_endX hF hsz rfl hO hT0 h1 h2 h5 dL_set_28 (Nat.le_of_ble_eq_true rfl) (Nat.le_of_ble_eq_true rfl)
  · have hx9 := Option.some.inj hi
    subst hx9
    refine g_aload hx hb dL_set_0 (lv_at hl 5 rfl) ?_
    refine lv_iconst (v := 0) hx hb dL_set_2 (by decide) ?_
    refine g_aload_n hx hb dL_set_3 rfl (lv_at hl 0 rfl) ?_
    refine lv_iload_n hx hb dL_set_4 rfl (lv_at hl 1 rfl) ?_
    refine lv_iload_n hx hb dL_set_5 rfl (lv_at hl 2 rfl) ?_
    refine lv_iload_n hx hb dL_set_6 rfl (lv_at hl 3 rfl) ?_
    refine lv_iload hx hb dL_set_7 (lv_at hl 4 rfl) ?_
    refine l_callX (pre := [⟨0, 14, 17, 13⟩, ⟨0, 14, 21, 15⟩, ⟨0, 14, 25, 71⟩]) (x0 := ⟨0, 14, 29, 17⟩) (suf := []) (As := [.int x1, .int x2, .int x3, .int x4]) (rest := [.int 0, va_rf (some o)]) hF hNc hM htab (cx_X4_set hfl h) k_X4_set u783 u784 u785 rfl rfl hT rfl hl.1 rfl (Nat.le_of_ble_eq_true rfl) dL_set_9 ⟨(Nat.le_of_ble_eq_true rfl), (Nat.le_of_ble_eq_true rfl)⟩ ⟨(Nat.le_of_ble_eq_true rfl), (Nat.le_of_ble_eq_true rfl)⟩ rfl (by decide) (by decide) (by decide) (List.forall_mem_cons.mpr ⟨⟨by decide, 1, by decide, u407⟩, (List.forall_mem_cons.mpr ⟨⟨by decide, 2, by decide, u487⟩, (List.forall_mem_cons.mpr ⟨⟨by decide, 3, by decide, u726⟩, (fun _ h => absurd h List.not_mem_nil)⟩)⟩)⟩) u488 (fun q H locs h1 h2 h5 => ?_)
    refine g_astore (i := 6) (lv' := [(0, va_rf (some a0)), (1, .int x1), (2, .int x2), (3, .int x3), (4, .int x4), (5, va_rf (some o))]) hx hb dL_set_29 hl (by decide) (fun v => rfl) (fun ls hl => ?_)
    refine lv_iconst (v := nI (3 + 1)) hx hb dL_set_31 (by decide) ?_
    exact l_endX hF hsz rfl hO hT0 h1 h2 h5 dL_set_32 (Nat.le_of_ble_eq_true rfl) (Nat.le_of_ble_eq_true rfl)
  · exact absurd hi (by simp)
abbrev rmL_take : Room := { frames := 4, cells := 0, slots := 0, locals := 90 }
abbrev rmLx_take : Room := { frames := 9, cells := 1, slots := 6, locals := 157 }
theorem kL_take : lKc yL_take cL_take 5 [(0, 10, 13, 13), (0, 10, 17, 15), (0, 10, 21, 71), (0, 10, 25, 17)] 4 := ⟨u791, u62, by decide +kernel, by decide +kernel, by decide +kernel⟩
set_option maxHeartbeats 4000000 in
set_option maxRecDepth 100000 in
theorem cL_take_r {l : Launch} {D : va_G} {Y : Nat → ClassId} {S : GS} {hs : Nat} {a0 o : Nat} {x1 : Int32} {x2 : Int32} {r : Int32} {S' : GS} (h : f_X4_take S a0 x1 x2 = some (.inl (r, S'))) {yl : ClassId} {c0 : Value} (hT : gT S a0 = 5) : lMet l yL_take (lWs yL_take cL_take 5 [(0, 10, 13, 13), (0, 10, 17, 15), (0, 10, 21, 71), (0, 10, 25, 17)]) rmL_take [va_rf (some a0), .int x1, .int x2, va_rf (some o)] D Y S hs .long yl o c0 0 (.long r.toInt64) S' hs := by
  refine l_ofW (by decide +kernel) ⟨(Nat.le_of_ble_eq_true rfl), (List.forall_mem_cons.mpr ⟨rf_cat _, (List.forall_mem_cons.mpr ⟨rfl, (List.forall_mem_cons.mpr ⟨rfl, (List.forall_mem_cons.mpr ⟨rf_cat _, (fun _ h => absurd h List.not_mem_nil)⟩)⟩)⟩)⟩)⟩ ?_
  intro p e s m args below meth c ls hsz htab hF hNc hAr hO hT0 hM hl
  have hl : lv_has ls 5 [(0, va_rf (some a0)), (1, .int x1), (2, .int x2), (3, va_rf (some o))] := by rw [g_args [va_rf (some a0), .int x1, .int x2, va_rf (some o)] 0 (List.forall_mem_cons.mpr ⟨rf_cat _, (List.forall_mem_cons.mpr ⟨rfl, (List.forall_mem_cons.mpr ⟨rfl, (List.forall_mem_cons.mpr ⟨rf_cat _, (fun _ h => absurd h List.not_mem_nil)⟩)⟩)⟩)⟩)] at hl; exact hl
  have hF : gF p s m args meth c RL cL_take 5 (some .int) D Y (gA S hs) := hF
  have hx := hF.1
  have hb := hF.2.1
  refine g_aload_n hx hb dL_take_0 rfl (lv_at hl 3 rfl) ?_
  refine lv_iconst (v := 0) hx hb dL_take_1 (by decide) ?_
  refine g_aload_n hx hb dL_take_2 rfl (lv_at hl 0 rfl) ?_
  refine lv_iload_n hx hb dL_take_3 rfl (lv_at hl 1 rfl) ?_
  refine lv_iload_n hx hb dL_take_4 rfl (lv_at hl 2 rfl) ?_
  refine g_callV (As := [.int x1, .int x2]) (rest := [.int 0, va_rf (some o)]) hF hM (c_X4_take h) k_X4_take u792 u793 u794 rfl rfl hT rfl hl.1 rfl (Nat.le_of_ble_eq_true rfl) dL_take_5 ⟨(Nat.le_of_ble_eq_true rfl), (Nat.le_of_ble_eq_true rfl)⟩ ⟨(Nat.le_of_ble_eq_true rfl), (Nat.le_of_ble_eq_true rfl)⟩ (fun H locs hM => ?_)
  refine lv_i2l hx hb dL_take_8 rfl ?_
  refine l_last hF hsz hM hAr hO hT0 dL_take_9 (fun H locs h1 h2 h3 h4 h5 => ?_)
  refine lv_goto (tgt := 29) hx hb dL_take_10 (by decide) ?_
  refine lv_iconst (v := 0) hx hb dL_take_29 (by decide) ?_
  exact l_end hF rfl h1 h2 h3 h4 h5 dL_take_30 (Nat.le_of_ble_eq_true rfl) (Nat.le_of_ble_eq_true rfl)
set_option maxHeartbeats 4000000 in
set_option maxRecDepth 100000 in
theorem cL_take_x {l : Launch} {D : va_G} {Y : Nat → ClassId} {S : GS} {hs : Nat} {a0 o : Nat} {x1 : Int32} {x2 : Int32} {x : Nat} (hfl : l.stackTraces = false) (h : f_X4_take S a0 x1 x2 = some (.inr x)) {i : Nat} {yl : ClassId} {c0 : Value} (hT : gT S a0 = 5) (hi : ([1, 2, 3, 4] : List Nat)[i]? = some x) : lMet l yL_take (lWs yL_take cL_take 5 [(0, 10, 13, 13), (0, 10, 17, 15), (0, 10, 21, 71), (0, 10, 25, 17)]) rmLx_take [va_rf (some a0), .int x1, .int x2, va_rf (some o)] D Y S hs .long yl o c0 (nI (i + 1)) c0 S hs := by
  refine l_ofW (by decide +kernel) ⟨(Nat.le_of_ble_eq_true rfl), (List.forall_mem_cons.mpr ⟨rf_cat _, (List.forall_mem_cons.mpr ⟨rfl, (List.forall_mem_cons.mpr ⟨rfl, (List.forall_mem_cons.mpr ⟨rf_cat _, (fun _ h => absurd h List.not_mem_nil)⟩)⟩)⟩)⟩)⟩ ?_
  intro p e s m args below meth c ls hsz htab hF hNc hAr hO hT0 hM hl
  have hl : lv_has ls 5 [(0, va_rf (some a0)), (1, .int x1), (2, .int x2), (3, va_rf (some o))] := by rw [g_args [va_rf (some a0), .int x1, .int x2, va_rf (some o)] 0 (List.forall_mem_cons.mpr ⟨rf_cat _, (List.forall_mem_cons.mpr ⟨rfl, (List.forall_mem_cons.mpr ⟨rfl, (List.forall_mem_cons.mpr ⟨rf_cat _, (fun _ h => absurd h List.not_mem_nil)⟩)⟩)⟩)⟩)] at hl; exact hl
  have hF : gF p s m args meth c RL cL_take 5 (some .int) D Y (gA S hs) := hF
  have hx := hF.1
  have hb := hF.2.1
  rcases i with _ | _ | _ | _ | i
  · have hx9 := Option.some.inj hi
    subst hx9
    refine g_aload_n hx hb dL_take_0 rfl (lv_at hl 3 rfl) ?_
    refine lv_iconst (v := 0) hx hb dL_take_1 (by decide) ?_
    refine g_aload_n hx hb dL_take_2 rfl (lv_at hl 0 rfl) ?_
    refine lv_iload_n hx hb dL_take_3 rfl (lv_at hl 1 rfl) ?_
    refine lv_iload_n hx hb dL_take_4 rfl (lv_at hl 2 rfl) ?_
    refine l_callX (pre := []) (x0 := ⟨0, 10, 13, 13⟩) (suf := [⟨0, 10, 17, 15⟩, ⟨0, 10, 21, 71⟩, ⟨0, 10, 25, 17⟩]) (As := [.int x1, .int x2]) (rest := [.int 0, va_rf (some o)]) hF hNc hM htab (cx_X4_take hfl h) k_X4_take u792 u793 u794 rfl rfl hT rfl hl.1 rfl (Nat.le_of_ble_eq_true rfl) dL_take_5 ⟨(Nat.le_of_ble_eq_true rfl), (Nat.le_of_ble_eq_true rfl)⟩ ⟨(Nat.le_of_ble_eq_true rfl), (Nat.le_of_ble_eq_true rfl)⟩ rfl (by decide) (by decide) (by decide) (fun _ h => absurd h List.not_mem_nil) u407 (fun q H locs h1 h2 h5 => ?_)
    refine g_astore (i := 4) (lv' := [(0, va_rf (some a0)), (1, .int x1), (2, .int x2), (3, va_rf (some o))]) hx hb dL_take_13 hl (by decide) (fun v => rfl) (fun ls hl => ?_)
    refine lv_iconst (v := nI (0 + 1)) hx hb dL_take_15 (by decide) ?_
    exact l_endX hF hsz rfl hO hT0 h1 h2 h5 dL_take_16 (Nat.le_of_ble_eq_true rfl) (Nat.le_of_ble_eq_true rfl)
  · have hx9 := Option.some.inj hi
    subst hx9
    refine g_aload_n hx hb dL_take_0 rfl (lv_at hl 3 rfl) ?_
    refine lv_iconst (v := 0) hx hb dL_take_1 (by decide) ?_
    refine g_aload_n hx hb dL_take_2 rfl (lv_at hl 0 rfl) ?_
    refine lv_iload_n hx hb dL_take_3 rfl (lv_at hl 1 rfl) ?_
    refine lv_iload_n hx hb dL_take_4 rfl (lv_at hl 2 rfl) ?_
    refine l_callX (pre := [⟨0, 10, 13, 13⟩]) (x0 := ⟨0, 10, 17, 15⟩) (suf := [⟨0, 10, 21, 71⟩, ⟨0, 10, 25, 17⟩]) (As := [.int x1, .int x2]) (rest := [.int 0, va_rf (some o)]) hF hNc hM htab (cx_X4_take hfl h) k_X4_take u792 u793 u794 rfl rfl hT rfl hl.1 rfl (Nat.le_of_ble_eq_true rfl) dL_take_5 ⟨(Nat.le_of_ble_eq_true rfl), (Nat.le_of_ble_eq_true rfl)⟩ ⟨(Nat.le_of_ble_eq_true rfl), (Nat.le_of_ble_eq_true rfl)⟩ rfl (by decide) (by decide) (by decide) (List.forall_mem_cons.mpr ⟨⟨by decide, 1, by decide, u407⟩, (fun _ h => absurd h List.not_mem_nil)⟩) u487 (fun q H locs h1 h2 h5 => ?_)
    refine g_astore (i := 4) (lv' := [(0, va_rf (some a0)), (1, .int x1), (2, .int x2), (3, va_rf (some o))]) hx hb dL_take_17 hl (by decide) (fun v => rfl) (fun ls hl => ?_)
    refine lv_iconst (v := nI (1 + 1)) hx hb dL_take_19 (by decide) ?_
    exact l_endX hF hsz rfl hO hT0 h1 h2 h5 dL_take_20 (Nat.le_of_ble_eq_true rfl) (Nat.le_of_ble_eq_true rfl)
  · have hx9 := Option.some.inj hi
    subst hx9
    refine g_aload_n hx hb dL_take_0 rfl (lv_at hl 3 rfl) ?_
    refine lv_iconst (v := 0) hx hb dL_take_1 (by decide) ?_
    refine g_aload_n hx hb dL_take_2 rfl (lv_at hl 0 rfl) ?_
    refine lv_iload_n hx hb dL_take_3 rfl (lv_at hl 1 rfl) ?_
    refine lv_iload_n hx hb dL_take_4 rfl (lv_at hl 2 rfl) ?_
    refine l_callX (pre := [⟨0, 10, 13, 13⟩, ⟨0, 10, 17, 15⟩]) (x0 := ⟨0, 10, 21, 71⟩) (suf := [⟨0, 10, 25, 17⟩]) (As := [.int x1, .int x2]) (rest := [.int 0, va_rf (some o)]) hF hNc hM htab (cx_X4_take hfl h) k_X4_take u792 u793 u794 rfl rfl hT rfl hl.1 rfl (Nat.le_of_ble_eq_true rfl) dL_take_5 ⟨(Nat.le_of_ble_eq_true rfl), (Nat.le_of_ble_eq_true rfl)⟩ ⟨(Nat.le_of_ble_eq_true rfl), (Nat.le_of_ble_eq_true rfl)⟩ rfl (by decide) (by decide) (by decide) (List.forall_mem_cons.mpr ⟨⟨by decide, 1, by decide, u407⟩, (List.forall_mem_cons.mpr ⟨⟨by decide, 2, by decide, u487⟩, (fun _ h => absurd h List.not_mem_nil)⟩)⟩) u726 (fun q H locs h1 h2 h5 => ?_)
    refine g_astore (i := 4) (lv' := [(0, va_rf (some a0)), (1, .int x1), (2, .int x2), (3, va_rf (some o))]) hx hb dL_take_21 hl (by decide) (fun v => rfl) (fun ls hl => ?_)
    refine lv_iconst (v := nI (2 + 1)) hx hb dL_take_23 (by decide) ?_
    exact l_endX hF hsz rfl hO hT0 h1 h2 h5 dL_take_24 (Nat.le_of_ble_eq_true rfl) (Nat.le_of_ble_eq_true rfl)
  · have hx9 := Option.some.inj hi
    subst hx9
    refine g_aload_n hx hb dL_take_0 rfl (lv_at hl 3 rfl) ?_
    refine lv_iconst (v := 0) hx hb dL_take_1 (by decide) ?_
    refine g_aload_n hx hb dL_take_2 rfl (lv_at hl 0 rfl) ?_
    refine lv_iload_n hx hb dL_take_3 rfl (lv_at hl 1 rfl) ?_
    refine lv_iload_n hx hb dL_take_4 rfl (lv_at hl 2 rfl) ?_
    refine l_callX (pre := [⟨0, 10, 13, 13⟩, ⟨0, 10, 17, 15⟩, ⟨0, 10, 21, 71⟩]) (x0 := ⟨0, 10, 25, 17⟩) (suf := []) (As := [.int x1, .int x2]) (rest := [.int 0, va_rf (some o)]) hF hNc hM htab (cx_X4_take hfl h) k_X4_take u792 u793 u794 rfl rfl hT rfl hl.1 rfl (Nat.le_of_ble_eq_true rfl) dL_take_5 ⟨(Nat.le_of_ble_eq_true rfl), (Nat.le_of_ble_eq_true rfl)⟩ ⟨(Nat.le_of_ble_eq_true rfl), (Nat.le_of_ble_eq_true rfl)⟩ rfl (by decide) (by decide) (by decide) (List.forall_mem_cons.mpr ⟨⟨by decide, 1, by decide, u407⟩, (List.forall_mem_cons.mpr ⟨⟨by decide, 2, by decide, u487⟩, (List.forall_mem_cons.mpr ⟨⟨by decide, 3, by decide, u726⟩, (fun _ h => absurd h List.not_mem_nil)⟩)⟩)⟩) u488 (fun q H locs h1 h2 h5 => ?_)
    refine g_astore (i := 4) (lv' := [(0, va_rf (some a0)), (1, .int x1), (2, .int x2), (3, va_rf (some o))]) hx hb dL_take_25 hl (by decide) (fun v => rfl) (fun ls hl => ?_)
    refine lv_iconst (v := nI (3 + 1)) hx hb dL_take_27 (by decide) ?_
    exact l_endX hF hsz rfl hO hT0 h1 h2 h5 dL_take_28 (Nat.le_of_ble_eq_true rfl) (Nat.le_of_ble_eq_true rfl)
  · exact absurd hi (by simp)
abbrev rmL_drop : Room := { frames := 6, cells := 0, slots := 0, locals := 138 }
abbrev rmLx_drop : Room := { frames := 9, cells := 1, slots := 6, locals := 158 }
theorem kL_drop : lKc yL_drop cL_drop 6 [(0, 19, 22, 13), (0, 19, 26, 15), (0, 19, 30, 71), (0, 19, 34, 73)] 5 := ⟨u802, u62, by decide +kernel, by decide +kernel, by decide +kernel⟩
set_option maxHeartbeats 4000000 in
set_option maxRecDepth 100000 in
theorem cL_drop_r {l : Launch} {D : va_G} {Y : Nat → ClassId} {S : GS} {hs : Nat} {a0 o : Nat} {x1 : Int32} {x2 : Int32} {x3 : Int32} {r : Int32} {S' : GS} (h : f_X4_drop S a0 x1 x2 x3 = some (.inl (r, S'))) {yl : ClassId} {c0 : Value} (hT : gT S a0 = 5) {v : Int64} (hv : (if r = 0 then (0 : Int64) else 1) = v) : lMet l yL_drop (lWs yL_drop cL_drop 6 [(0, 19, 22, 13), (0, 19, 26, 15), (0, 19, 30, 71), (0, 19, 34, 73)]) rmL_drop [va_rf (some a0), .int x1, .int x2, .int x3, va_rf (some o)] D Y S hs .long yl o c0 0 (.long v) S' hs := by
  refine l_ofW (by decide +kernel) ⟨(Nat.le_of_ble_eq_true rfl), (List.forall_mem_cons.mpr ⟨rf_cat _, (List.forall_mem_cons.mpr ⟨rfl, (List.forall_mem_cons.mpr ⟨rfl, (List.forall_mem_cons.mpr ⟨rfl, (List.forall_mem_cons.mpr ⟨rf_cat _, (fun _ h => absurd h List.not_mem_nil)⟩)⟩)⟩)⟩)⟩)⟩ ?_
  intro p e s m args below meth c ls hsz htab hF hNc hAr hO hT0 hM hl
  have hl : lv_has ls 6 [(0, va_rf (some a0)), (1, .int x1), (2, .int x2), (3, .int x3), (4, va_rf (some o))] := by rw [g_args [va_rf (some a0), .int x1, .int x2, .int x3, va_rf (some o)] 0 (List.forall_mem_cons.mpr ⟨rf_cat _, (List.forall_mem_cons.mpr ⟨rfl, (List.forall_mem_cons.mpr ⟨rfl, (List.forall_mem_cons.mpr ⟨rfl, (List.forall_mem_cons.mpr ⟨rf_cat _, (fun _ h => absurd h List.not_mem_nil)⟩)⟩)⟩)⟩)⟩)] at hl; exact hl
  have hF : gF p s m args meth c RL cL_drop 6 (some .int) D Y (gA S hs) := hF
  have hx := hF.1
  have hb := hF.2.1
  refine g_aload hx hb dL_drop_0 (lv_at hl 4 rfl) ?_
  refine lv_iconst (v := 0) hx hb dL_drop_2 (by decide) ?_
  refine g_aload_n hx hb dL_drop_3 rfl (lv_at hl 0 rfl) ?_
  refine lv_iload_n hx hb dL_drop_4 rfl (lv_at hl 1 rfl) ?_
  refine lv_iload_n hx hb dL_drop_5 rfl (lv_at hl 2 rfl) ?_
  refine lv_iload_n hx hb dL_drop_6 rfl (lv_at hl 3 rfl) ?_
  refine g_callV (As := [.int x1, .int x2, .int x3]) (rest := [.int 0, va_rf (some o)]) hF hM (c_X4_drop h) k_X4_drop u803 u804 u805 rfl rfl hT rfl hl.1 rfl (Nat.le_of_ble_eq_true rfl) dL_drop_7 ⟨(Nat.le_of_ble_eq_true rfl), (Nat.le_of_ble_eq_true rfl)⟩ ⟨(Nat.le_of_ble_eq_true rfl), (Nat.le_of_ble_eq_true rfl)⟩ (fun H locs hM => ?_)
  refine lv_if_eq (tgt := 17) hx hb dL_drop_10 (by decide) (fun c1 => ?_) (fun c1 => ?_)
  · have e := hv.symm.trans (if_pos c1)
    subst e
    refine lv_lconst (v := 0) hx hb dL_drop_17 (by decide) ?_
    refine l_last hF hsz hM hAr hO hT0 dL_drop_18 (fun H locs h1 h2 h3 h4 h5 => ?_)
    refine lv_goto (tgt := 38) hx hb dL_drop_19 (by decide) ?_
    refine lv_iconst (v := 0) hx hb dL_drop_38 (by decide) ?_
    exact l_end hF rfl h1 h2 h3 h4 h5 dL_drop_39 (Nat.le_of_ble_eq_true rfl) (Nat.le_of_ble_eq_true rfl)
  · have e := hv.symm.trans (if_neg c1)
    subst e
    refine lv_lconst (v := 1) hx hb dL_drop_13 (by decide) ?_
    refine lv_goto (tgt := 18) hx hb dL_drop_14 (by decide) ?_
    refine l_last hF hsz hM hAr hO hT0 dL_drop_18 (fun H locs h1 h2 h3 h4 h5 => ?_)
    refine lv_goto (tgt := 38) hx hb dL_drop_19 (by decide) ?_
    refine lv_iconst (v := 0) hx hb dL_drop_38 (by decide) ?_
    exact l_end hF rfl h1 h2 h3 h4 h5 dL_drop_39 (Nat.le_of_ble_eq_true rfl) (Nat.le_of_ble_eq_true rfl)
set_option maxHeartbeats 4000000 in
set_option maxRecDepth 100000 in
theorem cL_drop_x {l : Launch} {D : va_G} {Y : Nat → ClassId} {S : GS} {hs : Nat} {a0 o : Nat} {x1 : Int32} {x2 : Int32} {x3 : Int32} {x : Nat} (hfl : l.stackTraces = false) (h : f_X4_drop S a0 x1 x2 x3 = some (.inr x)) {i : Nat} {yl : ClassId} {c0 : Value} (hT : gT S a0 = 5) (hi : ([1, 2, 3, 5] : List Nat)[i]? = some x) : lMet l yL_drop (lWs yL_drop cL_drop 6 [(0, 19, 22, 13), (0, 19, 26, 15), (0, 19, 30, 71), (0, 19, 34, 73)]) rmLx_drop [va_rf (some a0), .int x1, .int x2, .int x3, va_rf (some o)] D Y S hs .long yl o c0 (nI (i + 1)) c0 S hs := by
  refine l_ofW (by decide +kernel) ⟨(Nat.le_of_ble_eq_true rfl), (List.forall_mem_cons.mpr ⟨rf_cat _, (List.forall_mem_cons.mpr ⟨rfl, (List.forall_mem_cons.mpr ⟨rfl, (List.forall_mem_cons.mpr ⟨rfl, (List.forall_mem_cons.mpr ⟨rf_cat _, (fun _ h => absurd h List.not_mem_nil)⟩)⟩)⟩)⟩)⟩)⟩ ?_
  intro p e s m args below meth c ls hsz htab hF hNc hAr hO hT0 hM hl
  have hl : lv_has ls 6 [(0, va_rf (some a0)), (1, .int x1), (2, .int x2), (3, .int x3), (4, va_rf (some o))] := by rw [g_args [va_rf (some a0), .int x1, .int x2, .int x3, va_rf (some o)] 0 (List.forall_mem_cons.mpr ⟨rf_cat _, (List.forall_mem_cons.mpr ⟨rfl, (List.forall_mem_cons.mpr ⟨rfl, (List.forall_mem_cons.mpr ⟨rfl, (List.forall_mem_cons.mpr ⟨rf_cat _, (fun _ h => absurd h List.not_mem_nil)⟩)⟩)⟩)⟩)⟩)] at hl; exact hl
  have hF : gF p s m args meth c RL cL_drop 6 (some .int) D Y (gA S hs) := hF
  have hx := hF.1
  have hb := hF.2.1
  rcases i with _ | _ | _ | _ | i
  · have hx9 := Option.some.inj hi
    subst hx9
    refine g_aload hx hb dL_drop_0 (lv_at hl 4 rfl) ?_
    refine lv_iconst (v := 0) hx hb dL_drop_2 (by decide) ?_
    refine g_aload_n hx hb dL_drop_3 rfl (lv_at hl 0 rfl) ?_
    refine lv_iload_n hx hb dL_drop_4 rfl (lv_at hl 1 rfl) ?_
    refine lv_iload_n hx hb dL_drop_5 rfl (lv_at hl 2 rfl) ?_
    refine lv_iload_n hx hb dL_drop_6 rfl (lv_at hl 3 rfl) ?_
    refine l_callX (pre := []) (x0 := ⟨0, 19, 22, 13⟩) (suf := [⟨0, 19, 26, 15⟩, ⟨0, 19, 30, 71⟩, ⟨0, 19, 34, 73⟩]) (As := [.int x1, .int x2, .int x3]) (rest := [.int 0, va_rf (some o)]) hF hNc hM htab (cx_X4_drop hfl h) k_X4_drop u803 u804 u805 rfl rfl hT rfl hl.1 rfl (Nat.le_of_ble_eq_true rfl) dL_drop_7 ⟨(Nat.le_of_ble_eq_true rfl), (Nat.le_of_ble_eq_true rfl)⟩ ⟨(Nat.le_of_ble_eq_true rfl), (Nat.le_of_ble_eq_true rfl)⟩ rfl (by decide) (by decide) (by decide) (fun _ h => absurd h List.not_mem_nil) u407 (fun q H locs h1 h2 h5 => ?_)
    refine g_astore (i := 5) (lv' := [(0, va_rf (some a0)), (1, .int x1), (2, .int x2), (3, .int x3), (4, va_rf (some o))]) hx hb dL_drop_22 hl (by decide) (fun v => rfl) (fun ls hl => ?_)
    refine lv_iconst (v := nI (0 + 1)) hx hb dL_drop_24 (by decide) ?_
    exact l_endX hF hsz rfl hO hT0 h1 h2 h5 dL_drop_25 (Nat.le_of_ble_eq_true rfl) (Nat.le_of_ble_eq_true rfl)
  · have hx9 := Option.some.inj hi
    subst hx9
    refine g_aload hx hb dL_drop_0 (lv_at hl 4 rfl) ?_
    refine lv_iconst (v := 0) hx hb dL_drop_2 (by decide) ?_
    refine g_aload_n hx hb dL_drop_3 rfl (lv_at hl 0 rfl) ?_
    refine lv_iload_n hx hb dL_drop_4 rfl (lv_at hl 1 rfl) ?_
    refine lv_iload_n hx hb dL_drop_5 rfl (lv_at hl 2 rfl) ?_
    refine lv_iload_n hx hb dL_drop_6 rfl (lv_at hl 3 rfl) ?_
    refine l_callX (pre := [⟨0, 19, 22, 13⟩]) (x0 := ⟨0, 19, 26, 15⟩) (suf := [⟨0, 19, 30, 71⟩, ⟨0, 19, 34, 73⟩]) (As := [.int x1, .int x2, .int x3]) (rest := [.int 0, va_rf (some o)]) hF hNc hM htab (cx_X4_drop hfl h) k_X4_drop u803 u804 u805 rfl rfl hT rfl hl.1 rfl (Nat.le_of_ble_eq_true rfl) dL_drop_7 ⟨(Nat.le_of_ble_eq_true rfl), (Nat.le_of_ble_eq_true rfl)⟩ ⟨(Nat.le_of_ble_eq_true rfl), (Nat.le_of_ble_eq_true rfl)⟩ rfl (by decide) (by decide) (by decide) (List.forall_mem_cons.mpr ⟨⟨by decide, 1, by decide, u407⟩, (fun _ h => absurd h List.not_mem_nil)⟩) u487 (fun q H locs h1 h2 h5 => ?_)
    refine g_astore (i := 5) (lv' := [(0, va_rf (some a0)), (1, .int x1), (2, .int x2), (3, .int x3), (4, va_rf (some o))]) hx hb dL_drop_26 hl (by decide) (fun v => rfl) (fun ls hl => ?_)
    refine lv_iconst (v := nI (1 + 1)) hx hb dL_drop_28 (by decide) ?_
    exact l_endX hF hsz rfl hO hT0 h1 h2 h5 dL_drop_29 (Nat.le_of_ble_eq_true rfl) (Nat.le_of_ble_eq_true rfl)
  · have hx9 := Option.some.inj hi
    subst hx9
    refine g_aload hx hb dL_drop_0 (lv_at hl 4 rfl) ?_
    refine lv_iconst (v := 0) hx hb dL_drop_2 (by decide) ?_
    refine g_aload_n hx hb dL_drop_3 rfl (lv_at hl 0 rfl) ?_
    refine lv_iload_n hx hb dL_drop_4 rfl (lv_at hl 1 rfl) ?_
    refine lv_iload_n hx hb dL_drop_5 rfl (lv_at hl 2 rfl) ?_
    refine lv_iload_n hx hb dL_drop_6 rfl (lv_at hl 3 rfl) ?_
    refine l_callX (pre := [⟨0, 19, 22, 13⟩, ⟨0, 19, 26, 15⟩]) (x0 := ⟨0, 19, 30, 71⟩) (suf := [⟨0, 19, 34, 73⟩]) (As := [.int x1, .int x2, .int x3]) (rest := [.int 0, va_rf (some o)]) hF hNc hM htab (cx_X4_drop hfl h) k_X4_drop u803 u804 u805 rfl rfl hT rfl hl.1 rfl (Nat.le_of_ble_eq_true rfl) dL_drop_7 ⟨(Nat.le_of_ble_eq_true rfl), (Nat.le_of_ble_eq_true rfl)⟩ ⟨(Nat.le_of_ble_eq_true rfl), (Nat.le_of_ble_eq_true rfl)⟩ rfl (by decide) (by decide) (by decide) (List.forall_mem_cons.mpr ⟨⟨by decide, 1, by decide, u407⟩, (List.forall_mem_cons.mpr ⟨⟨by decide, 2, by decide, u487⟩, (fun _ h => absurd h List.not_mem_nil)⟩)⟩) u726 (fun q H locs h1 h2 h5 => ?_)
    refine g_astore (i := 5) (lv' := [(0, va_rf (some a0)), (1, .int x1), (2, .int x2), (3, .int x3), (4, va_rf (some o))]) hx hb dL_drop_30 hl (by decide) (fun v => rfl) (fun ls hl => ?_)
    refine lv_iconst (v := nI (2 + 1)) hx hb dL_drop_32 (by decide) ?_
    exact l_endX hF hsz rfl hO hT0 h1 h2 h5 dL_drop_33 (Nat.le_of_ble_eq_true rfl) (Nat.le_of_ble_eq_true rfl)
  · have hx9 := Option.some.inj hi
    subst hx9
    refine g_aload hx hb dL_drop_0 (lv_at hl 4 rfl) ?_
    refine lv_iconst (v := 0) hx hb dL_drop_2 (by decide) ?_
    refine g_aload_n hx hb dL_drop_3 rfl (lv_at hl 0 rfl) ?_
    refine lv_iload_n hx hb dL_drop_4 rfl (lv_at hl 1 rfl) ?_
    refine lv_iload_n hx hb dL_drop_5 rfl (lv_at hl 2 rfl) ?_
    refine lv_iload_n hx hb dL_drop_6 rfl (lv_at hl 3 rfl) ?_
    refine l_callX (pre := [⟨0, 19, 22, 13⟩, ⟨0, 19, 26, 15⟩, ⟨0, 19, 30, 71⟩]) (x0 := ⟨0, 19, 34, 73⟩) (suf := []) (As := [.int x1, .int x2, .int x3]) (rest := [.int 0, va_rf (some o)]) hF hNc hM htab (cx_X4_drop hfl h) k_X4_drop u803 u804 u805 rfl rfl hT rfl hl.1 rfl (Nat.le_of_ble_eq_true rfl) dL_drop_7 ⟨(Nat.le_of_ble_eq_true rfl), (Nat.le_of_ble_eq_true rfl)⟩ ⟨(Nat.le_of_ble_eq_true rfl), (Nat.le_of_ble_eq_true rfl)⟩ rfl (by decide) (by decide) (by decide) (List.forall_mem_cons.mpr ⟨⟨by decide, 1, by decide, u407⟩, (List.forall_mem_cons.mpr ⟨⟨by decide, 2, by decide, u487⟩, (List.forall_mem_cons.mpr ⟨⟨by decide, 3, by decide, u726⟩, (fun _ h => absurd h List.not_mem_nil)⟩)⟩)⟩) u727 (fun q H locs h1 h2 h5 => ?_)
    refine g_astore (i := 5) (lv' := [(0, va_rf (some a0)), (1, .int x1), (2, .int x2), (3, .int x3), (4, va_rf (some o))]) hx hb dL_drop_34 hl (by decide) (fun v => rfl) (fun ls hl => ?_)
    refine lv_iconst (v := nI (3 + 1)) hx hb dL_drop_36 (by decide) ?_
    exact l_endX hF hsz rfl hO hT0 h1 h2 h5 dL_drop_37 (Nat.le_of_ble_eq_true rfl) (Nat.le_of_ble_eq_true rfl)
  · exact absurd hi (by simp)
abbrev rmL_wipe : Room := { frames := 5, cells := 0, slots := 0, locals := 113 }
abbrev rmLx_wipe : Room := { frames := 9, cells := 1, slots := 6, locals := 156 }
theorem kL_wipe : lKc yL_wipe cL_wipe 4 [(0, 9, 12, 13), (0, 9, 15, 15), (0, 9, 18, 71)] 3 := ⟨u823, u62, by decide +kernel, by decide +kernel, by decide +kernel⟩
set_option maxHeartbeats 4000000 in
set_option maxRecDepth 100000 in
theorem cL_wipe_r {l : Launch} {D : va_G} {Y : Nat → ClassId} {S : GS} {hs : Nat} {a0 o : Nat} {x1 : Int32} {r : Int32} {S' : GS} (h : f_X4_wipe S a0 x1 = some (.inl (r, S'))) {yl : ClassId} {c0 : Value} (hT : gT S a0 = 5) : lMet l yL_wipe (lWs yL_wipe cL_wipe 4 [(0, 9, 12, 13), (0, 9, 15, 15), (0, 9, 18, 71)]) rmL_wipe [va_rf (some a0), .int x1, va_rf (some o)] D Y S hs .long yl o c0 0 (.long r.toInt64) S' hs := by
  refine l_ofW (by decide +kernel) ⟨(Nat.le_of_ble_eq_true rfl), (List.forall_mem_cons.mpr ⟨rf_cat _, (List.forall_mem_cons.mpr ⟨rfl, (List.forall_mem_cons.mpr ⟨rf_cat _, (fun _ h => absurd h List.not_mem_nil)⟩)⟩)⟩)⟩ ?_
  intro p e s m args below meth c ls hsz htab hF hNc hAr hO hT0 hM hl
  have hl : lv_has ls 4 [(0, va_rf (some a0)), (1, .int x1), (2, va_rf (some o))] := by rw [g_args [va_rf (some a0), .int x1, va_rf (some o)] 0 (List.forall_mem_cons.mpr ⟨rf_cat _, (List.forall_mem_cons.mpr ⟨rfl, (List.forall_mem_cons.mpr ⟨rf_cat _, (fun _ h => absurd h List.not_mem_nil)⟩)⟩)⟩)] at hl; exact hl
  have hF : gF p s m args meth c RL cL_wipe 4 (some .int) D Y (gA S hs) := hF
  have hx := hF.1
  have hb := hF.2.1
  refine g_aload_n hx hb dL_wipe_0 rfl (lv_at hl 2 rfl) ?_
  refine lv_iconst (v := 0) hx hb dL_wipe_1 (by decide) ?_
  refine g_aload_n hx hb dL_wipe_2 rfl (lv_at hl 0 rfl) ?_
  refine lv_iload_n hx hb dL_wipe_3 rfl (lv_at hl 1 rfl) ?_
  refine g_callV (As := [.int x1]) (rest := [.int 0, va_rf (some o)]) hF hM (c_X4_wipe h) k_X4_wipe u824 u825 u826 rfl rfl hT rfl hl.1 rfl (Nat.le_of_ble_eq_true rfl) dL_wipe_4 ⟨(Nat.le_of_ble_eq_true rfl), (Nat.le_of_ble_eq_true rfl)⟩ ⟨(Nat.le_of_ble_eq_true rfl), (Nat.le_of_ble_eq_true rfl)⟩ (fun H locs hM => ?_)
  refine lv_i2l hx hb dL_wipe_7 rfl ?_
  refine l_last hF hsz hM hAr hO hT0 dL_wipe_8 (fun H locs h1 h2 h3 h4 h5 => ?_)
  refine lv_goto (tgt := 21) hx hb dL_wipe_9 (by decide) ?_
  refine lv_iconst (v := 0) hx hb dL_wipe_21 (by decide) ?_
  exact l_end hF rfl h1 h2 h3 h4 h5 dL_wipe_22 (Nat.le_of_ble_eq_true rfl) (Nat.le_of_ble_eq_true rfl)
set_option maxHeartbeats 4000000 in
set_option maxRecDepth 100000 in
theorem cL_wipe_x {l : Launch} {D : va_G} {Y : Nat → ClassId} {S : GS} {hs : Nat} {a0 o : Nat} {x1 : Int32} {x : Nat} (hfl : l.stackTraces = false) (h : f_X4_wipe S a0 x1 = some (.inr x)) {i : Nat} {yl : ClassId} {c0 : Value} (hT : gT S a0 = 5) (hi : ([1, 2, 3] : List Nat)[i]? = some x) : lMet l yL_wipe (lWs yL_wipe cL_wipe 4 [(0, 9, 12, 13), (0, 9, 15, 15), (0, 9, 18, 71)]) rmLx_wipe [va_rf (some a0), .int x1, va_rf (some o)] D Y S hs .long yl o c0 (nI (i + 1)) c0 S hs := by
  refine l_ofW (by decide +kernel) ⟨(Nat.le_of_ble_eq_true rfl), (List.forall_mem_cons.mpr ⟨rf_cat _, (List.forall_mem_cons.mpr ⟨rfl, (List.forall_mem_cons.mpr ⟨rf_cat _, (fun _ h => absurd h List.not_mem_nil)⟩)⟩)⟩)⟩ ?_
  intro p e s m args below meth c ls hsz htab hF hNc hAr hO hT0 hM hl
  have hl : lv_has ls 4 [(0, va_rf (some a0)), (1, .int x1), (2, va_rf (some o))] := by rw [g_args [va_rf (some a0), .int x1, va_rf (some o)] 0 (List.forall_mem_cons.mpr ⟨rf_cat _, (List.forall_mem_cons.mpr ⟨rfl, (List.forall_mem_cons.mpr ⟨rf_cat _, (fun _ h => absurd h List.not_mem_nil)⟩)⟩)⟩)] at hl; exact hl
  have hF : gF p s m args meth c RL cL_wipe 4 (some .int) D Y (gA S hs) := hF
  have hx := hF.1
  have hb := hF.2.1
  rcases i with _ | _ | _ | i
  · have hx9 := Option.some.inj hi
    subst hx9
    refine g_aload_n hx hb dL_wipe_0 rfl (lv_at hl 2 rfl) ?_
    refine lv_iconst (v := 0) hx hb dL_wipe_1 (by decide) ?_
    refine g_aload_n hx hb dL_wipe_2 rfl (lv_at hl 0 rfl) ?_
    refine lv_iload_n hx hb dL_wipe_3 rfl (lv_at hl 1 rfl) ?_
    refine l_callX (pre := []) (x0 := ⟨0, 9, 12, 13⟩) (suf := [⟨0, 9, 15, 15⟩, ⟨0, 9, 18, 71⟩]) (As := [.int x1]) (rest := [.int 0, va_rf (some o)]) hF hNc hM htab (cx_X4_wipe hfl h) k_X4_wipe u824 u825 u826 rfl rfl hT rfl hl.1 rfl (Nat.le_of_ble_eq_true rfl) dL_wipe_4 ⟨(Nat.le_of_ble_eq_true rfl), (Nat.le_of_ble_eq_true rfl)⟩ ⟨(Nat.le_of_ble_eq_true rfl), (Nat.le_of_ble_eq_true rfl)⟩ rfl (by decide) (by decide) (by decide) (fun _ h => absurd h List.not_mem_nil) u407 (fun q H locs h1 h2 h5 => ?_)
    refine g_astore_n (i := 3) (lv' := [(0, va_rf (some a0)), (1, .int x1), (2, va_rf (some o))]) hx hb dL_wipe_12 rfl hl (by decide) (fun v => rfl) (fun ls hl => ?_)
    refine lv_iconst (v := nI (0 + 1)) hx hb dL_wipe_13 (by decide) ?_
    exact l_endX hF hsz rfl hO hT0 h1 h2 h5 dL_wipe_14 (Nat.le_of_ble_eq_true rfl) (Nat.le_of_ble_eq_true rfl)
  · have hx9 := Option.some.inj hi
    subst hx9
    refine g_aload_n hx hb dL_wipe_0 rfl (lv_at hl 2 rfl) ?_
    refine lv_iconst (v := 0) hx hb dL_wipe_1 (by decide) ?_
    refine g_aload_n hx hb dL_wipe_2 rfl (lv_at hl 0 rfl) ?_
    refine lv_iload_n hx hb dL_wipe_3 rfl (lv_at hl 1 rfl) ?_
    refine l_callX (pre := [⟨0, 9, 12, 13⟩]) (x0 := ⟨0, 9, 15, 15⟩) (suf := [⟨0, 9, 18, 71⟩]) (As := [.int x1]) (rest := [.int 0, va_rf (some o)]) hF hNc hM htab (cx_X4_wipe hfl h) k_X4_wipe u824 u825 u826 rfl rfl hT rfl hl.1 rfl (Nat.le_of_ble_eq_true rfl) dL_wipe_4 ⟨(Nat.le_of_ble_eq_true rfl), (Nat.le_of_ble_eq_true rfl)⟩ ⟨(Nat.le_of_ble_eq_true rfl), (Nat.le_of_ble_eq_true rfl)⟩ rfl (by decide) (by decide) (by decide) (List.forall_mem_cons.mpr ⟨⟨by decide, 1, by decide, u407⟩, (fun _ h => absurd h List.not_mem_nil)⟩) u487 (fun q H locs h1 h2 h5 => ?_)
    refine g_astore_n (i := 3) (lv' := [(0, va_rf (some a0)), (1, .int x1), (2, va_rf (some o))]) hx hb dL_wipe_15 rfl hl (by decide) (fun v => rfl) (fun ls hl => ?_)
    refine lv_iconst (v := nI (1 + 1)) hx hb dL_wipe_16 (by decide) ?_
    exact l_endX hF hsz rfl hO hT0 h1 h2 h5 dL_wipe_17 (Nat.le_of_ble_eq_true rfl) (Nat.le_of_ble_eq_true rfl)
  · have hx9 := Option.some.inj hi
    subst hx9
    refine g_aload_n hx hb dL_wipe_0 rfl (lv_at hl 2 rfl) ?_
    refine lv_iconst (v := 0) hx hb dL_wipe_1 (by decide) ?_
    refine g_aload_n hx hb dL_wipe_2 rfl (lv_at hl 0 rfl) ?_
    refine lv_iload_n hx hb dL_wipe_3 rfl (lv_at hl 1 rfl) ?_
    refine l_callX (pre := [⟨0, 9, 12, 13⟩, ⟨0, 9, 15, 15⟩]) (x0 := ⟨0, 9, 18, 71⟩) (suf := []) (As := [.int x1]) (rest := [.int 0, va_rf (some o)]) hF hNc hM htab (cx_X4_wipe hfl h) k_X4_wipe u824 u825 u826 rfl rfl hT rfl hl.1 rfl (Nat.le_of_ble_eq_true rfl) dL_wipe_4 ⟨(Nat.le_of_ble_eq_true rfl), (Nat.le_of_ble_eq_true rfl)⟩ ⟨(Nat.le_of_ble_eq_true rfl), (Nat.le_of_ble_eq_true rfl)⟩ rfl (by decide) (by decide) (by decide) (List.forall_mem_cons.mpr ⟨⟨by decide, 1, by decide, u407⟩, (List.forall_mem_cons.mpr ⟨⟨by decide, 2, by decide, u487⟩, (fun _ h => absurd h List.not_mem_nil)⟩)⟩) u726 (fun q H locs h1 h2 h5 => ?_)
    refine g_astore_n (i := 3) (lv' := [(0, va_rf (some a0)), (1, .int x1), (2, va_rf (some o))]) hx hb dL_wipe_18 rfl hl (by decide) (fun v => rfl) (fun ls hl => ?_)
    refine lv_iconst (v := nI (2 + 1)) hx hb dL_wipe_19 (by decide) ?_
    exact l_endX hF hsz rfl hO hT0 h1 h2 h5 dL_wipe_20 (Nat.le_of_ble_eq_true rfl) (Nat.le_of_ble_eq_true rfl)
  · exact absurd hi (by simp)
abbrev rmL_putAll : Room := { frames := 5, cells := 0, slots := 0, locals := 118 }
abbrev rmLx_putAll : Room := { frames := 9, cells := 1, slots := 6, locals := 159 }
theorem kL_putAll : lKc yL_putAll cL_putAll 6 [(0, 12, 15, 13), (0, 12, 19, 15), (0, 12, 23, 71), (0, 12, 27, 17), (0, 12, 31, 73)] 5 := ⟨u839, u62, by decide +kernel, by decide +kernel, by decide +kernel⟩
set_option maxHeartbeats 4000000 in
set_option maxRecDepth 100000 in
theorem cL_putAll_r {l : Launch} {D : va_G} {Y : Nat → ClassId} {S : GS} {hs : Nat} {a0 o : Nat} {x1 : Int32} {x2 : Int32} {x3 : Int32} {r : Int32} {S' : GS} (h : f_X4_putAll S a0 x1 x2 x3 = some (.inl (r, S'))) {yl : ClassId} {c0 : Value} (hT : gT S a0 = 5) : lMet l yL_putAll (lWs yL_putAll cL_putAll 6 [(0, 12, 15, 13), (0, 12, 19, 15), (0, 12, 23, 71), (0, 12, 27, 17), (0, 12, 31, 73)]) rmL_putAll [va_rf (some a0), .int x1, .int x2, .int x3, va_rf (some o)] D Y S hs .long yl o c0 0 (.long r.toInt64) S' hs := by
  refine l_ofW (by decide +kernel) ⟨(Nat.le_of_ble_eq_true rfl), (List.forall_mem_cons.mpr ⟨rf_cat _, (List.forall_mem_cons.mpr ⟨rfl, (List.forall_mem_cons.mpr ⟨rfl, (List.forall_mem_cons.mpr ⟨rfl, (List.forall_mem_cons.mpr ⟨rf_cat _, (fun _ h => absurd h List.not_mem_nil)⟩)⟩)⟩)⟩)⟩)⟩ ?_
  intro p e s m args below meth c ls hsz htab hF hNc hAr hO hT0 hM hl
  have hl : lv_has ls 6 [(0, va_rf (some a0)), (1, .int x1), (2, .int x2), (3, .int x3), (4, va_rf (some o))] := by rw [g_args [va_rf (some a0), .int x1, .int x2, .int x3, va_rf (some o)] 0 (List.forall_mem_cons.mpr ⟨rf_cat _, (List.forall_mem_cons.mpr ⟨rfl, (List.forall_mem_cons.mpr ⟨rfl, (List.forall_mem_cons.mpr ⟨rfl, (List.forall_mem_cons.mpr ⟨rf_cat _, (fun _ h => absurd h List.not_mem_nil)⟩)⟩)⟩)⟩)⟩)] at hl; exact hl
  have hF : gF p s m args meth c RL cL_putAll 6 (some .int) D Y (gA S hs) := hF
  have hx := hF.1
  have hb := hF.2.1
  refine g_aload hx hb dL_putAll_0 (lv_at hl 4 rfl) ?_
  refine lv_iconst (v := 0) hx hb dL_putAll_2 (by decide) ?_
  refine g_aload_n hx hb dL_putAll_3 rfl (lv_at hl 0 rfl) ?_
  refine lv_iload_n hx hb dL_putAll_4 rfl (lv_at hl 1 rfl) ?_
  refine lv_iload_n hx hb dL_putAll_5 rfl (lv_at hl 2 rfl) ?_
  refine lv_iload_n hx hb dL_putAll_6 rfl (lv_at hl 3 rfl) ?_
  refine g_callV (As := [.int x1, .int x2, .int x3]) (rest := [.int 0, va_rf (some o)]) hF hM (c_X4_putAll h) k_X4_putAll u840 u841 u842 rfl rfl hT rfl hl.1 rfl (Nat.le_of_ble_eq_true rfl) dL_putAll_7 ⟨(Nat.le_of_ble_eq_true rfl), (Nat.le_of_ble_eq_true rfl)⟩ ⟨(Nat.le_of_ble_eq_true rfl), (Nat.le_of_ble_eq_true rfl)⟩ (fun H locs hM => ?_)
  refine lv_i2l hx hb dL_putAll_10 rfl ?_
  refine l_last hF hsz hM hAr hO hT0 dL_putAll_11 (fun H locs h1 h2 h3 h4 h5 => ?_)
  refine lv_goto (tgt := 35) hx hb dL_putAll_12 (by decide) ?_
  refine lv_iconst (v := 0) hx hb dL_putAll_35 (by decide) ?_
  exact l_end hF rfl h1 h2 h3 h4 h5 dL_putAll_36 (Nat.le_of_ble_eq_true rfl) (Nat.le_of_ble_eq_true rfl)
set_option maxHeartbeats 4000000 in
set_option maxRecDepth 100000 in
theorem cL_putAll_x {l : Launch} {D : va_G} {Y : Nat → ClassId} {S : GS} {hs : Nat} {a0 o : Nat} {x1 : Int32} {x2 : Int32} {x3 : Int32} {x : Nat} (hfl : l.stackTraces = false) (h : f_X4_putAll S a0 x1 x2 x3 = some (.inr x)) {i : Nat} {yl : ClassId} {c0 : Value} (hT : gT S a0 = 5) (hi : ([1, 2, 3, 4, 5] : List Nat)[i]? = some x) : lMet l yL_putAll (lWs yL_putAll cL_putAll 6 [(0, 12, 15, 13), (0, 12, 19, 15), (0, 12, 23, 71), (0, 12, 27, 17), (0, 12, 31, 73)]) rmLx_putAll [va_rf (some a0), .int x1, .int x2, .int x3, va_rf (some o)] D Y S hs .long yl o c0 (nI (i + 1)) c0 S hs := by
  refine l_ofW (by decide +kernel) ⟨(Nat.le_of_ble_eq_true rfl), (List.forall_mem_cons.mpr ⟨rf_cat _, (List.forall_mem_cons.mpr ⟨rfl, (List.forall_mem_cons.mpr ⟨rfl, (List.forall_mem_cons.mpr ⟨rfl, (List.forall_mem_cons.mpr ⟨rf_cat _, (fun _ h => absurd h List.not_mem_nil)⟩)⟩)⟩)⟩)⟩)⟩ ?_
  intro p e s m args below meth c ls hsz htab hF hNc hAr hO hT0 hM hl
  have hl : lv_has ls 6 [(0, va_rf (some a0)), (1, .int x1), (2, .int x2), (3, .int x3), (4, va_rf (some o))] := by rw [g_args [va_rf (some a0), .int x1, .int x2, .int x3, va_rf (some o)] 0 (List.forall_mem_cons.mpr ⟨rf_cat _, (List.forall_mem_cons.mpr ⟨rfl, (List.forall_mem_cons.mpr ⟨rfl, (List.forall_mem_cons.mpr ⟨rfl, (List.forall_mem_cons.mpr ⟨rf_cat _, (fun _ h => absurd h List.not_mem_nil)⟩)⟩)⟩)⟩)⟩)] at hl; exact hl
  have hF : gF p s m args meth c RL cL_putAll 6 (some .int) D Y (gA S hs) := hF
  have hx := hF.1
  have hb := hF.2.1
  rcases i with _ | _ | _ | _ | _ | i
  · have hx9 := Option.some.inj hi
    subst hx9
    refine g_aload hx hb dL_putAll_0 (lv_at hl 4 rfl) ?_
    refine lv_iconst (v := 0) hx hb dL_putAll_2 (by decide) ?_
    refine g_aload_n hx hb dL_putAll_3 rfl (lv_at hl 0 rfl) ?_
    refine lv_iload_n hx hb dL_putAll_4 rfl (lv_at hl 1 rfl) ?_
    refine lv_iload_n hx hb dL_putAll_5 rfl (lv_at hl 2 rfl) ?_
    refine lv_iload_n hx hb dL_putAll_6 rfl (lv_at hl 3 rfl) ?_
    refine l_callX (pre := []) (x0 := ⟨0, 12, 15, 13⟩) (suf := [⟨0, 12, 19, 15⟩, ⟨0, 12, 23, 71⟩, ⟨0, 12, 27, 17⟩, ⟨0, 12, 31, 73⟩]) (As := [.int x1, .int x2, .int x3]) (rest := [.int 0, va_rf (some o)]) hF hNc hM htab (cx_X4_putAll hfl h) k_X4_putAll u840 u841 u842 rfl rfl hT rfl hl.1 rfl (Nat.le_of_ble_eq_true rfl) dL_putAll_7 ⟨(Nat.le_of_ble_eq_true rfl), (Nat.le_of_ble_eq_true rfl)⟩ ⟨(Nat.le_of_ble_eq_true rfl), (Nat.le_of_ble_eq_true rfl)⟩ rfl (by decide) (by decide) (by decide) (fun _ h => absurd h List.not_mem_nil) u407 (fun q H locs h1 h2 h5 => ?_)
    refine g_astore (i := 5) (lv' := [(0, va_rf (some a0)), (1, .int x1), (2, .int x2), (3, .int x3), (4, va_rf (some o))]) hx hb dL_putAll_15 hl (by decide) (fun v => rfl) (fun ls hl => ?_)
    refine lv_iconst (v := nI (0 + 1)) hx hb dL_putAll_17 (by decide) ?_
    exact l_endX hF hsz rfl hO hT0 h1 h2 h5 dL_putAll_18 (Nat.le_of_ble_eq_true rfl) (Nat.le_of_ble_eq_true rfl)
  · have hx9 := Option.some.inj hi
    subst hx9
    refine g_aload hx hb dL_putAll_0 (lv_at hl 4 rfl) ?_
    refine lv_iconst (v := 0) hx hb dL_putAll_2 (by decide) ?_
    refine g_aload_n hx hb dL_putAll_3 rfl (lv_at hl 0 rfl) ?_
    refine lv_iload_n hx hb dL_putAll_4 rfl (lv_at hl 1 rfl) ?_
    refine lv_iload_n hx hb dL_putAll_5 rfl (lv_at hl 2 rfl) ?_
    refine lv_iload_n hx hb dL_putAll_6 rfl (lv_at hl 3 rfl) ?_
    refine l_callX (pre := [⟨0, 12, 15, 13⟩]) (x0 := ⟨0, 12, 19, 15⟩) (suf := [⟨0, 12, 23, 71⟩, ⟨0, 12, 27, 17⟩, ⟨0, 12, 31, 73⟩]) (As := [.int x1, .int x2, .int x3]) (rest := [.int 0, va_rf (some o)]) hF hNc hM htab (cx_X4_putAll hfl h) k_X4_putAll u840 u841 u842 rfl rfl hT rfl hl.1 rfl (Nat.le_of_ble_eq_true rfl) dL_putAll_7 ⟨(Nat.le_of_ble_eq_true rfl), (Nat.le_of_ble_eq_true rfl)⟩ ⟨(Nat.le_of_ble_eq_true rfl), (Nat.le_of_ble_eq_true rfl)⟩ rfl (by decide) (by decide) (by decide) (List.forall_mem_cons.mpr ⟨⟨by decide, 1, by decide, u407⟩, (fun _ h => absurd h List.not_mem_nil)⟩) u487 (fun q H locs h1 h2 h5 => ?_)
    refine g_astore (i := 5) (lv' := [(0, va_rf (some a0)), (1, .int x1), (2, .int x2), (3, .int x3), (4, va_rf (some o))]) hx hb dL_putAll_19 hl (by decide) (fun v => rfl) (fun ls hl => ?_)
    refine lv_iconst (v := nI (1 + 1)) hx hb dL_putAll_21 (by decide) ?_
    exact l_endX hF hsz rfl hO hT0 h1 h2 h5 dL_putAll_22 (Nat.le_of_ble_eq_true rfl) (Nat.le_of_ble_eq_true rfl)
  · have hx9 := Option.some.inj hi
    subst hx9
    refine g_aload hx hb dL_putAll_0 (lv_at hl 4 rfl) ?_
    refine lv_iconst (v := 0) hx hb dL_putAll_2 (by decide) ?_
    refine g_aload_n hx hb dL_putAll_3 rfl (lv_at hl 0 rfl) ?_
    refine lv_iload_n hx hb dL_putAll_4 rfl (lv_at hl 1 rfl) ?_
    refine lv_iload_n hx hb dL_putAll_5 rfl (lv_at hl 2 rfl) ?_
    refine lv_iload_n hx hb dL_putAll_6 rfl (lv_at hl 3 rfl) ?_
    refine l_callX (pre := [⟨0, 12, 15, 13⟩, ⟨0, 12, 19, 15⟩]) (x0 := ⟨0, 12, 23, 71⟩) (suf := [⟨0, 12, 27, 17⟩, ⟨0, 12, 31, 73⟩]) (As := [.int x1, .int x2, .int x3]) (rest := [.int 0, va_rf (some o)]) hF hNc hM htab (cx_X4_putAll hfl h) k_X4_putAll u840 u841 u842 rfl rfl hT rfl hl.1 rfl (Nat.le_of_ble_eq_true rfl) dL_putAll_7 ⟨(Nat.le_of_ble_eq_true rfl), (Nat.le_of_ble_eq_true rfl)⟩ ⟨(Nat.le_of_ble_eq_true rfl), (Nat.le_of_ble_eq_true rfl)⟩ rfl (by decide) (by decide) (by decide) (List.forall_mem_cons.mpr ⟨⟨by decide, 1, by decide, u407⟩, (List.forall_mem_cons.mpr ⟨⟨by decide, 2, by decide, u487⟩, (fun _ h => absurd h List.not_mem_nil)⟩)⟩) u726 (fun q H locs h1 h2 h5 => ?_)
    refine g_astore (i := 5) (lv' := [(0, va_rf (some a0)), (1, .int x1), (2, .int x2), (3, .int x3), (4, va_rf (some o))]) hx hb dL_putAll_23 hl (by decide) (fun v => rfl) (fun ls hl => ?_)
    refine lv_iconst (v := nI (2 + 1)) hx hb dL_putAll_25 (by decide) ?_
    exact l_endX hF hsz rfl hO hT0 h1 h2 h5 dL_putAll_26 (Nat.le_of_ble_eq_true rfl) (Nat.le_of_ble_eq_true rfl)
  · have hx9 := Option.some.inj hi
    subst hx9
    refine g_aload hx hb dL_putAll_0 (lv_at hl 4 rfl) ?_
    refine lv_iconst (v := 0) hx hb dL_putAll_2 (by decide) ?_
    refine g_aload_n hx hb dL_putAll_3 rfl (lv_at hl 0 rfl) ?_
    refine lv_iload_n hx hb dL_putAll_4 rfl (lv_at hl 1 rfl) ?_
    refine lv_iload_n hx hb dL_putAll_5 rfl (lv_at hl 2 rfl) ?_
    refine lv_iload_n hx hb dL_putAll_6 rfl (lv_at hl 3 rfl) ?_
    refine l_callX (pre := [⟨0, 12, 15, 13⟩, ⟨0, 12, 19, 15⟩, ⟨0, 12, 23, 71⟩]) (x0 := ⟨0, 12, 27, 17⟩) (suf := [⟨0, 12, 31, 73⟩]) (As := [.int x1, .int x2, .int x3]) (rest := [.int 0, va_rf (some o)]) hF hNc hM htab (cx_X4_putAll hfl h) k_X4_putAll u840 u841 u842 rfl rfl hT rfl hl.1 rfl (Nat.le_of_ble_eq_true rfl) dL_putAll_7 ⟨(Nat.le_of_ble_eq_true rfl), (Nat.le_of_ble_eq_true rfl)⟩ ⟨(Nat.le_of_ble_eq_true rfl), (Nat.le_of_ble_eq_true rfl)⟩ rfl (by decide) (by decide) (by decide) (List.forall_mem_cons.mpr ⟨⟨by decide, 1, by decide, u407⟩, (List.forall_mem_cons.mpr ⟨⟨by decide, 2, by decide, u487⟩, (List.forall_mem_cons.mpr ⟨⟨by decide, 3, by decide, u726⟩, (fun _ h => absurd h List.not_mem_nil)⟩)⟩)⟩) u488 (fun q H locs h1 h2 h5 => ?_)
    refine g_astore (i := 5) (lv' := [(0, va_rf (some a0)), (1, .int x1), (2, .int x2), (3, .int x3), (4, va_rf (some o))]) hx hb dL_putAll_27 hl (by decide) (fun v => rfl) (fun ls hl => ?_)
    refine lv_iconst (v := nI (3 + 1)) hx hb dL_putAll_29 (by decide) ?_
    exact l_endX hF hsz rfl hO hT0 h1 h2 h5 dL_putAll_30 (Nat.le_of_ble_eq_true rfl) (Nat.le_of_ble_eq_true rfl)
  · have hx9 := Option.some.inj hi
    subst hx9
    refine g_aload hx hb dL_putAll_0 (lv_at hl 4 rfl) ?_
    refine lv_iconst (v := 0) hx hb dL_putAll_2 (by decide) ?_
    refine g_aload_n hx hb dL_putAll_3 rfl (lv_at hl 0 rfl) ?_
    refine lv_iload_n hx hb dL_putAll_4 rfl (lv_at hl 1 rfl) ?_
    refine lv_iload_n hx hb dL_putAll_5 rfl (lv_at hl 2 rfl) ?_
    refine lv_iload_n hx hb dL_putAll_6 rfl (lv_at hl 3 rfl) ?_
    refine l_callX (pre := [⟨0, 12, 15, 13⟩, ⟨0, 12, 19, 15⟩, ⟨0, 12, 23, 71⟩, ⟨0, 12, 27, 17⟩]) (x0 := ⟨0, 12, 31, 73⟩) (suf := []) (As := [.int x1, .int x2, .int x3]) (rest := [.int 0, va_rf (some o)]) hF hNc hM htab (cx_X4_putAll hfl h) k_X4_putAll u840 u841 u842 rfl rfl hT rfl hl.1 rfl (Nat.le_of_ble_eq_true rfl) dL_putAll_7 ⟨(Nat.le_of_ble_eq_true rfl), (Nat.le_of_ble_eq_true rfl)⟩ ⟨(Nat.le_of_ble_eq_true rfl), (Nat.le_of_ble_eq_true rfl)⟩ rfl (by decide) (by decide) (by decide) (List.forall_mem_cons.mpr ⟨⟨by decide, 1, by decide, u407⟩, (List.forall_mem_cons.mpr ⟨⟨by decide, 2, by decide, u487⟩, (List.forall_mem_cons.mpr ⟨⟨by decide, 3, by decide, u726⟩, (List.forall_mem_cons.mpr ⟨⟨by decide, 4, by decide, u488⟩, (fun _ h => absurd h List.not_mem_nil)⟩)⟩)⟩)⟩) u727 (fun q H locs h1 h2 h5 => ?_)
    refine g_astore (i := 5) (lv' := [(0, va_rf (some a0)), (1, .int x1), (2, .int x2), (3, .int x3), (4, va_rf (some o))]) hx hb dL_putAll_31 hl (by decide) (fun v => rfl) (fun ls hl => ?_)
    refine lv_iconst (v := nI (4 + 1)) hx hb dL_putAll_33 (by decide) ?_
    exact l_endX hF hsz rfl hO hT0 h1 h2 h5 dL_putAll_34 (Nat.le_of_ble_eq_true rfl) (Nat.le_of_ble_eq_true rfl)
  · exact absurd hi (by simp)
abbrev rmL_keep : Room := { frames := 5, cells := 0, slots := 0, locals := 119 }
abbrev rmLx_keep : Room := { frames := 9, cells := 1, slots := 6, locals := 160 }
theorem kL_keep : lKc yL_keep cL_keep 6 [(0, 12, 15, 13), (0, 12, 19, 15), (0, 12, 23, 71)] 5 := ⟨u852, u62, by decide +kernel, by decide +kernel, by decide +kernel⟩
set_option maxHeartbeats 4000000 in
set_option maxRecDepth 100000 in
theorem cL_keep_r {l : Launch} {D : va_G} {Y : Nat → ClassId} {S : GS} {hs : Nat} {a0 o : Nat} {x1 : Int32} {x2 : Int32} {x3 : Int32} {r : Int32} {S' : GS} (h : f_X4_keep S a0 x1 x2 x3 = some (.inl (r, S'))) {yl : ClassId} {c0 : Value} (hT : gT S a0 = 5) : lMet l yL_keep (lWs yL_keep cL_keep 6 [(0, 12, 15, 13), (0, 12, 19, 15), (0, 12, 23, 71)]) rmL_keep [va_rf (some a0), .int x1, .int x2, .int x3, va_rf (some o)] D Y S hs .long yl o c0 0 (.long r.toInt64) S' hs := by
  refine l_ofW (by decide +kernel) ⟨(Nat.le_of_ble_eq_true rfl), (List.forall_mem_cons.mpr ⟨rf_cat _, (List.forall_mem_cons.mpr ⟨rfl, (List.forall_mem_cons.mpr ⟨rfl, (List.forall_mem_cons.mpr ⟨rfl, (List.forall_mem_cons.mpr ⟨rf_cat _, (fun _ h => absurd h List.not_mem_nil)⟩)⟩)⟩)⟩)⟩)⟩ ?_
  intro p e s m args below meth c ls hsz htab hF hNc hAr hO hT0 hM hl
  have hl : lv_has ls 6 [(0, va_rf (some a0)), (1, .int x1), (2, .int x2), (3, .int x3), (4, va_rf (some o))] := by rw [g_args [va_rf (some a0), .int x1, .int x2, .int x3, va_rf (some o)] 0 (List.forall_mem_cons.mpr ⟨rf_cat _, (List.forall_mem_cons.mpr ⟨rfl, (List.forall_mem_cons.mpr ⟨rfl, (List.forall_mem_cons.mpr ⟨rfl, (List.forall_mem_cons.mpr ⟨rf_cat _, (fun _ h => absurd h List.not_mem_nil)⟩)⟩)⟩)⟩)⟩)] at hl; exact hl
  have hF : gF p s m args meth c RL cL_keep 6 (some .int) D Y (gA S hs) := hF
  have hx := hF.1
  have hb := hF.2.1
  refine g_aload hx hb dL_keep_0 (lv_at hl 4 rfl) ?_
  refine lv_iconst (v := 0) hx hb dL_keep_2 (by decide) ?_
  refine g_aload_n hx hb dL_keep_3 rfl (lv_at hl 0 rfl) ?_
  refine lv_iload_n hx hb dL_keep_4 rfl (lv_at hl 1 rfl) ?_
  refine lv_iload_n hx hb dL_keep_5 rfl (lv_at hl 2 rfl) ?_
  refine lv_iload_n hx hb dL_keep_6 rfl (lv_at hl 3 rfl) ?_
  refine g_callV (As := [.int x1, .int x2, .int x3]) (rest := [.int 0, va_rf (some o)]) hF hM (c_X4_keep h) k_X4_keep u853 u854 u855 rfl rfl hT rfl hl.1 rfl (Nat.le_of_ble_eq_true rfl) dL_keep_7 ⟨(Nat.le_of_ble_eq_true rfl), (Nat.le_of_ble_eq_true rfl)⟩ ⟨(Nat.le_of_ble_eq_true rfl), (Nat.le_of_ble_eq_true rfl)⟩ (fun H locs hM => ?_)
  refine lv_i2l hx hb dL_keep_10 rfl ?_
  refine l_last hF hsz hM hAr hO hT0 dL_keep_11 (fun H locs h1 h2 h3 h4 h5 => ?_)
  refine lv_goto (tgt := 27) hx hb dL_keep_12 (by decide) ?_
  refine lv_iconst (v := 0) hx hb dL_keep_27 (by decide) ?_
  exact l_end hF rfl h1 h2 h3 h4 h5 dL_keep_28 (Nat.le_of_ble_eq_true rfl) (Nat.le_of_ble_eq_true rfl)
set_option maxHeartbeats 4000000 in
set_option maxRecDepth 100000 in
theorem cL_keep_x {l : Launch} {D : va_G} {Y : Nat → ClassId} {S : GS} {hs : Nat} {a0 o : Nat} {x1 : Int32} {x2 : Int32} {x3 : Int32} {x : Nat} (hfl : l.stackTraces = false) (h : f_X4_keep S a0 x1 x2 x3 = some (.inr x)) {i : Nat} {yl : ClassId} {c0 : Value} (hT : gT S a0 = 5) (hi : ([1, 2, 3] : List Nat)[i]? = some x) : lMet l yL_keep (lWs yL_keep cL_keep 6 [(0, 12, 15, 13), (0, 12, 19, 15), (0, 12, 23, 71)]) rmLx_keep [va_rf (some a0), .int x1, .int x2, .int x3, va_rf (some o)] D Y S hs .long yl o c0 (nI (i + 1)) c0 S hs := by
  refine l_ofW (by decide +kernel) ⟨(Nat.le_of_ble_eq_true rfl), (List.forall_mem_cons.mpr ⟨rf_cat _, (List.forall_mem_cons.mpr ⟨rfl, (List.forall_mem_cons.mpr ⟨rfl, (List.forall_mem_cons.mpr ⟨rfl, (List.forall_mem_cons.mpr ⟨rf_cat _, (fun _ h => absurd h List.not_mem_nil)⟩)⟩)⟩)⟩)⟩)⟩ ?_
  intro p e s m args below meth c ls hsz htab hF hNc hAr hO hT0 hM hl
  have hl : lv_has ls 6 [(0, va_rf (some a0)), (1, .int x1), (2, .int x2), (3, .int x3), (4, va_rf (some o))] := by rw [g_args [va_rf (some a0), .int x1, .int x2, .int x3, va_rf (some o)] 0 (List.forall_mem_cons.mpr ⟨rf_cat _, (List.forall_mem_cons.mpr ⟨rfl, (List.forall_mem_cons.mpr ⟨rfl, (List.forall_mem_cons.mpr ⟨rfl, (List.forall_mem_cons.mpr ⟨rf_cat _, (fun _ h => absurd h List.not_mem_nil)⟩)⟩)⟩)⟩)⟩)] at hl; exact hl
  have hF : gF p s m args meth c RL cL_keep 6 (some .int) D Y (gA S hs) := hF
  have hx := hF.1
  have hb := hF.2.1
  rcases i with _ | _ | _ | i
  · have hx9 := Option.some.inj hi
    subst hx9
    refine g_aload hx hb dL_keep_0 (lv_at hl 4 rfl) ?_
    refine lv_iconst (v := 0) hx hb dL_keep_2 (by decide) ?_
    refine g_aload_n hx hb dL_keep_3 rfl (lv_at hl 0 rfl) ?_
    refine lv_iload_n hx hb dL_keep_4 rfl (lv_at hl 1 rfl) ?_
    refine lv_iload_n hx hb dL_keep_5 rfl (lv_at hl 2 rfl) ?_
    refine lv_iload_n hx hb dL_keep_6 rfl (lv_at hl 3 rfl) ?_
    refine l_callX (pre := []) (x0 := ⟨0, 12, 15, 13⟩) (suf := [⟨0, 12, 19, 15⟩, ⟨0, 12, 23, 71⟩]) (As := [.int x1, .int x2, .int x3]) (rest := [.int 0, va_rf (some o)]) hF hNc hM htab (cx_X4_keep hfl h) k_X4_keep u853 u854 u855 rfl rfl hT rfl hl.1 rfl (Nat.le_of_ble_eq_true rfl) dL_keep_7 ⟨(Nat.le_of_ble_eq_true rfl), (Nat.le_of_ble_eq_true rfl)⟩ ⟨(Nat.le_of_ble_eq_true rfl), (Nat.le_of_ble_eq_true rfl)⟩ rfl (by decide) (by decide) (by decide) (fun _ h => absurd h List.not_mem_nil) u407 (fun q H locs h1 h2 h5 => ?_)
    refine g_astore (i := 5) (lv' := [(0, va_rf (some a0)), (1, .int x1), (2, .int x2), (3, .int x3), (4, va_rf (some o))]) hx hb dL_keep_15 hl (by decide) (fun v => rfl) (fun ls hl => ?_)
    refine lv_iconst (v := nI (0 + 1)) hx hb dL_keep_17 (by decide) ?_
    exact l_endX hF hsz rfl hO hT0 h1 h2 h5 dL_keep_18 (Nat.le_of_ble_eq_true rfl) (Nat.le_of_ble_eq_true rfl)
  · have hx9 := Option.some.inj hi
    subst hx9
    refine g_aload hx hb dL_keep_0 (lv_at hl 4 rfl) ?_
    refine lv_iconst (v := 0) hx hb dL_keep_2 (by decide) ?_
    refine g_aload_n hx hb dL_keep_3 rfl (lv_at hl 0 rfl) ?_
    refine lv_iload_n hx hb dL_keep_4 rfl (lv_at hl 1 rfl) ?_
    refine lv_iload_n hx hb dL_keep_5 rfl (lv_at hl 2 rfl) ?_
    refine lv_iload_n hx hb dL_keep_6 rfl (lv_at hl 3 rfl) ?_
    refine l_callX (pre := [⟨0, 12, 15, 13⟩]) (x0 := ⟨0, 12, 19, 15⟩) (suf := [⟨0, 12, 23, 71⟩]) (As := [.int x1, .int x2, .int x3]) (rest := [.int 0, va_rf (some o)]) hF hNc hM htab (cx_X4_keep hfl h) k_X4_keep u853 u854 u855 rfl rfl hT rfl hl.1 rfl (Nat.le_of_ble_eq_true rfl) dL_keep_7 ⟨(Nat.le_of_ble_eq_true rfl), (Nat.le_of_ble_eq_true rfl)⟩ ⟨(Nat.le_of_ble_eq_true rfl), (Nat.le_of_ble_eq_true rfl)⟩ rfl (by decide) (by decide) (by decide) (List.forall_mem_cons.mpr ⟨⟨by decide, 1, by decide, u407⟩, (fun _ h => absurd h List.not_mem_nil)⟩) u487 (fun q H locs h1 h2 h5 => ?_)
    refine g_astore (i := 5) (lv' := [(0, va_rf (some a0)), (1, .int x1), (2, .int x2), (3, .int x3), (4, va_rf (some o))]) hx hb dL_keep_19 hl (by decide) (fun v => rfl) (fun ls hl => ?_)
    refine lv_iconst (v := nI (1 + 1)) hx hb dL_keep_21 (by decide) ?_
    exact l_endX hF hsz rfl hO hT0 h1 h2 h5 dL_keep_22 (Nat.le_of_ble_eq_true rfl) (Nat.le_of_ble_eq_true rfl)
  · have hx9 := Option.some.inj hi
    subst hx9
    refine g_aload hx hb dL_keep_0 (lv_at hl 4 rfl) ?_
    refine lv_iconst (v := 0) hx hb dL_keep_2 (by decide) ?_
    refine g_aload_n hx hb dL_keep_3 rfl (lv_at hl 0 rfl) ?_
    refine lv_iload_n hx hb dL_keep_4 rfl (lv_at hl 1 rfl) ?_
    refine lv_iload_n hx hb dL_keep_5 rfl (lv_at hl 2 rfl) ?_
    refine lv_iload_n hx hb dL_keep_6 rfl (lv_at hl 3 rfl) ?_
    refine l_callX (pre := [⟨0, 12, 15, 13⟩, ⟨0, 12, 19, 15⟩]) (x0 := ⟨0, 12, 23, 71⟩) (suf := []) (As := [.int x1, .int x2, .int x3]) (rest := [.int 0, va_rf (some o)]) hF hNc hM htab (cx_X4_keep hfl h) k_X4_keep u853 u854 u855 rfl rfl hT rfl hl.1 rfl (Nat.le_of_ble_eq_true rfl) dL_keep_7 ⟨(Nat.le_of_ble_eq_true rfl), (Nat.le_of_ble_eq_true rfl)⟩ ⟨(Nat.le_of_ble_eq_true rfl), (Nat.le_of_ble_eq_true rfl)⟩ rfl (by decide) (by decide) (by decide) (List.forall_mem_cons.mpr ⟨⟨by decide, 1, by decide, u407⟩, (List.forall_mem_cons.mpr ⟨⟨by decide, 2, by decide, u487⟩, (fun _ h => absurd h List.not_mem_nil)⟩)⟩) u726 (fun q H locs h1 h2 h5 => ?_)
    refine g_astore (i := 5) (lv' := [(0, va_rf (some a0)), (1, .int x1), (2, .int x2), (3, .int x3), (4, va_rf (some o))]) hx hb dL_keep_23 hl (by decide) (fun v => rfl) (fun ls hl => ?_)
    refine lv_iconst (v := nI (2 + 1)) hx hb dL_keep_25 (by decide) ?_
    exact l_endX hF hsz rfl hO hT0 h1 h2 h5 dL_keep_26 (Nat.le_of_ble_eq_true rfl) (Nat.le_of_ble_eq_true rfl)
  · exact absurd hi (by simp)
abbrev rmL_strip : Room := { frames := 5, cells := 0, slots := 0, locals := 115 }
abbrev rmLx_strip : Room := { frames := 8, cells := 1, slots := 6, locals := 136 }
theorem kL_strip : lKc yL_strip cL_strip 5 [(0, 10, 13, 13), (0, 10, 17, 15), (0, 10, 21, 71), (0, 10, 25, 17)] 4 := ⟨u859, u62, by decide +kernel, by decide +kernel, by decide +kernel⟩
set_option maxHeartbeats 4000000 in
set_option maxRecDepth 100000 in
theorem cL_strip_r {l : Launch} {D : va_G} {Y : Nat → ClassId} {S : GS} {hs : Nat} {a0 o : Nat} {x1 : Int32} {x2 : Int32} {r : Int32} {S' : GS} (h : f_X4_strip S a0 x1 x2 = some (.inl (r, S'))) {yl : ClassId} {c0 : Value} (hT : gT S a0 = 5) : lMet l yL_strip (lWs yL_strip cL_strip 5 [(0, 10, 13, 13), (0, 10, 17, 15), (0, 10, 21, 71), (0, 10, 25, 17)]) rmL_strip [va_rf (some a0), .int x1, .int x2, va_rf (some o)] D Y S hs .long yl o c0 0 (.long r.toInt64) S' hs := by
  refine l_ofW (by decide +kernel) ⟨(Nat.le_of_ble_eq_true rfl), (List.forall_mem_cons.mpr ⟨rf_cat _, (List.forall_mem_cons.mpr ⟨rfl, (List.forall_mem_cons.mpr ⟨rfl, (List.forall_mem_cons.mpr ⟨rf_cat _, (fun _ h => absurd h List.not_mem_nil)⟩)⟩)⟩)⟩)⟩ ?_
  intro p e s m args below meth c ls hsz htab hF hNc hAr hO hT0 hM hl
  have hl : lv_has ls 5 [(0, va_rf (some a0)), (1, .int x1), (2, .int x2), (3, va_rf (some o))] := by rw [g_args [va_rf (some a0), .int x1, .int x2, va_rf (some o)] 0 (List.forall_mem_cons.mpr ⟨rf_cat _, (List.forall_mem_cons.mpr ⟨rfl, (List.forall_mem_cons.mpr ⟨rfl, (List.forall_mem_cons.mpr ⟨rf_cat _, (fun _ h => absurd h List.not_mem_nil)⟩)⟩)⟩)⟩)] at hl; exact hl
  have hF : gF p s m args meth c RL cL_strip 5 (some .int) D Y (gA S hs) := hF
  have hx := hF.1
  have hb := hF.2.1
  refine g_aload_n hx hb dL_strip_0 rfl (lv_at hl 3 rfl) ?_
  refine lv_iconst (v := 0) hx hb dL_strip_1 (by decide) ?_
  refine g_aload_n hx hb dL_strip_2 rfl (lv_at hl 0 rfl) ?_
  refine lv_iload_n hx hb dL_strip_3 rfl (lv_at hl 1 rfl) ?_
  refine lv_iload_n hx hb dL_strip_4 rfl (lv_at hl 2 rfl) ?_
  refine g_callV (As := [.int x1, .int x2]) (rest := [.int 0, va_rf (some o)]) hF hM (c_X4_strip h) k_X4_strip u860 u861 u862 rfl rfl hT rfl hl.1 rfl (Nat.le_of_ble_eq_true rfl) dL_strip_5 ⟨(Nat.le_of_ble_eq_true rfl), (Nat.le_of_ble_eq_true rfl)⟩ ⟨(Nat.le_of_ble_eq_true rfl), (Nat.le_of_ble_eq_true rfl)⟩ (fun H locs hM => ?_)
  refine lv_i2l hx hb dL_strip_8 rfl ?_
  refine l_last hF hsz hM hAr hO hT0 dL_strip_9 (fun H locs h1 h2 h3 h4 h5 => ?_)
  refine lv_goto (tgt := 29) hx hb dL_strip_10 (by decide) ?_
  refine lv_iconst (v := 0) hx hb dL_strip_29 (by decide) ?_
  exact l_end hF rfl h1 h2 h3 h4 h5 dL_strip_30 (Nat.le_of_ble_eq_true rfl) (Nat.le_of_ble_eq_true rfl)
set_option maxHeartbeats 4000000 in
set_option maxRecDepth 100000 in
theorem cL_strip_x {l : Launch} {D : va_G} {Y : Nat → ClassId} {S : GS} {hs : Nat} {a0 o : Nat} {x1 : Int32} {x2 : Int32} {x : Nat} (hfl : l.stackTraces = false) (h : f_X4_strip S a0 x1 x2 = some (.inr x)) {i : Nat} {yl : ClassId} {c0 : Value} (hT : gT S a0 = 5) (hi : ([1, 2, 3, 4] : List Nat)[i]? = some x) : lMet l yL_strip (lWs yL_strip cL_strip 5 [(0, 10, 13, 13), (0, 10, 17, 15), (0, 10, 21, 71), (0, 10, 25, 17)]) rmLx_strip [va_rf (some a0), .int x1, .int x2, va_rf (some o)] D Y S hs .long yl o c0 (nI (i + 1)) c0 S hs := by
  refine l_ofW (by decide +kernel) ⟨(Nat.le_of_ble_eq_true rfl), (List.forall_mem_cons.mpr ⟨rf_cat _, (List.forall_mem_cons.mpr ⟨rfl, (List.forall_mem_cons.mpr ⟨rfl, (List.forall_mem_cons.mpr ⟨rf_cat _, (fun _ h => absurd h List.not_mem_nil)⟩)⟩)⟩)⟩)⟩ ?_
  intro p e s m args below meth c ls hsz htab hF hNc hAr hO hT0 hM hl
  have hl : lv_has ls 5 [(0, va_rf (some a0)), (1, .int x1), (2, .int x2), (3, va_rf (some o))] := by rw [g_args [va_rf (some a0), .int x1, .int x2, va_rf (some o)] 0 (List.forall_mem_cons.mpr ⟨rf_cat _, (List.forall_mem_cons.mpr ⟨rfl, (List.forall_mem_cons.mpr ⟨rfl, (List.forall_mem_cons.mpr ⟨rf_cat _, (fun _ h => absurd h List.not_mem_nil)⟩)⟩)⟩)⟩)] at hl; exact hl
  have hF : gF p s m args meth c RL cL_strip 5 (some .int) D Y (gA S hs) := hF
  have hx := hF.1
  have hb := hF.2.1
  rcases i with _ | _ | _ | _ | i
  · have hx9 := Option.some.inj hi
    subst hx9
    refine g_aload_n hx hb dL_strip_0 rfl (lv_at hl 3 rfl) ?_
    refine lv_iconst (v := 0) hx hb dL_strip_1 (by decide) ?_
    refine g_aload_n hx hb dL_strip_2 rfl (lv_at hl 0 rfl) ?_
    refine lv_iload_n hx hb dL_strip_3 rfl (lv_at hl 1 rfl) ?_
    refine lv_iload_n hx hb dL_strip_4 rfl (lv_at hl 2 rfl) ?_
    refine l_callX (pre := []) (x0 := ⟨0, 10, 13, 13⟩) (suf := [⟨0, 10, 17, 15⟩, ⟨0, 10, 21, 71⟩, ⟨0, 10, 25, 17⟩]) (As := [.int x1, .int x2]) (rest := [.int 0, va_rf (some o)]) hF hNc hM htab (cx_X4_strip hfl h) k_X4_strip u860 u861 u862 rfl rfl hT rfl hl.1 rfl (Nat.le_of_ble_eq_true rfl) dL_strip_5 ⟨(Nat.le_of_ble_eq_true rfl), (Nat.le_of_ble_eq_true rfl)⟩ ⟨(Nat.le_of_ble_eq_true rfl), (Nat.le_of_ble_eq_true rfl)⟩ rfl (by decide) (by decide) (by decide) (fun _ h => absurd h List.not_mem_nil) u407 (fun q H locs h1 h2 h5 => ?_)
    refine g_astore (i := 4) (lv' := [(0, va_rf (some a0)), (1, .int x1), (2, .int x2), (3, va_rf (some o))]) hx hb dL_strip_13 hl (by decide) (fun v => rfl) (fun ls hl => ?_)
    refine lv_iconst (v := nI (0 + 1)) hx hb dL_strip_15 (by decide) ?_
    exact l_endX hF hsz rfl hO hT0 h1 h2 h5 dL_strip_16 (Nat.le_of_ble_eq_true rfl) (Nat.le_of_ble_eq_true rfl)
  · have hx9 := Option.some.inj hi
    subst hx9
    refine g_aload_n hx hb dL_strip_0 rfl (lv_at hl 3 rfl) ?_
    refine lv_iconst (v := 0) hx hb dL_strip_1 (by decide) ?_
    refine g_aload_n hx hb dL_strip_2 rfl (lv_at hl 0 rfl) ?_
    refine lv_iload_n hx hb dL_strip_3 rfl (lv_at hl 1 rfl) ?_
    refine lv_iload_n hx hb dL_strip_4 rfl (lv_at hl 2 rfl) ?_
    refine l_callX (pre := [⟨0, 10, 13, 13⟩]) (x0 := ⟨0, 10, 17, 15⟩) (suf := [⟨0, 10, 21, 71⟩, ⟨0, 10, 25, 17⟩]) (As := [.int x1, .int x2]) (rest := [.int 0, va_rf (some o)]) hF hNc hM htab (cx_X4_strip hfl h) k_X4_strip u860 u861 u862 rfl rfl hT rfl hl.1 rfl (Nat.le_of_ble_eq_true rfl) dL_strip_5 ⟨(Nat.le_of_ble_eq_true rfl), (Nat.le_of_ble_eq_true rfl)⟩ ⟨(Nat.le_of_ble_eq_true rfl), (Nat.le_of_ble_eq_true rfl)⟩ rfl (by decide) (by decide) (by decide) (List.forall_mem_cons.mpr ⟨⟨by decide, 1, by decide, u407⟩, (fun _ h => absurd h List.not_mem_nil)⟩) u487 (fun q H locs h1 h2 h5 => ?_)
    refine g_astore (i := 4) (lv' := [(0, va_rf (some a0)), (1, .int x1), (2, .int x2), (3, va_rf (some o))]) hx hb dL_strip_17 hl (by decide) (fun v => rfl) (fun ls hl => ?_)
    refine lv_iconst (v := nI (1 + 1)) hx hb dL_strip_19 (by decide) ?_
    exact l_endX hF hsz rfl hO hT0 h1 h2 h5 dL_strip_20 (Nat.le_of_ble_eq_true rfl) (Nat.le_of_ble_eq_true rfl)
  · have hx9 := Option.some.inj hi
    subst hx9
    refine g_aload_n hx hb dL_strip_0 rfl (lv_at hl 3 rfl) ?_
    refine lv_iconst (v := 0) hx hb dL_strip_1 (by decide) ?_
    refine g_aload_n hx hb dL_strip_2 rfl (lv_at hl 0 rfl) ?_
    refine lv_iload_n hx hb dL_strip_3 rfl (lv_at hl 1 rfl) ?_
    refine lv_iload_n hx hb dL_strip_4 rfl (lv_at hl 2 rfl) ?_
    refine l_callX (pre := [⟨0, 10, 13, 13⟩, ⟨0, 10, 17, 15⟩]) (x0 := ⟨0, 10, 21, 71⟩) (suf := [⟨0, 10, 25, 17⟩]) (As := [.int x1, .int x2]) (rest := [.int 0, va_rf (some o)]) hF hNc hM htab (cx_X4_strip hfl h) k_X4_strip u860 u861 u862 rfl rfl hT rfl hl.1 rfl (Nat.le_of_ble_eq_true rfl) dL_strip_5 ⟨(Nat.le_of_ble_eq_true rfl), (Nat.le_of_ble_eq_true rfl)⟩ ⟨(Nat.le_of_ble_eq_true rfl), (Nat.le_of_ble_eq_true rfl)⟩ rfl (by decide) (by decide) (by decide) (List.forall_mem_cons.mpr ⟨⟨by decide, 1, by decide, u407⟩, (List.forall_mem_cons.mpr ⟨⟨by decide, 2, by decide, u487⟩, (fun _ h => absurd h List.not_mem_nil)⟩)⟩) u726 (fun q H locs h1 h2 h5 => ?_)
    refine g_astore (i := 4) (lv' := [(0, va_rf (some a0)), (1, .int x1), (2, .int x2), (3, va_rf (some o))]) hx hb dL_strip_21 hl (by decide) (fun v => rfl) (fun ls hl => ?_)
    refine lv_iconst (v := nI (2 + 1)) hx hb dL_strip_23 (by decide) ?_
    exact l_endX hF hsz rfl hO hT0 h1 h2 h5 dL_strip_24 (Nat.le_of_ble_eq_true rfl) (Nat.le_of_ble_eq_true rfl)
  · have hx9 := Option.some.inj hi
    subst hx9
    refine g_aload_n hx hb dL_strip_0 rfl (lv_at hl 3 rfl) ?_
    refine lv_iconst (v := 0) hx hb dL_strip_1 (by decide) ?_
    refine g_aload_n hx hb dL_strip_2 rfl (lv_at hl 0 rfl) ?_
    refine lv_iload_n hx hb dL_strip_3 rfl (lv_at hl 1 rfl) ?_
    refine lv_iload_n hx hb dL_strip_4 rfl (lv_at hl 2 rfl) ?_
    refine l_callX (pre := [⟨0, 10, 13, 13⟩, ⟨0, 10, 17, 15⟩, ⟨0, 10, 21, 71⟩]) (x0 := ⟨0, 10, 25, 17⟩) (suf := []) (As := [.int x1, .int x2]) (rest := [.int 0, va_rf (some o)]) hF hNc hM htab (cx_X4_strip hfl h) k_X4_strip u860 u861 u862 rfl rfl hT rfl hl.1 rfl (Nat.le_of_ble_eq_true rfl) dL_strip_5 ⟨(Nat.le_of_ble_eq_true rfl), (Nat.le_of_ble_eq_true rfl)⟩ ⟨(Nat.le_of_ble_eq_true rfl), (Nat.le_of_ble_eq_true rfl)⟩ rfl (by decide) (by decide) (by decide) (List.forall_mem_cons.mpr ⟨⟨by decide, 1, by decide, u407⟩, (List.forall_mem_cons.mpr ⟨⟨by decide, 2, by decide, u487⟩, (List.forall_mem_cons.mpr ⟨⟨by decide, 3, by decide, u726⟩, (fun _ h => absurd h List.not_mem_nil)⟩)⟩)⟩) u488 (fun q H locs h1 h2 h5 => ?_)
    refine g_astore (i := 4) (lv' := [(0, va_rf (some a0)), (1, .int x1), (2, .int x2), (3, va_rf (some o))]) hx hb dL_strip_25 hl (by decide) (fun v => rfl) (fun ls hl => ?_)
    refine lv_iconst (v := nI (3 + 1)) hx hb dL_strip_27 (by decide) ?_
    exact l_endX hF hsz rfl hO hT0 h1 h2 h5 dL_strip_28 (Nat.le_of_ble_eq_true rfl) (Nat.le_of_ble_eq_true rfl)
  · exact absurd hi (by simp)
abbrev rmL_weave : Room := { frames := 4, cells := 0, slots := 0, locals := 96 }
abbrev rmLx_weave : Room := { frames := 9, cells := 1, slots := 6, locals := 159 }
theorem kL_weave : lKc yL_weave cL_weave 6 [(0, 12, 15, 13), (0, 12, 19, 15), (0, 12, 23, 71), (0, 12, 27, 17), (0, 12, 31, 73)] 5 := ⟨u867, u62, by decide +kernel, by decide +kernel, by decide +kernel⟩
set_option maxHeartbeats 4000000 in
set_option maxRecDepth 100000 in
theorem cL_weave_r {l : Launch} {D : va_G} {Y : Nat → ClassId} {S : GS} {hs : Nat} {a0 o : Nat} {x1 : Int32} {x2 : Int32} {x3 : Int32} {r : Int32} {S' : GS} (h : f_X4_weave S a0 x1 x2 x3 = some (.inl (r, S'))) {yl : ClassId} {c0 : Value} (hT : gT S a0 = 5) : lMet l yL_weave (lWs yL_weave cL_weave 6 [(0, 12, 15, 13), (0, 12, 19, 15), (0, 12, 23, 71), (0, 12, 27, 17), (0, 12, 31, 73)]) rmL_weave [va_rf (some a0), .int x1, .int x2, .int x3, va_rf (some o)] D Y S hs .long yl o c0 0 (.long r.toInt64) S' hs := by
  refine l_ofW (by decide +kernel) ⟨(Nat.le_of_ble_eq_true rfl), (List.forall_mem_cons.mpr ⟨rf_cat _, (List.forall_mem_cons.mpr ⟨rfl, (List.forall_mem_cons.mpr ⟨rfl, (List.forall_mem_cons.mpr ⟨rfl, (List.forall_mem_cons.mpr ⟨rf_cat _, (fun _ h => absurd h List.not_mem_nil)⟩)⟩)⟩)⟩)⟩)⟩ ?_
  intro p e s m args below meth c ls hsz htab hF hNc hAr hO hT0 hM hl
  have hl : lv_has ls 6 [(0, va_rf (some a0)), (1, .int x1), (2, .int x2), (3, .int x3), (4, va_rf (some o))] := by rw [g_args [va_rf (some a0), .int x1, .int x2, .int x3, va_rf (some o)] 0 (List.forall_mem_cons.mpr ⟨rf_cat _, (List.forall_mem_cons.mpr ⟨rfl, (List.forall_mem_cons.mpr ⟨rfl, (List.forall_mem_cons.mpr ⟨rfl, (List.forall_mem_cons.mpr ⟨rf_cat _, (fun _ h => absurd h List.not_mem_nil)⟩)⟩)⟩)⟩)⟩)] at hl; exact hl
  have hF : gF p s m args meth c RL cL_weave 6 (some .int) D Y (gA S hs) := hF
  have hx := hF.1
  have hb := hF.2.1
  refine g_aload hx hb dL_weave_0 (lv_at hl 4 rfl) ?_
  refine lv_iconst (v := 0) hx hb dL_weave_2 (by decide) ?_
  refine g_aload_n hx hb dL_weave_3 rfl (lv_at hl 0 rfl) ?_
  refine lv_iload_n hx hb dL_weave_4 rfl (lv_at hl 1 rfl) ?_
  refine lv_iload_n hx hb dL_weave_5 rfl (lv_at hl 2 rfl) ?_
  refine lv_iload_n hx hb dL_weave_6 rfl (lv_at hl 3 rfl) ?_
  refine g_callV (As := [.int x1, .int x2, .int x3]) (rest := [.int 0, va_rf (some o)]) hF hM (c_X4_weave h) k_X4_weave u868 u869 u870 rfl rfl hT rfl hl.1 rfl (Nat.le_of_ble_eq_true rfl) dL_weave_7 ⟨(Nat.le_of_ble_eq_true rfl), (Nat.le_of_ble_eq_true rfl)⟩ ⟨(Nat.le_of_ble_eq_true rfl), (Nat.le_of_ble_eq_true rfl)⟩ (fun H locs hM => ?_)
  refine lv_i2l hx hb dL_weave_10 rfl ?_
  refine l_last hF hsz hM hAr hO hT0 dL_weave_11 (fun H locs h1 h2 h3 h4 h5 => ?_)
  refine lv_goto (tgt := 35) hx hb dL_weave_12 (by decide) ?_
  refine lv_iconst (v := 0) hx hb dL_weave_35 (by decide) ?_
  exact l_end hF rfl h1 h2 h3 h4 h5 dL_weave_36 (Nat.le_of_ble_eq_true rfl) (Nat.le_of_ble_eq_true rfl)
set_option maxHeartbeats 4000000 in
set_option maxRecDepth 100000 in
theorem cL_weave_x {l : Launch} {D : va_G} {Y : Nat → ClassId} {S : GS} {hs : Nat} {a0 o : Nat} {x1 : Int32} {x2 : Int32} {x3 : Int32} {x : Nat} (hfl : l.stackTraces = false) (h : f_X4_weave S a0 x1 x2 x3 = some (.inr x)) {i : Nat} {yl : ClassId} {c0 : Value} (hT : gT S a0 = 5) (hi : ([1, 2, 3, 4, 5] : List Nat)[i]? = some x) : lMet l yL_weave (lWs yL_weave cL_weave 6 [(0, 12, 15, 13), (0, 12, 19, 15), (0, 12, 23, 71), (0, 12, 27, 17), (0, 12, 31, 73)]) rmLx_weave [va_rf (some a0), .int x1, .int x2, .int x3, va_rf (some o)] D Y S hs .long yl o c0 (nI (i + 1)) c0 S hs := by
  refine l_ofW (by decide +kernel) ⟨(Nat.le_of_ble_eq_true rfl), (List.forall_mem_cons.mpr ⟨rf_cat _, (List.forall_mem_cons.mpr ⟨rfl, (List.forall_mem_cons.mpr ⟨rfl, (List.forall_mem_cons.mpr ⟨rfl, (List.forall_mem_cons.mpr ⟨rf_cat _, (fun _ h => absurd h List.not_mem_nil)⟩)⟩)⟩)⟩)⟩)⟩ ?_
  intro p e s m args below meth c ls hsz htab hF hNc hAr hO hT0 hM hl
  have hl : lv_has ls 6 [(0, va_rf (some a0)), (1, .int x1), (2, .int x2), (3, .int x3), (4, va_rf (some o))] := by rw [g_args [va_rf (some a0), .int x1, .int x2, .int x3, va_rf (some o)] 0 (List.forall_mem_cons.mpr ⟨rf_cat _, (List.forall_mem_cons.mpr ⟨rfl, (List.forall_mem_cons.mpr ⟨rfl, (List.forall_mem_cons.mpr ⟨rfl, (List.forall_mem_cons.mpr ⟨rf_cat _, (fun _ h => absurd h List.not_mem_nil)⟩)⟩)⟩)⟩)⟩)] at hl; exact hl
  have hF : gF p s m args meth c RL cL_weave 6 (some .int) D Y (gA S hs) := hF
  have hx := hF.1
  have hb := hF.2.1
  rcases i with _ | _ | _ | _ | _ | i
  · have hx9 := Option.some.inj hi
    subst hx9
    refine g_aload hx hb dL_weave_0 (lv_at hl 4 rfl) ?_
    refine lv_iconst (v := 0) hx hb dL_weave_2 (by decide) ?_
    refine g_aload_n hx hb dL_weave_3 rfl (lv_at hl 0 rfl) ?_
    refine lv_iload_n hx hb dL_weave_4 rfl (lv_at hl 1 rfl) ?_
    refine lv_iload_n hx hb dL_weave_5 rfl (lv_at hl 2 rfl) ?_
    refine lv_iload_n hx hb dL_weave_6 rfl (lv_at hl 3 rfl) ?_
    refine l_callX (pre := []) (x0 := ⟨0, 12, 15, 13⟩) (suf := [⟨0, 12, 19, 15⟩, ⟨0, 12, 23, 71⟩, ⟨0, 12, 27, 17⟩, ⟨0, 12, 31, 73⟩]) (As := [.int x1, .int x2, .int x3]) (rest := [.int 0, va_rf (some o)]) hF hNc hM htab (cx_X4_weave hfl h) k_X4_weave u868 u869 u870 rfl rfl hT rfl hl.1 rfl (Nat.le_of_ble_eq_true rfl) dL_weave_7 ⟨(Nat.le_of_ble_eq_true rfl), (Nat.le_of_ble_eq_true rfl)⟩ ⟨(Nat.le_of_ble_eq_true rfl), (Nat.le_of_ble_eq_true rfl)⟩ rfl (by decide) (by decide) (by decide) (fun _ h => absurd h List.not_mem_nil) u407 (fun q H locs h1 h2 h5 => ?_)
    refine g_astore (i := 5) (lv' := [(0, va_rf (some a0)), (1, .int x1), (2, .int x2), (3, .int x3), (4, va_rf (some o))]) hx hb dL_weave_15 hl (by decide) (fun v => rfl) (fun ls hl => ?_)
    refine lv_iconst (v := nI (0 + 1)) hx hb dL_weave_17 (by decide) ?_
    exact l_endX hF hsz rfl hO hT0 h1 h2 h5 dL_weave_18 (Nat.le_of_ble_eq_true rfl) (Nat.le_of_ble_eq_true rfl)
  · have hx9 := Option.some.inj hi
    subst hx9
    refine g_aload hx hb dL_weave_0 (lv_at hl 4 rfl) ?_
    refine lv_iconst (v := 0) hx hb dL_weave_2 (by decide) ?_
    refine g_aload_n hx hb dL_weave_3 rfl (lv_at hl 0 rfl) ?_
    refine lv_iload_n hx hb dL_weave_4 rfl (lv_at hl 1 rfl) ?_
    refine lv_iload_n hx hb dL_weave_5 rfl (lv_at hl 2 rfl) ?_
    refine lv_iload_n hx hb dL_weave_6 rfl (lv_at hl 3 rfl) ?_
    refine l_callX (pre := [⟨0, 12, 15, 13⟩]) (x0 := ⟨0, 12, 19, 15⟩) (suf := [⟨0, 12, 23, 71⟩, ⟨0, 12, 27, 17⟩, ⟨0, 12, 31, 73⟩]) (As := [.int x1, .int x2, .int x3]) (rest := [.int 0, va_rf (some o)]) hF hNc hM htab (cx_X4_weave hfl h) k_X4_weave u868 u869 u870 rfl rfl hT rfl hl.1 rfl (Nat.le_of_ble_eq_true rfl) dL_weave_7 ⟨(Nat.le_of_ble_eq_true rfl), (Nat.le_of_ble_eq_true rfl)⟩ ⟨(Nat.le_of_ble_eq_true rfl), (Nat.le_of_ble_eq_true rfl)⟩ rfl (by decide) (by decide) (by decide) (List.forall_mem_cons.mpr ⟨⟨by decide, 1, by decide, u407⟩, (fun _ h => absurd h List.not_mem_nil)⟩) u487 (fun q H locs h1 h2 h5 => ?_)
    refine g_astore (i := 5) (lv' := [(0, va_rf (some a0)), (1, .int x1), (2, .int x2), (3, .int x3), (4, va_rf (some o))]) hx hb dL_weave_19 hl (by decide) (fun v => rfl) (fun ls hl => ?_)
    refine lv_iconst (v := nI (1 + 1)) hx hb dL_weave_21 (by decide) ?_
    exact l_endX hF hsz rfl hO hT0 h1 h2 h5 dL_weave_22 (Nat.le_of_ble_eq_true rfl) (Nat.le_of_ble_eq_true rfl)
  · have hx9 := Option.some.inj hi
    subst hx9
    refine g_aload hx hb dL_weave_0 (lv_at hl 4 rfl) ?_
    refine lv_iconst (v := 0) hx hb dL_weave_2 (by decide) ?_
    refine g_aload_n hx hb dL_weave_3 rfl (lv_at hl 0 rfl) ?_
    refine lv_iload_n hx hb dL_weave_4 rfl (lv_at hl 1 rfl) ?_
    refine lv_iload_n hx hb dL_weave_5 rfl (lv_at hl 2 rfl) ?_
    refine lv_iload_n hx hb dL_weave_6 rfl (lv_at hl 3 rfl) ?_
    refine l_callX (pre := [⟨0, 12, 15, 13⟩, ⟨0, 12, 19, 15⟩]) (x0 := ⟨0, 12, 23, 71⟩) (suf := [⟨0, 12, 27, 17⟩, ⟨0, 12, 31, 73⟩]) (As := [.int x1, .int x2, .int x3]) (rest := [.int 0, va_rf (some o)]) hF hNc hM htab (cx_X4_weave hfl h) k_X4_weave u868 u869 u870 rfl rfl hT rfl hl.1 rfl (Nat.le_of_ble_eq_true rfl) dL_weave_7 ⟨(Nat.le_of_ble_eq_true rfl), (Nat.le_of_ble_eq_true rfl)⟩ ⟨(Nat.le_of_ble_eq_true rfl), (Nat.le_of_ble_eq_true rfl)⟩ rfl (by decide) (by decide) (by decide) (List.forall_mem_cons.mpr ⟨⟨by decide, 1, by decide, u407⟩, (List.forall_mem_cons.mpr ⟨⟨by decide, 2, by decide, u487⟩, (fun _ h => absurd h List.not_mem_nil)⟩)⟩) u726 (fun q H locs h1 h2 h5 => ?_)
    refine g_astore (i := 5) (lv' := [(0, va_rf (some a0)), (1, .int x1), (2, .int x2), (3, .int x3), (4, va_rf (some o))]) hx hb dL_weave_23 hl (by decide) (fun v => rfl) (fun ls hl => ?_)
    refine lv_iconst (v := nI (2 + 1)) hx hb dL_weave_25 (by decide) ?_
    exact l_endX hF hsz rfl hO hT0 h1 h2 h5 dL_weave_26 (Nat.le_of_ble_eq_true rfl) (Nat.le_of_ble_eq_true rfl)
  · have hx9 := Option.some.inj hi
    subst hx9
    refine g_aload hx hb dL_weave_0 (lv_at hl 4 rfl) ?_
    refine lv_iconst (v := 0) hx hb dL_weave_2 (by decide) ?_
    refine g_aload_n hx hb dL_weave_3 rfl (lv_at hl 0 rfl) ?_
    refine lv_iload_n hx hb dL_weave_4 rfl (lv_at hl 1 rfl) ?_
    refine lv_iload_n hx hb dL_weave_5 rfl (lv_at hl 2 rfl) ?_
    refine lv_iload_n hx hb dL_weave_6 rfl (lv_at hl 3 rfl) ?_
    refine l_callX (pre := [⟨0, 12, 15, 13⟩, ⟨0, 12, 19, 15⟩, ⟨0, 12, 23, 71⟩]) (x0 := ⟨0, 12, 27, 17⟩) (suf := [⟨0, 12, 31, 73⟩]) (As := [.int x1, .int x2, .int x3]) (rest := [.int 0, va_rf (some o)]) hF hNc hM htab (cx_X4_weave hfl h) k_X4_weave u868 u869 u870 rfl rfl hT rfl hl.1 rfl (Nat.le_of_ble_eq_true rfl) dL_weave_7 ⟨(Nat.le_of_ble_eq_true rfl), (Nat.le_of_ble_eq_true rfl)⟩ ⟨(Nat.le_of_ble_eq_true rfl), (Nat.le_of_ble_eq_true rfl)⟩ rfl (by decide) (by decide) (by decide) (List.forall_mem_cons.mpr ⟨⟨by decide, 1, by decide, u407⟩, (List.forall_mem_cons.mpr ⟨⟨by decide, 2, by decide, u487⟩, (List.forall_mem_cons.mpr ⟨⟨by decide, 3, by decide, u726⟩, (fun _ h => absurd h List.not_mem_nil)⟩)⟩)⟩) u488 (fun q H locs h1 h2 h5 => ?_)
    refine g_astore (i := 5) (lv' := [(0, va_rf (some a0)), (1, .int x1), (2, .int x2), (3, .int x3), (4, va_rf (some o))]) hx hb dL_weave_27 hl (by decide) (fun v => rfl) (fun ls hl => ?_)
    refine lv_iconst (v := nI (3 + 1)) hx hb dL_weave_29 (by decide) ?_
    exact l_endX hF hsz rfl hO hT0 h1 h2 h5 dL_weave_30 (Nat.le_of_ble_eq_true rfl) (Nat.le_of_ble_eq_true rfl)
  · have hx9 := Option.some.inj hi
    subst hx9
    refine g_aload hx hb dL_weave_0 (lv_at hl 4 rfl) ?_
    refine lv_iconst (v := 0) hx hb dL_weave_2 (by decide) ?_
    refine g_aload_n hx hb dL_weave_3 rfl (lv_at hl 0 rfl) ?_
    refine lv_iload_n hx hb dL_weave_4 rfl (lv_at hl 1 rfl) ?_
    refine lv_iload_n hx hb dL_weave_5 rfl (lv_at hl 2 rfl) ?_
    refine lv_iload_n hx hb dL_weave_6 rfl (lv_at hl 3 rfl) ?_
    refine l_callX (pre := [⟨0, 12, 15, 13⟩, ⟨0, 12, 19, 15⟩, ⟨0, 12, 23, 71⟩, ⟨0, 12, 27, 17⟩]) (x0 := ⟨0, 12, 31, 73⟩) (suf := []) (As := [.int x1, .int x2, .int x3]) (rest := [.int 0, va_rf (some o)]) hF hNc hM htab (cx_X4_weave hfl h) k_X4_weave u868 u869 u870 rfl rfl hT rfl hl.1 rfl (Nat.le_of_ble_eq_true rfl) dL_weave_7 ⟨(Nat.le_of_ble_eq_true rfl), (Nat.le_of_ble_eq_true rfl)⟩ ⟨(Nat.le_of_ble_eq_true rfl), (Nat.le_of_ble_eq_true rfl)⟩ rfl (by decide) (by decide) (by decide) (List.forall_mem_cons.mpr ⟨⟨by decide, 1, by decide, u407⟩, (List.forall_mem_cons.mpr ⟨⟨by decide, 2, by decide, u487⟩, (List.forall_mem_cons.mpr ⟨⟨by decide, 3, by decide, u726⟩, (List.forall_mem_cons.mpr ⟨⟨by decide, 4, by decide, u488⟩, (fun _ h => absurd h List.not_mem_nil)⟩)⟩)⟩)⟩) u727 (fun q H locs h1 h2 h5 => ?_)
    refine g_astore (i := 5) (lv' := [(0, va_rf (some a0)), (1, .int x1), (2, .int x2), (3, .int x3), (4, va_rf (some o))]) hx hb dL_weave_31 hl (by decide) (fun v => rfl) (fun ls hl => ?_)
    refine lv_iconst (v := nI (4 + 1)) hx hb dL_weave_33 (by decide) ?_
    exact l_endX hF hsz rfl hO hT0 h1 h2 h5 dL_weave_34 (Nat.le_of_ble_eq_true rfl) (Nat.le_of_ble_eq_true rfl)
  · exact absurd hi (by simp)
abbrev rmL_raise : Room := { frames := 3, cells := 0, slots := 0, locals := 69 }
abbrev rmLx_raise : Room := { frames := 8, cells := 1, slots := 6, locals := 135 }
theorem kL_raise : lKc yL_raise cL_raise 5 [(0, 10, 13, 13), (0, 10, 17, 15), (0, 10, 21, 71), (0, 10, 25, 17)] 4 := ⟨u875, u62, by decide +kernel, by decide +kernel, by decide +kernel⟩
set_option maxHeartbeats 4000000 in
set_option maxRecDepth 100000 in
theorem cL_raise_r {l : Launch} {D : va_G} {Y : Nat → ClassId} {S : GS} {hs : Nat} {a0 o : Nat} {x1 : Int32} {x2 : Int32} {r : Int32} {S' : GS} (h : f_X4_raise S a0 x1 x2 = some (.inl (r, S'))) {yl : ClassId} {c0 : Value} (hT : gT S a0 = 5) : lMet l yL_raise (lWs yL_raise cL_raise 5 [(0, 10, 13, 13), (0, 10, 17, 15), (0, 10, 21, 71), (0, 10, 25, 17)]) rmL_raise [va_rf (some a0), .int x1, .int x2, va_rf (some o)] D Y S hs .long yl o c0 0 (.long r.toInt64) S' hs := by
  refine l_ofW (by decide +kernel) ⟨(Nat.le_of_ble_eq_true rfl), (List.forall_mem_cons.mpr ⟨rf_cat _, (List.forall_mem_cons.mpr ⟨rfl, (List.forall_mem_cons.mpr ⟨rfl, (List.forall_mem_cons.mpr ⟨rf_cat _, (fun _ h => absurd h List.not_mem_nil)⟩)⟩)⟩)⟩)⟩ ?_
  intro p e s m args below meth c ls hsz htab hF hNc hAr hO hT0 hM hl
  have hl : lv_has ls 5 [(0, va_rf (some a0)), (1, .int x1), (2, .int x2), (3, va_rf (some o))] := by rw [g_args [va_rf (some a0), .int x1, .int x2, va_rf (some o)] 0 (List.forall_mem_cons.mpr ⟨rf_cat _, (List.forall_mem_cons.mpr ⟨rfl, (List.forall_mem_cons.mpr ⟨rfl, (List.forall_mem_cons.mpr ⟨rf_cat _, (fun _ h => absurd h List.not_mem_nil)⟩)⟩)⟩)⟩)] at hl; exact hl
  have hF : gF p s m args meth c RL cL_raise 5 (some .int) D Y (gA S hs) := hF
  have hx := hF.1
  have hb := hF.2.1
  refine g_aload_n hx hb dL_raise_0 rfl (lv_at hl 3 rfl) ?_
  refine lv_iconst (v := 0) hx hb dL_raise_1 (by decide) ?_
  refine g_aload_n hx hb dL_raise_2 rfl (lv_at hl 0 rfl) ?_
  refine lv_iload_n hx hb dL_raise_3 rfl (lv_at hl 1 rfl) ?_
  refine lv_iload_n hx hb dL_raise_4 rfl (lv_at hl 2 rfl) ?_
  refine g_callV (As := [.int x1, .int x2]) (rest := [.int 0, va_rf (some o)]) hF hM (c_X4_raise h) k_X4_raise u876 u877 u878 rfl rfl hT rfl hl.1 rfl (Nat.le_of_ble_eq_true rfl) dL_raise_5 ⟨(Nat.le_of_ble_eq_true rfl), (Nat.le_of_ble_eq_true rfl)⟩ ⟨(Nat.le_of_ble_eq_true rfl), (Nat.le_of_ble_eq_true rfl)⟩ (fun H locs hM => ?_)
  refine lv_i2l hx hb dL_raise_8 rfl ?_
  refine l_last hF hsz hM hAr hO hT0 dL_raise_9 (fun H locs h1 h2 h3 h4 h5 => ?_)
  refine lv_goto (tgt := 29) hx hb dL_raise_10 (by decide) ?_
  refine lv_iconst (v := 0) hx hb dL_raise_29 (by decide) ?_
  exact l_end hF rfl h1 h2 h3 h4 h5 dL_raise_30 (Nat.le_of_ble_eq_true rfl) (Nat.le_of_ble_eq_true rfl)
set_option maxHeartbeats 4000000 in
set_option maxRecDepth 100000 in
theorem cL_raise_x {l : Launch} {D : va_G} {Y : Nat → ClassId} {S : GS} {hs : Nat} {a0 o : Nat} {x1 : Int32} {x2 : Int32} {x : Nat} (hfl : l.stackTraces = false) (h : f_X4_raise S a0 x1 x2 = some (.inr x)) {i : Nat} {yl : ClassId} {c0 : Value} (hT : gT S a0 = 5) (hi : ([1, 2, 3, 4] : List Nat)[i]? = some x) : lMet l yL_raise (lWs yL_raise cL_raise 5 [(0, 10, 13, 13), (0, 10, 17, 15), (0, 10, 21, 71), (0, 10, 25, 17)]) rmLx_raise [va_rf (some a0), .int x1, .int x2, va_rf (some o)] D Y S hs .long yl o c0 (nI (i + 1)) c0 S hs := by
  refine l_ofW (by decide +kernel) ⟨(Nat.le_of_ble_eq_true rfl), (List.forall_mem_cons.mpr ⟨rf_cat _, (List.forall_mem_cons.mpr ⟨rfl, (List.forall_mem_cons.mpr ⟨rfl, (List.forall_mem_cons.mpr ⟨rf_cat _, (fun _ h => absurd h List.not_mem_nil)⟩)⟩)⟩)⟩)⟩ ?_
  intro p e s m args below meth c ls hsz htab hF hNc hAr hO hT0 hM hl
  have hl : lv_has ls 5 [(0, va_rf (some a0)), (1, .int x1), (2, .int x2), (3, va_rf (some o))] := by rw [g_args [va_rf (some a0), .int x1, .int x2, va_rf (some o)] 0 (List.forall_mem_cons.mpr ⟨rf_cat _, (List.forall_mem_cons.mpr ⟨rfl, (List.forall_mem_cons.mpr ⟨rfl, (List.forall_mem_cons.mpr ⟨rf_cat _, (fun _ h => absurd h List.not_mem_nil)⟩)⟩)⟩)⟩)] at hl; exact hl
  have hF : gF p s m args meth c RL cL_raise 5 (some .int) D Y (gA S hs) := hF
  have hx := hF.1
  have hb := hF.2.1
  rcases i with _ | _ | _ | _ | i
  · have hx9 := Option.some.inj hi
    subst hx9
    refine g_aload_n hx hb dL_raise_0 rfl (lv_at hl 3 rfl) ?_
    refine lv_iconst (v := 0) hx hb dL_raise_1 (by decide) ?_
    refine g_aload_n hx hb dL_raise_2 rfl (lv_at hl 0 rfl) ?_
    refine lv_iload_n hx hb dL_raise_3 rfl (lv_at hl 1 rfl) ?_
    refine lv_iload_n hx hb dL_raise_4 rfl (lv_at hl 2 rfl) ?_
    refine l_callX (pre := []) (x0 := ⟨0, 10, 13, 13⟩) (suf := [⟨0, 10, 17, 15⟩, ⟨0, 10, 21, 71⟩, ⟨0, 10, 25, 17⟩]) (As := [.int x1, .int x2]) (rest := [.int 0, va_rf (some o)]) hF hNc hM htab (cx_X4_raise hfl h) k_X4_raise u876 u877 u878 rfl rfl hT rfl hl.1 rfl (Nat.le_of_ble_eq_true rfl) dL_raise_5 ⟨(Nat.le_of_ble_eq_true rfl), (Nat.le_of_ble_eq_true rfl)⟩ ⟨(Nat.le_of_ble_eq_true rfl), (Nat.le_of_ble_eq_true rfl)⟩ rfl (by decide) (by decide) (by decide) (fun _ h => absurd h List.not_mem_nil) u407 (fun q H locs h1 h2 h5 => ?_)
    refine g_astore (i := 4) (lv' := [(0, va_rf (some a0)), (1, .int x1), (2, .int x2), (3, va_rf (some o))]) hx hb dL_raise_13 hl (by decide) (fun v => rfl) (fun ls hl => ?_)
    refine lv_iconst (v := nI (0 + 1)) hx hb dL_raise_15 (by decide) ?_
    exact l_endX hF hsz rfl hO hT0 h1 h2 h5 dL_raise_16 (Nat.le_of_ble_eq_true rfl) (Nat.le_of_ble_eq_true rfl)
  · have hx9 := Option.some.inj hi
    subst hx9
    refine g_aload_n hx hb dL_raise_0 rfl (lv_at hl 3 rfl) ?_
    refine lv_iconst (v := 0) hx hb dL_raise_1 (by decide) ?_
    refine g_aload_n hx hb dL_raise_2 rfl (lv_at hl 0 rfl) ?_
    refine lv_iload_n hx hb dL_raise_3 rfl (lv_at hl 1 rfl) ?_
    refine lv_iload_n hx hb dL_raise_4 rfl (lv_at hl 2 rfl) ?_
    refine l_callX (pre := [⟨0, 10, 13, 13⟩]) (x0 := ⟨0, 10, 17, 15⟩) (suf := [⟨0, 10, 21, 71⟩, ⟨0, 10, 25, 17⟩]) (As := [.int x1, .int x2]) (rest := [.int 0, va_rf (some o)]) hF hNc hM htab (cx_X4_raise hfl h) k_X4_raise u876 u877 u878 rfl rfl hT rfl hl.1 rfl (Nat.le_of_ble_eq_true rfl) dL_raise_5 ⟨(Nat.le_of_ble_eq_true rfl), (Nat.le_of_ble_eq_true rfl)⟩ ⟨(Nat.le_of_ble_eq_true rfl), (Nat.le_of_ble_eq_true rfl)⟩ rfl (by decide) (by decide) (by decide) (List.forall_mem_cons.mpr ⟨⟨by decide, 1, by decide, u407⟩, (fun _ h => absurd h List.not_mem_nil)⟩) u487 (fun q H locs h1 h2 h5 => ?_)
    refine g_astore (i := 4) (lv' := [(0, va_rf (some a0)), (1, .int x1), (2, .int x2), (3, va_rf (some o))]) hx hb dL_raise_17 hl (by decide) (fun v => rfl) (fun ls hl => ?_)
    refine lv_iconst (v := nI (1 + 1)) hx hb dL_raise_19 (by decide) ?_
    exact l_endX hF hsz rfl hO hT0 h1 h2 h5 dL_raise_20 (Nat.le_of_ble_eq_true rfl) (Nat.le_of_ble_eq_true rfl)
  · have hx9 := Option.some.inj hi
    subst hx9
    refine g_aload_n hx hb dL_raise_0 rfl (lv_at hl 3 rfl) ?_
    refine lv_iconst (v := 0) hx hb dL_raise_1 (by decide) ?_
    refine g_aload_n hx hb dL_raise_2 rfl (lv_at hl 0 rfl) ?_
    refine lv_iload_n hx hb dL_raise_3 rfl (lv_at hl 1 rfl) ?_
    refine lv_iload_n hx hb dL_raise_4 rfl (lv_at hl 2 rfl) ?_
    refine l_callX (pre := [⟨0, 10, 13, 13⟩, ⟨0, 10, 17, 15⟩]) (x0 := ⟨0, 10, 21, 71⟩) (suf := [⟨0, 10, 25, 17⟩]) (As := [.int x1, .int x2]) (rest := [.int 0, va_rf (some o)]) hF hNc hM htab (cx_X4_raise hfl h) k_X4_raise u876 u877 u878 rfl rfl hT rfl hl.1 rfl (Nat.le_of_ble_eq_true rfl) dL_raise_5 ⟨(Nat.le_of_ble_eq_true rfl), (Nat.le_of_ble_eq_true rfl)⟩ ⟨(Nat.le_of_ble_eq_true rfl), (Nat.le_of_ble_eq_true rfl)⟩ rfl (by decide) (by decide) (by decide) (List.forall_mem_cons.mpr ⟨⟨by decide, 1, by decide, u407⟩, (List.forall_mem_cons.mpr ⟨⟨by decide, 2, by decide, u487⟩, (fun _ h => absurd h List.not_mem_nil)⟩)⟩) u726 (fun q H locs h1 h2 h5 => ?_)
    refine g_astore (i := 4) (lv' := [(0, va_rf (some a0)), (1, .int x1), (2, .int x2), (3, va_rf (some o))]) hx hb dL_raise_21 hl (by decide) (fun v => rfl) (fun ls hl => ?_)
    refine lv_iconst (v := nI (2 + 1)) hx hb dL_raise_23 (by decide) ?_
    exact l_endX hF hsz rfl hO hT0 h1 h2 h5 dL_raise_24 (Nat.le_of_ble_eq_true rfl) (Nat.le_of_ble_eq_true rfl)
  · have hx9 := Option.some.inj hi
    subst hx9
    refine g_aload_n hx hb dL_raise_0 rfl (lv_at hl 3 rfl) ?_
    refine lv_iconst (v := 0) hx hb dL_raise_1 (by decide) ?_
    refine g_aload_n hx hb dL_raise_2 rfl (lv_at hl 0 rfl) ?_
    refine lv_iload_n hx hb dL_raise_3 rfl (lv_at hl 1 rfl) ?_
    refine lv_iload_n hx hb dL_raise_4 rfl (lv_at hl 2 rfl) ?_
    refine l_callX (pre := [⟨0, 10, 13, 13⟩, ⟨0, 10, 17, 15⟩, ⟨0, 10, 21, 71⟩]) (x0 := ⟨0, 10, 25, 17⟩) (suf := []) (As := [.int x1, .int x2]) (rest := [.int 0, va_rf (some o)]) hF hNc hM htab (cx_X4_raise hfl h) k_X4_raise u876 u877 u878 rfl rfl hT rfl hl.1 rfl (Nat.le_of_ble_eq_true rfl) dL_raise_5 ⟨(Nat.le_of_ble_eq_true rfl), (Nat.le_of_ble_eq_true rfl)⟩ ⟨(Nat.le_of_ble_eq_true rfl), (Nat.le_of_ble_eq_true rfl)⟩ rfl (by decide) (by decide) (by decide) (List.forall_mem_cons.mpr ⟨⟨by decide, 1, by decide, u407⟩, (List.forall_mem_cons.mpr ⟨⟨by decide, 2, by decide, u487⟩, (List.forall_mem_cons.mpr ⟨⟨by decide, 3, by decide, u726⟩, (fun _ h => absurd h List.not_mem_nil)⟩)⟩)⟩) u488 (fun q H locs h1 h2 h5 => ?_)
    refine g_astore (i := 4) (lv' := [(0, va_rf (some a0)), (1, .int x1), (2, .int x2), (3, va_rf (some o))]) hx hb dL_raise_25 hl (by decide) (fun v => rfl) (fun ls hl => ?_)
    refine lv_iconst (v := nI (3 + 1)) hx hb dL_raise_27 (by decide) ?_
    exact l_endX hF hsz rfl hO hT0 h1 h2 h5 dL_raise_28 (Nat.le_of_ble_eq_true rfl) (Nat.le_of_ble_eq_true rfl)
  · exact absurd hi (by simp)
abbrev rmL_sort : Room := { frames := 4, cells := 0, slots := 0, locals := 95 }
abbrev rmLx_sort : Room := { frames := 9, cells := 1, slots := 6, locals := 156 }
theorem kL_sort : lKc yL_sort cL_sort 5 [(0, 10, 13, 13), (0, 10, 17, 15), (0, 10, 21, 71), (0, 10, 25, 17)] 4 := ⟨u882, u62, by decide +kernel, by decide +kernel, by decide +kernel⟩
set_option maxHeartbeats 4000000 in
set_option maxRecDepth 100000 in
theorem cL_sort_r {l : Launch} {D : va_G} {Y : Nat → ClassId} {S : GS} {hs : Nat} {a0 o : Nat} {x1 : Int32} {x2 : Int32} {r : Int32} {S' : GS} (h : f_X4_sort S a0 x1 x2 = some (.inl (r, S'))) {yl : ClassId} {c0 : Value} (hT : gT S a0 = 5) : lMet l yL_sort (lWs yL_sort cL_sort 5 [(0, 10, 13, 13), (0, 10, 17, 15), (0, 10, 21, 71), (0, 10, 25, 17)]) rmL_sort [va_rf (some a0), .int x1, .int x2, va_rf (some o)] D Y S hs .long yl o c0 0 (.long r.toInt64) S' hs := by
  refine l_ofW (by decide +kernel) ⟨(Nat.le_of_ble_eq_true rfl), (List.forall_mem_cons.mpr ⟨rf_cat _, (List.forall_mem_cons.mpr ⟨rfl, (List.forall_mem_cons.mpr ⟨rfl, (List.forall_mem_cons.mpr ⟨rf_cat _, (fun _ h => absurd h List.not_mem_nil)⟩)⟩)⟩)⟩)⟩ ?_
  intro p e s m args below meth c ls hsz htab hF hNc hAr hO hT0 hM hl
  have hl : lv_has ls 5 [(0, va_rf (some a0)), (1, .int x1), (2, .int x2), (3, va_rf (some o))] := by rw [g_args [va_rf (some a0), .int x1, .int x2, va_rf (some o)] 0 (List.forall_mem_cons.mpr ⟨rf_cat _, (List.forall_mem_cons.mpr ⟨rfl, (List.forall_mem_cons.mpr ⟨rfl, (List.forall_mem_cons.mpr ⟨rf_cat _, (fun _ h => absurd h List.not_mem_nil)⟩)⟩)⟩)⟩)] at hl; exact hl
  have hF : gF p s m args meth c RL cL_sort 5 (some .int) D Y (gA S hs) := hF
  have hx := hF.1
  have hb := hF.2.1
  refine g_aload_n hx hb dL_sort_0 rfl (lv_at hl 3 rfl) ?_
  refine lv_iconst (v := 0) hx hb dL_sort_1 (by decide) ?_
  refine g_aload_n hx hb dL_sort_2 rfl (lv_at hl 0 rfl) ?_
  refine lv_iload_n hx hb dL_sort_3 rfl (lv_at hl 1 rfl) ?_
  refine lv_iload_n hx hb dL_sort_4 rfl (lv_at hl 2 rfl) ?_
  refine g_callV (As := [.int x1, .int x2]) (rest := [.int 0, va_rf (some o)]) hF hM (c_X4_sort h) k_X4_sort u883 u884 u885 rfl rfl hT rfl hl.1 rfl (Nat.le_of_ble_eq_true rfl) dL_sort_5 ⟨(Nat.le_of_ble_eq_true rfl), (Nat.le_of_ble_eq_true rfl)⟩ ⟨(Nat.le_of_ble_eq_true rfl), (Nat.le_of_ble_eq_true rfl)⟩ (fun H locs hM => ?_)
  refine lv_i2l hx hb dL_sort_8 rfl ?_
  refine l_last hF hsz hM hAr hO hT0 dL_sort_9 (fun H locs h1 h2 h3 h4 h5 => ?_)
  refine lv_goto (tgt := 29) hx hb dL_sort_10 (by decide) ?_
  refine lv_iconst (v := 0) hx hb dL_sort_29 (by decide) ?_
  exact l_end hF rfl h1 h2 h3 h4 h5 dL_sort_30 (Nat.le_of_ble_eq_true rfl) (Nat.le_of_ble_eq_true rfl)
set_option maxHeartbeats 4000000 in
set_option maxRecDepth 100000 in
theorem cL_sort_x {l : Launch} {D : va_G} {Y : Nat → ClassId} {S : GS} {hs : Nat} {a0 o : Nat} {x1 : Int32} {x2 : Int32} {x : Nat} (hfl : l.stackTraces = false) (h : f_X4_sort S a0 x1 x2 = some (.inr x)) {i : Nat} {yl : ClassId} {c0 : Value} (hT : gT S a0 = 5) (hi : ([1, 2, 3, 4] : List Nat)[i]? = some x) : lMet l yL_sort (lWs yL_sort cL_sort 5 [(0, 10, 13, 13), (0, 10, 17, 15), (0, 10, 21, 71), (0, 10, 25, 17)]) rmLx_sort [va_rf (some a0), .int x1, .int x2, va_rf (some o)] D Y S hs .long yl o c0 (nI (i + 1)) c0 S hs := by
  refine l_ofW (by decide +kernel) ⟨(Nat.le_of_ble_eq_true rfl), (List.forall_mem_cons.mpr ⟨rf_cat _, (List.forall_mem_cons.mpr ⟨rfl, (List.forall_mem_cons.mpr ⟨rfl, (List.forall_mem_cons.mpr ⟨rf_cat _, (fun _ h => absurd h List.not_mem_nil)⟩)⟩)⟩)⟩)⟩ ?_
  intro p e s m args below meth c ls hsz htab hF hNc hAr hO hT0 hM hl
  have hl : lv_has ls 5 [(0, va_rf (some a0)), (1, .int x1), (2, .int x2), (3, va_rf (some o))] := by rw [g_args [va_rf (some a0), .int x1, .int x2, va_rf (some o)] 0 (List.forall_mem_cons.mpr ⟨rf_cat _, (List.forall_mem_cons.mpr ⟨rfl, (List.forall_mem_cons.mpr ⟨rfl, (List.forall_mem_cons.mpr ⟨rf_cat _, (fun _ h => absurd h List.not_mem_nil)⟩)⟩)⟩)⟩)] at hl; exact hl
  have hF : gF p s m args meth c RL cL_sort 5 (some .int) D Y (gA S hs) := hF
  have hx := hF.1
  have hb := hF.2.1
  rcases i with _ | _ | _ | _ | i
  · have hx9 := Option.some.inj hi
    subst hx9
    refine g_aload_n hx hb dL_sort_0 rfl (lv_at hl 3 rfl) ?_
    refine lv_iconst (v := 0) hx hb dL_sort_1 (by decide) ?_
    refine g_aload_n hx hb dL_sort_2 rfl (lv_at hl 0 rfl) ?_
    refine lv_iload_n hx hb dL_sort_3 rfl (lv_at hl 1 rfl) ?_
    refine lv_iload_n hx hb dL_sort_4 rfl (lv_at hl 2 rfl) ?_
    refine l_callX (pre := []) (x0 := ⟨0, 10, 13, 13⟩) (suf := [⟨0, 10, 17, 15⟩, ⟨0, 10, 21, 71⟩, ⟨0, 10, 25, 17⟩]) (As := [.int x1, .int x2]) (rest := [.int 0, va_rf (some o)]) hF hNc hM htab (cx_X4_sort hfl h) k_X4_sort u883 u884 u885 rfl rfl hT rfl hl.1 rfl (Nat.le_of_ble_eq_true rfl) dL_sort_5 ⟨(Nat.le_of_ble_eq_true rfl), (Nat.le_of_ble_eq_true rfl)⟩ ⟨(Nat.le_of_ble_eq_true rfl), (Nat.le_of_ble_eq_true rfl)⟩ rfl (by decide) (by decide) (by decide) (fun _ h => absurd h List.not_mem_nil) u407 (fun q H locs h1 h2 h5 => ?_)
    refine g_astore (i := 4) (lv' := [(0, va_rf (some a0)), (1, .int x1), (2, .int x2), (3, va_rf (some o))]) hx hb dL_sort_13 hl (by decide) (fun v => rfl) (fun ls hl => ?_)
    refine lv_iconst (v := nI (0 + 1)) hx hb dL_sort_15 (by decide) ?_
    exact l_endX hF hsz rfl hO hT0 h1 h2 h5 dL_sort_16 (Nat.le_of_ble_eq_true rfl) (Nat.le_of_ble_eq_true rfl)
  · have hx9 := Option.some.inj hi
    subst hx9
    refine g_aload_n hx hb dL_sort_0 rfl (lv_at hl 3 rfl) ?_
    refine lv_iconst (v := 0) hx hb dL_sort_1 (by decide) ?_
    refine g_aload_n hx hb dL_sort_2 rfl (lv_at hl 0 rfl) ?_
    refine lv_iload_n hx hb dL_sort_3 rfl (lv_at hl 1 rfl) ?_
    refine lv_iload_n hx hb dL_sort_4 rfl (lv_at hl 2 rfl) ?_
    refine l_callX (pre := [⟨0, 10, 13, 13⟩]) (x0 := ⟨0, 10, 17, 15⟩) (suf := [⟨0, 10, 21, 71⟩, ⟨0, 10, 25, 17⟩]) (As := [.int x1, .int x2]) (rest := [.int 0, va_rf (some o)]) hF hNc hM htab (cx_X4_sort hfl h) k_X4_sort u883 u884 u885 rfl rfl hT rfl hl.1 rfl (Nat.le_of_ble_eq_true rfl) dL_sort_5 ⟨(Nat.le_of_ble_eq_true rfl), (Nat.le_of_ble_eq_true rfl)⟩ ⟨(Nat.le_of_ble_eq_true rfl), (Nat.le_of_ble_eq_true rfl)⟩ rfl (by decide) (by decide) (by decide) (List.forall_mem_cons.mpr ⟨⟨by decide, 1, by decide, u407⟩, (fun _ h => absurd h List.not_mem_nil)⟩) u487 (fun q H locs h1 h2 h5 => ?_)
    refine g_astore (i := 4) (lv' := [(0, va_rf (some a0)), (1, .int x1), (2, .int x2), (3, va_rf (some o))]) hx hb dL_sort_17 hl (by decide) (fun v => rfl) (fun ls hl => ?_)
    refine lv_iconst (v := nI (1 + 1)) hx hb dL_sort_19 (by decide) ?_
    exact l_endX hF hsz rfl hO hT0 h1 h2 h5 dL_sort_20 (Nat.le_of_ble_eq_true rfl) (Nat.le_of_ble_eq_true rfl)
  · have hx9 := Option.some.inj hi
    subst hx9
    refine g_aload_n hx hb dL_sort_0 rfl (lv_at hl 3 rfl) ?_
    refine lv_iconst (v := 0) hx hb dL_sort_1 (by decide) ?_
    refine g_aload_n hx hb dL_sort_2 rfl (lv_at hl 0 rfl) ?_
    refine lv_iload_n hx hb dL_sort_3 rfl (lv_at hl 1 rfl) ?_
    refine lv_iload_n hx hb dL_sort_4 rfl (lv_at hl 2 rfl) ?_
    refine l_callX (pre := [⟨0, 10, 13, 13⟩, ⟨0, 10, 17, 15⟩]) (x0 := ⟨0, 10, 21, 71⟩) (suf := [⟨0, 10, 25, 17⟩]) (As := [.int x1, .int x2]) (rest := [.int 0, va_rf (some o)]) hF hNc hM htab (cx_X4_sort hfl h) k_X4_sort u883 u884 u885 rfl rfl hT rfl hl.1 rfl (Nat.le_of_ble_eq_true rfl) dL_sort_5 ⟨(Nat.le_of_ble_eq_true rfl), (Nat.le_of_ble_eq_true rfl)⟩ ⟨(Nat.le_of_ble_eq_true rfl), (Nat.le_of_ble_eq_true rfl)⟩ rfl (by decide) (by decide) (by decide) (List.forall_mem_cons.mpr ⟨⟨by decide, 1, by decide, u407⟩, (List.forall_mem_cons.mpr ⟨⟨by decide, 2, by decide, u487⟩, (fun _ h => absurd h List.not_mem_nil)⟩)⟩) u726 (fun q H locs h1 h2 h5 => ?_)
    refine g_astore (i := 4) (lv' := [(0, va_rf (some a0)), (1, .int x1), (2, .int x2), (3, va_rf (some o))]) hx hb dL_sort_21 hl (by decide) (fun v => rfl) (fun ls hl => ?_)
    refine lv_iconst (v := nI (2 + 1)) hx hb dL_sort_23 (by decide) ?_
    exact l_endX hF hsz rfl hO hT0 h1 h2 h5 dL_sort_24 (Nat.le_of_ble_eq_true rfl) (Nat.le_of_ble_eq_true rfl)
  · have hx9 := Option.some.inj hi
    subst hx9
    refine g_aload_n hx hb dL_sort_0 rfl (lv_at hl 3 rfl) ?_
    refine lv_iconst (v := 0) hx hb dL_sort_1 (by decide) ?_
    refine g_aload_n hx hb dL_sort_2 rfl (lv_at hl 0 rfl) ?_
    refine lv_iload_n hx hb dL_sort_3 rfl (lv_at hl 1 rfl) ?_
    refine lv_iload_n hx hb dL_sort_4 rfl (lv_at hl 2 rfl) ?_
    refine l_callX (pre := [⟨0, 10, 13, 13⟩, ⟨0, 10, 17, 15⟩, ⟨0, 10, 21, 71⟩]) (x0 := ⟨0, 10, 25, 17⟩) (suf := []) (As := [.int x1, .int x2]) (rest := [.int 0, va_rf (some o)]) hF hNc hM htab (cx_X4_sort hfl h) k_X4_sort u883 u884 u885 rfl rfl hT rfl hl.1 rfl (Nat.le_of_ble_eq_true rfl) dL_sort_5 ⟨(Nat.le_of_ble_eq_true rfl), (Nat.le_of_ble_eq_true rfl)⟩ ⟨(Nat.le_of_ble_eq_true rfl), (Nat.le_of_ble_eq_true rfl)⟩ rfl (by decide) (by decide) (by decide) (List.forall_mem_cons.mpr ⟨⟨by decide, 1, by decide, u407⟩, (List.forall_mem_cons.mpr ⟨⟨by decide, 2, by decide, u487⟩, (List.forall_mem_cons.mpr ⟨⟨by decide, 3, by decide, u726⟩, (fun _ h => absurd h List.not_mem_nil)⟩)⟩)⟩) u488 (fun q H locs h1 h2 h5 => ?_)
    refine g_astore (i := 4) (lv' := [(0, va_rf (some a0)), (1, .int x1), (2, .int x2), (3, va_rf (some o))]) hx hb dL_sort_25 hl (by decide) (fun v => rfl) (fun ls hl => ?_)
    refine lv_iconst (v := nI (3 + 1)) hx hb dL_sort_27 (by decide) ?_
    exact l_endX hF hsz rfl hO hT0 h1 h2 h5 dL_sort_28 (Nat.le_of_ble_eq_true rfl) (Nat.le_of_ble_eq_true rfl)
  · exact absurd hi (by simp)
abbrev rmL_search : Room := { frames := 4, cells := 0, slots := 0, locals := 88 }
abbrev rmLx_search : Room := { frames := 9, cells := 1, slots := 6, locals := 155 }
theorem kL_search : lKc yL_search cL_search 5 [(0, 10, 13, 13), (0, 10, 17, 15), (0, 10, 21, 73)] 4 := ⟨u890, u62, by decide +kernel, by decide +kernel, by decide +kernel⟩
set_option maxHeartbeats 4000000 in
set_option maxRecDepth 100000 in
theorem cL_search_r {l : Launch} {D : va_G} {Y : Nat → ClassId} {S : GS} {hs : Nat} {a0 o : Nat} {x1 : Int32} {x2 : Int32} {r : Int32} (h : f_X4_search S a0 x1 x2 = some (.inl r)) {yl : ClassId} {c0 : Value} (hT : gT S a0 = 5) : lMet l yL_search (lWs yL_search cL_search 5 [(0, 10, 13, 13), (0, 10, 17, 15), (0, 10, 21, 73)]) rmL_search [va_rf (some a0), .int x1, .int x2, va_rf (some o)] D Y S hs .long yl o c0 0 (.long r.toInt64) S hs := by
  refine l_ofW (by decide +kernel) ⟨(Nat.le_of_ble_eq_true rfl), (List.forall_mem_cons.mpr ⟨rf_cat _, (List.forall_mem_cons.mpr ⟨rfl, (List.forall_mem_cons.mpr ⟨rfl, (List.forall_mem_cons.mpr ⟨rf_cat _, (fun _ h => absurd h List.not_mem_nil)⟩)⟩)⟩)⟩)⟩ ?_
  intro p e s m args below meth c ls hsz htab hF hNc hAr hO hT0 hM hl
  have hl : lv_has ls 5 [(0, va_rf (some a0)), (1, .int x1), (2, .int x2), (3, va_rf (some o))] := by rw [g_args [va_rf (some a0), .int x1, .int x2, va_rf (some o)] 0 (List.forall_mem_cons.mpr ⟨rf_cat _, (List.forall_mem_cons.mpr ⟨rfl, (List.forall_mem_cons.mpr ⟨rfl, (List.forall_mem_cons.mpr ⟨rf_cat _, (fun _ h => absurd h List.not_mem_nil)⟩)⟩)⟩)⟩)] at hl; exact hl
  have hF : gF p s m args meth c RL cL_search 5 (some .int) D Y (gA S hs) := hF
  have hx := hF.1
  have hb := hF.2.1
  refine g_aload_n hx hb dL_search_0 rfl (lv_at hl 3 rfl) ?_
  refine lv_iconst (v := 0) hx hb dL_search_1 (by decide) ?_
  refine g_aload_n hx hb dL_search_2 rfl (lv_at hl 0 rfl) ?_
  refine lv_iload_n hx hb dL_search_3 rfl (lv_at hl 1 rfl) ?_
  refine lv_iload_n hx hb dL_search_4 rfl (lv_at hl 2 rfl) ?_
  refine g_callV (As := [.int x1, .int x2]) (rest := [.int 0, va_rf (some o)]) hF hM (c_X4_search h) k_X4_search u891 u892 u893 rfl rfl hT rfl hl.1 rfl (Nat.le_of_ble_eq_true rfl) dL_search_5 ⟨(Nat.le_of_ble_eq_true rfl), (Nat.le_of_ble_eq_true rfl)⟩ ⟨(Nat.le_of_ble_eq_true rfl), (Nat.le_of_ble_eq_true rfl)⟩ (fun H locs hM => ?_)
  refine lv_i2l hx hb dL_search_8 rfl ?_
  refine l_last hF hsz hM hAr hO hT0 dL_search_9 (fun H locs h1 h2 h3 h4 h5 => ?_)
  refine lv_goto (tgt := 25) hx hb dL_search_10 (by decide) ?_
  refine lv_iconst (v := 0) hx hb dL_search_25 (by decide) ?_
  exact l_end hF rfl h1 h2 h3 h4 h5 dL_search_26 (Nat.le_of_ble_eq_true rfl) (Nat.le_of_ble_eq_true rfl)
set_option maxHeartbeats 4000000 in
set_option maxRecDepth 100000 in
theorem cL_search_x {l : Launch} {D : va_G} {Y : Nat → ClassId} {S : GS} {hs : Nat} {a0 o : Nat} {x1 : Int32} {x2 : Int32} {x : Nat} (hfl : l.stackTraces = false) (h : f_X4_search S a0 x1 x2 = some (.inr x)) {i : Nat} {yl : ClassId} {c0 : Value} (hT : gT S a0 = 5) (hi : ([1, 2, 5] : List Nat)[i]? = some x) : lMet l yL_search (lWs yL_search cL_search 5 [(0, 10, 13, 13), (0, 10, 17, 15), (0, 10, 21, 73)]) rmLx_search [va_rf (some a0), .int x1, .int x2, va_rf (some o)] D Y S hs .long yl o c0 (nI (i + 1)) c0 S hs := by
  refine l_ofW (by decide +kernel) ⟨(Nat.le_of_ble_eq_true rfl), (List.forall_mem_cons.mpr ⟨rf_cat _, (List.forall_mem_cons.mpr ⟨rfl, (List.forall_mem_cons.mpr ⟨rfl, (List.forall_mem_cons.mpr ⟨rf_cat _, (fun _ h => absurd h List.not_mem_nil)⟩)⟩)⟩)⟩)⟩ ?_
  intro p e s m args below meth c ls hsz htab hF hNc hAr hO hT0 hM hl
  have hl : lv_has ls 5 [(0, va_rf (some a0)), (1, .int x1), (2, .int x2), (3, va_rf (some o))] := by rw [g_args [va_rf (some a0), .int x1, .int x2, va_rf (some o)] 0 (List.forall_mem_cons.mpr ⟨rf_cat _, (List.forall_mem_cons.mpr ⟨rfl, (List.forall_mem_cons.mpr ⟨rfl, (List.forall_mem_cons.mpr ⟨rf_cat _, (fun _ h => absurd h List.not_mem_nil)⟩)⟩)⟩)⟩)] at hl; exact hl
  have hF : gF p s m args meth c RL cL_search 5 (some .int) D Y (gA S hs) := hF
  have hx := hF.1
  have hb := hF.2.1
  rcases i with _ | _ | _ | i
  · have hx9 := Option.some.inj hi
    subst hx9
    refine g_aload_n hx hb dL_search_0 rfl (lv_at hl 3 rfl) ?_
    refine lv_iconst (v := 0) hx hb dL_search_1 (by decide) ?_
    refine g_aload_n hx hb dL_search_2 rfl (lv_at hl 0 rfl) ?_
    refine lv_iload_n hx hb dL_search_3 rfl (lv_at hl 1 rfl) ?_
    refine lv_iload_n hx hb dL_search_4 rfl (lv_at hl 2 rfl) ?_
    refine l_callX (pre := []) (x0 := ⟨0, 10, 13, 13⟩) (suf := [⟨0, 10, 17, 15⟩, ⟨0, 10, 21, 73⟩]) (As := [.int x1, .int x2]) (rest := [.int 0, va_rf (some o)]) hF hNc hM htab (cx_X4_search hfl h) k_X4_search u891 u892 u893 rfl rfl hT rfl hl.1 rfl (Nat.le_of_ble_eq_true rfl) dL_search_5 ⟨(Nat.le_of_ble_eq_true rfl), (Nat.le_of_ble_eq_true rfl)⟩ ⟨(Nat.le_of_ble_eq_true rfl), (Nat.le_of_ble_eq_true rfl)⟩ rfl (by decide) (by decide) (by decide) (fun _ h => absurd h List.not_mem_nil) u407 (fun q H locs h1 h2 h5 => ?_)
    refine g_astore (i := 4) (lv' := [(0, va_rf (some a0)), (1, .int x1), (2, .int x2), (3, va_rf (some o))]) hx hb dL_search_13 hl (by decide) (fun v => rfl) (fun ls hl => ?_)
    refine lv_iconst (v := nI (0 + 1)) hx hb dL_search_15 (by decide) ?_
    exact l_endX hF hsz rfl hO hT0 h1 h2 h5 dL_search_16 (Nat.le_of_ble_eq_true rfl) (Nat.le_of_ble_eq_true rfl)
  · have hx9 := Option.some.inj hi
    subst hx9
    refine g_aload_n hx hb dL_search_0 rfl (lv_at hl 3 rfl) ?_
    refine lv_iconst (v := 0) hx hb dL_search_1 (by decide) ?_
    refine g_aload_n hx hb dL_search_2 rfl (lv_at hl 0 rfl) ?_
    refine lv_iload_n hx hb dL_search_3 rfl (lv_at hl 1 rfl) ?_
    refine lv_iload_n hx hb dL_search_4 rfl (lv_at hl 2 rfl) ?_
    refine l_callX (pre := [⟨0, 10, 13, 13⟩]) (x0 := ⟨0, 10, 17, 15⟩) (suf := [⟨0, 10, 21, 73⟩]) (As := [.int x1, .int x2]) (rest := [.int 0, va_rf (some o)]) hF hNc hM htab (cx_X4_search hfl h) k_X4_search u891 u892 u893 rfl rfl hT rfl hl.1 rfl (Nat.le_of_ble_eq_true rfl) dL_search_5 ⟨(Nat.le_of_ble_eq_true rfl), (Nat.le_of_ble_eq_true rfl)⟩ ⟨(Nat.le_of_ble_eq_true rfl), (Nat.le_of_ble_eq_true rfl)⟩ rfl (by decide) (by decide) (by decide) (List.forall_mem_cons.mpr ⟨⟨by decide, 1, by decide, u407⟩, (fun _ h => absurd h List.not_mem_nil)⟩) u487 (fun q H locs h1 h2 h5 => ?_)
    refine g_astore (i := 4) (lv' := [(0, va_rf (some a0)), (1, .int x1), (2, .int x2), (3, va_rf (some o))]) hx hb dL_search_17 hl (by decide) (fun v => rfl) (fun ls hl => ?_)
    refine lv_iconst (v := nI (1 + 1)) hx hb dL_search_19 (by decide) ?_
    exact l_endX hF hsz rfl hO hT0 h1 h2 h5 dL_search_20 (Nat.le_of_ble_eq_true rfl) (Nat.le_of_ble_eq_true rfl)
  · have hx9 := Option.some.inj hi
    subst hx9
    refine g_aload_n hx hb dL_search_0 rfl (lv_at hl 3 rfl) ?_
    refine lv_iconst (v := 0) hx hb dL_search_1 (by decide) ?_
    refine g_aload_n hx hb dL_search_2 rfl (lv_at hl 0 rfl) ?_
    refine lv_iload_n hx hb dL_search_3 rfl (lv_at hl 1 rfl) ?_
    refine lv_iload_n hx hb dL_search_4 rfl (lv_at hl 2 rfl) ?_
    refine l_callX (pre := [⟨0, 10, 13, 13⟩, ⟨0, 10, 17, 15⟩]) (x0 := ⟨0, 10, 21, 73⟩) (suf := []) (As := [.int x1, .int x2]) (rest := [.int 0, va_rf (some o)]) hF hNc hM htab (cx_X4_search hfl h) k_X4_search u891 u892 u893 rfl rfl hT rfl hl.1 rfl (Nat.le_of_ble_eq_true rfl) dL_search_5 ⟨(Nat.le_of_ble_eq_true rfl), (Nat.le_of_ble_eq_true rfl)⟩ ⟨(Nat.le_of_ble_eq_true rfl), (Nat.le_of_ble_eq_true rfl)⟩ rfl (by decide) (by decide) (by decide) (List.forall_mem_cons.mpr ⟨⟨by decide, 1, by decide, u407⟩, (List.forall_mem_cons.mpr ⟨⟨by decide, 2, by decide, u487⟩, (fun _ h => absurd h List.not_mem_nil)⟩)⟩) u727 (fun q H locs h1 h2 h5 => ?_)
    refine g_astore (i := 4) (lv' := [(0, va_rf (some a0)), (1, .int x1), (2, .int x2), (3, va_rf (some o))]) hx hb dL_search_21 hl (by decide) (fun v => rfl) (fun ls hl => ?_)
    refine lv_iconst (v := nI (2 + 1)) hx hb dL_search_23 (by decide) ?_
    exact l_endX hF hsz rfl hO hT0 h1 h2 h5 dL_search_24 (Nat.le_of_ble_eq_true rfl) (Nat.le_of_ble_eq_true rfl)
  · exact absurd hi (by simp)
abbrev rmL_turn : Room := { frames := 4, cells := 0, slots := 0, locals := 91 }
abbrev rmLx_turn : Room := { frames := 9, cells := 1, slots := 6, locals := 154 }
theorem kL_turn : lKc yL_turn cL_turn 4 [(0, 9, 12, 13), (0, 9, 15, 15), (0, 9, 18, 71)] 3 := ⟨u902, u62, by decide +kernel, by decide +kernel, by decide +kernel⟩
set_option maxHeartbeats 4000000 in
set_option maxRecDepth 100000 in
theorem cL_turn_r {l : Launch} {D : va_G} {Y : Nat → ClassId} {S : GS} {hs : Nat} {a0 o : Nat} {x1 : Int32} {r : Int32} {S' : GS} (h : f_X4_turn S a0 x1 = some (.inl (r, S'))) {yl : ClassId} {c0 : Value} (hT : gT S a0 = 5) : lMet l yL_turn (lWs yL_turn cL_turn 4 [(0, 9, 12, 13), (0, 9, 15, 15), (0, 9, 18, 71)]) rmL_turn [va_rf (some a0), .int x1, va_rf (some o)] D Y S hs .long yl o c0 0 (.long r.toInt64) S' hs := by
  refine l_ofW (by decide +kernel) ⟨(Nat.le_of_ble_eq_true rfl), (List.forall_mem_cons.mpr ⟨rf_cat _, (List.forall_mem_cons.mpr ⟨rfl, (List.forall_mem_cons.mpr ⟨rf_cat _, (fun _ h => absurd h List.not_mem_nil)⟩)⟩)⟩)⟩ ?_
  intro p e s m args below meth c ls hsz htab hF hNc hAr hO hT0 hM hl
  have hl : lv_has ls 4 [(0, va_rf (some a0)), (1, .int x1), (2, va_rf (some o))] := by rw [g_args [va_rf (some a0), .int x1, va_rf (some o)] 0 (List.forall_mem_cons.mpr ⟨rf_cat _, (List.forall_mem_cons.mpr ⟨rfl, (List.forall_mem_cons.mpr ⟨rf_cat _, (fun _ h => absurd h List.not_mem_nil)⟩)⟩)⟩)] at hl; exact hl
  have hF : gF p s m args meth c RL cL_turn 4 (some .int) D Y (gA S hs) := hF
  have hx := hF.1
  have hb := hF.2.1
  refine g_aload_n hx hb dL_turn_0 rfl (lv_at hl 2 rfl) ?_
  refine lv_iconst (v := 0) hx hb dL_turn_1 (by decide) ?_
  refine g_aload_n hx hb dL_turn_2 rfl (lv_at hl 0 rfl) ?_
  refine lv_iload_n hx hb dL_turn_3 rfl (lv_at hl 1 rfl) ?_
  refine g_callV (As := [.int x1]) (rest := [.int 0, va_rf (some o)]) hF hM (c_X4_turn h) k_X4_turn u903 u904 u905 rfl rfl hT rfl hl.1 rfl (Nat.le_of_ble_eq_true rfl) dL_turn_4 ⟨(Nat.le_of_ble_eq_true rfl), (Nat.le_of_ble_eq_true rfl)⟩ ⟨(Nat.le_of_ble_eq_true rfl), (Nat.le_of_ble_eq_true rfl)⟩ (fun H locs hM => ?_)
  refine lv_i2l hx hb dL_turn_7 rfl ?_
  refine l_last hF hsz hM hAr hO hT0 dL_turn_8 (fun H locs h1 h2 h3 h4 h5 => ?_)
  refine lv_goto (tgt := 21) hx hb dL_turn_9 (by decide) ?_
  refine lv_iconst (v := 0) hx hb dL_turn_21 (by decide) ?_
  exact l_end hF rfl h1 h2 h3 h4 h5 dL_turn_22 (Nat.le_of_ble_eq_true rfl) (Nat.le_of_ble_eq_true rfl)
set_option maxHeartbeats 4000000 in
set_option maxRecDepth 100000 in
theorem cL_turn_x {l : Launch} {D : va_G} {Y : Nat → ClassId} {S : GS} {hs : Nat} {a0 o : Nat} {x1 : Int32} {x : Nat} (hfl : l.stackTraces = false) (h : f_X4_turn S a0 x1 = some (.inr x)) {i : Nat} {yl : ClassId} {c0 : Value} (hT : gT S a0 = 5) (hi : ([1, 2, 3] : List Nat)[i]? = some x) : lMet l yL_turn (lWs yL_turn cL_turn 4 [(0, 9, 12, 13), (0, 9, 15, 15), (0, 9, 18, 71)]) rmLx_turn [va_rf (some a0), .int x1, va_rf (some o)] D Y S hs .long yl o c0 (nI (i + 1)) c0 S hs := by
  refine l_ofW (by decide +kernel) ⟨(Nat.le_of_ble_eq_true rfl), (List.forall_mem_cons.mpr ⟨rf_cat _, (List.forall_mem_cons.mpr ⟨rfl, (List.forall_mem_cons.mpr ⟨rf_cat _, (fun _ h => absurd h List.not_mem_nil)⟩)⟩)⟩)⟩ ?_
  intro p e s m args below meth c ls hsz htab hF hNc hAr hO hT0 hM hl
  have hl : lv_has ls 4 [(0, va_rf (some a0)), (1, .int x1), (2, va_rf (some o))] := by rw [g_args [va_rf (some a0), .int x1, va_rf (some o)] 0 (List.forall_mem_cons.mpr ⟨rf_cat _, (List.forall_mem_cons.mpr ⟨rfl, (List.forall_mem_cons.mpr ⟨rf_cat _, (fun _ h => absurd h List.not_mem_nil)⟩)⟩)⟩)] at hl; exact hl
  have hF : gF p s m args meth c RL cL_turn 4 (some .int) D Y (gA S hs) := hF
  have hx := hF.1
  have hb := hF.2.1
  rcases i with _ | _ | _ | i
  · have hx9 := Option.some.inj hi
    subst hx9
    refine g_aload_n hx hb dL_turn_0 rfl (lv_at hl 2 rfl) ?_
    refine lv_iconst (v := 0) hx hb dL_turn_1 (by decide) ?_
    refine g_aload_n hx hb dL_turn_2 rfl (lv_at hl 0 rfl) ?_
    refine lv_iload_n hx hb dL_turn_3 rfl (lv_at hl 1 rfl) ?_
    refine l_callX (pre := []) (x0 := ⟨0, 9, 12, 13⟩) (suf := [⟨0, 9, 15, 15⟩, ⟨0, 9, 18, 71⟩]) (As := [.int x1]) (rest := [.int 0, va_rf (some o)]) hF hNc hM htab (cx_X4_turn hfl h) k_X4_turn u903 u904 u905 rfl rfl hT rfl hl.1 rfl (Nat.le_of_ble_eq_true rfl) dL_turn_4 ⟨(Nat.le_of_ble_eq_true rfl), (Nat.le_of_ble_eq_true rfl)⟩ ⟨(Nat.le_of_ble_eq_true rfl), (Nat.le_of_ble_eq_true rfl)⟩ rfl (by decide) (by decide) (by decide) (fun _ h => absurd h List.not_mem_nil) u407 (fun q H locs h1 h2 h5 => ?_)
    refine g_astore_n (i := 3) (lv' := [(0, va_rf (some a0)), (1, .int x1), (2, va_rf (some o))]) hx hb dL_turn_12 rfl hl (by decide) (fun v => rfl) (fun ls hl => ?_)
    refine lv_iconst (v := nI (0 + 1)) hx hb dL_turn_13 (by decide) ?_
    exact l_endX hF hsz rfl hO hT0 h1 h2 h5 dL_turn_14 (Nat.le_of_ble_eq_true rfl) (Nat.le_of_ble_eq_true rfl)
  · have hx9 := Option.some.inj hi
    subst hx9
    refine g_aload_n hx hb dL_turn_0 rfl (lv_at hl 2 rfl) ?_
    refine lv_iconst (v := 0) hx hb dL_turn_1 (by decide) ?_
    refine g_aload_n hx hb dL_turn_2 rfl (lv_at hl 0 rfl) ?_
    refine lv_iload_n hx hb dL_turn_3 rfl (lv_at hl 1 rfl) ?_
    refine l_callX (pre := [⟨0, 9, 12, 13⟩]) (x0 := ⟨0, 9, 15, 15⟩) (suf := [⟨0, 9, 18, 71⟩]) (As := [.int x1]) (rest := [.int 0, va_rf (some o)]) hF hNc hM htab (cx_X4_turn hfl h) k_X4_turn u903 u904 u905 rfl rfl hT rfl hl.1 rfl (Nat.le_of_ble_eq_true rfl) dL_turn_4 ⟨(Nat.le_of_ble_eq_true rfl), (Nat.le_of_ble_eq_true rfl)⟩ ⟨(Nat.le_of_ble_eq_true rfl), (Nat.le_of_ble_eq_true rfl)⟩ rfl (by decide) (by decide) (by decide) (List.forall_mem_cons.mpr ⟨⟨by decide, 1, by decide, u407⟩, (fun _ h => absurd h List.not_mem_nil)⟩) u487 (fun q H locs h1 h2 h5 => ?_)
    refine g_astore_n (i := 3) (lv' := [(0, va_rf (some a0)), (1, .int x1), (2, va_rf (some o))]) hx hb dL_turn_15 rfl hl (by decide) (fun v => rfl) (fun ls hl => ?_)
    refine lv_iconst (v := nI (1 + 1)) hx hb dL_turn_16 (by decide) ?_
    exact l_endX hF hsz rfl hO hT0 h1 h2 h5 dL_turn_17 (Nat.le_of_ble_eq_true rfl) (Nat.le_of_ble_eq_true rfl)
  · have hx9 := Option.some.inj hi
    subst hx9
    refine g_aload_n hx hb dL_turn_0 rfl (lv_at hl 2 rfl) ?_
    refine lv_iconst (v := 0) hx hb dL_turn_1 (by decide) ?_
    refine g_aload_n hx hb dL_turn_2 rfl (lv_at hl 0 rfl) ?_
    refine lv_iload_n hx hb dL_turn_3 rfl (lv_at hl 1 rfl) ?_
    refine l_callX (pre := [⟨0, 9, 12, 13⟩, ⟨0, 9, 15, 15⟩]) (x0 := ⟨0, 9, 18, 71⟩) (suf := []) (As := [.int x1]) (rest := [.int 0, va_rf (some o)]) hF hNc hM htab (cx_X4_turn hfl h) k_X4_turn u903 u904 u905 rfl rfl hT rfl hl.1 rfl (Nat.le_of_ble_eq_true rfl) dL_turn_4 ⟨(Nat.le_of_ble_eq_true rfl), (Nat.le_of_ble_eq_true rfl)⟩ ⟨(Nat.le_of_ble_eq_true rfl), (Nat.le_of_ble_eq_true rfl)⟩ rfl (by decide) (by decide) (by decide) (List.forall_mem_cons.mpr ⟨⟨by decide, 1, by decide, u407⟩, (List.forall_mem_cons.mpr ⟨⟨by decide, 2, by decide, u487⟩, (fun _ h => absurd h List.not_mem_nil)⟩)⟩) u726 (fun q H locs h1 h2 h5 => ?_)
    refine g_astore_n (i := 3) (lv' := [(0, va_rf (some a0)), (1, .int x1), (2, va_rf (some o))]) hx hb dL_turn_18 rfl hl (by decide) (fun v => rfl) (fun ls hl => ?_)
    refine lv_iconst (v := nI (2 + 1)) hx hb dL_turn_19 (by decide) ?_
    exact l_endX hF hsz rfl hO hT0 h1 h2 h5 dL_turn_20 (Nat.le_of_ble_eq_true rfl) (Nat.le_of_ble_eq_true rfl)
  · exact absurd hi (by simp)
abbrev rmL_swap : Room := { frames := 3, cells := 0, slots := 0, locals := 71 }
abbrev rmLx_swap : Room := { frames := 9, cells := 1, slots := 6, locals := 157 }
theorem kL_swap : lKc yL_swap cL_swap 6 [(0, 12, 15, 13), (0, 12, 19, 15), (0, 12, 23, 71), (0, 12, 27, 17)] 5 := ⟨u910, u62, by decide +kernel, by decide +kernel, by decide +kernel⟩
set_option maxHeartbeats 4000000 in
set_option maxRecDepth 100000 in
theorem cL_swap_r {l : Launch} {D : va_G} {Y : Nat → ClassId} {S : GS} {hs : Nat} {a0 o : Nat} {x1 : Int32} {x2 : Int32} {x3 : Int32} {r : Int32} {S' : GS} (h : f_X4_swap S a0 x1 x2 x3 = some (.inl (r, S'))) {yl : ClassId} {c0 : Value} (hT : gT S a0 = 5) : lMet l yL_swap (lWs yL_swap cL_swap 6 [(0, 12, 15, 13), (0, 12, 19, 15), (0, 12, 23, 71), (0, 12, 27, 17)]) rmL_swap [va_rf (some a0), .int x1, .int x2, .int x3, va_rf (some o)] D Y S hs .long yl o c0 0 (.long r.toInt64) S' hs := by
  refine l_ofW (by decide +kernel) ⟨(Nat.le_of_ble_eq_true rfl), (List.forall_mem_cons.mpr ⟨rf_cat _, (List.forall_mem_cons.mpr ⟨rfl, (List.forall_mem_cons.mpr ⟨rfl, (List.forall_mem_cons.mpr ⟨rfl, (List.forall_mem_cons.mpr ⟨rf_cat _, (fun _ h => absurd h List.not_mem_nil)⟩)⟩)⟩)⟩)⟩)⟩ ?_
  intro p e s m args below meth c ls hsz htab hF hNc hAr hO hT0 hM hl
  have hl : lv_has ls 6 [(0, va_rf (some a0)), (1, .int x1), (2, .int x2), (3, .int x3), (4, va_rf (some o))] := by rw [g_args [va_rf (some a0), .int x1, .int x2, .int x3, va_rf (some o)] 0 (List.forall_mem_cons.mpr ⟨rf_cat _, (List.forall_mem_cons.mpr ⟨rfl, (List.forall_mem_cons.mpr ⟨rfl, (List.forall_mem_cons.mpr ⟨rfl, (List.forall_mem_cons.mpr ⟨rf_cat _, (fun _ h => absurd h List.not_mem_nil)⟩)⟩)⟩)⟩)⟩)] at hl; exact hl
  have hF : gF p s m args meth c RL cL_swap 6 (some .int) D Y (gA S hs) := hF
  have hx := hF.1
  have hb := hF.2.1
  refine g_aload hx hb dL_swap_0 (lv_at hl 4 rfl) ?_
  refine lv_iconst (v := 0) hx hb dL_swap_2 (by decide) ?_
  refine g_aload_n hx hb dL_swap_3 rfl (lv_at hl 0 rfl) ?_
  refine lv_iload_n hx hb dL_swap_4 rfl (lv_at hl 1 rfl) ?_
  refine lv_iload_n hx hb dL_swap_5 rfl (lv_at hl 2 rfl) ?_
  refine lv_iload_n hx hb dL_swap_6 rfl (lv_at hl 3 rfl) ?_
  refine g_callV (As := [.int x1, .int x2, .int x3]) (rest := [.int 0, va_rf (some o)]) hF hM (c_X4_swap h) k_X4_swap u911 u912 u913 rfl rfl hT rfl hl.1 rfl (Nat.le_of_ble_eq_true rfl) dL_swap_7 ⟨(Nat.le_of_ble_eq_true rfl), (Nat.le_of_ble_eq_true rfl)⟩ ⟨(Nat.le_of_ble_eq_true rfl), (Nat.le_of_ble_eq_true rfl)⟩ (fun H locs hM => ?_)
  refine lv_i2l hx hb dL_swap_10 rfl ?_
  refine l_last hF hsz hM hAr hO hT0 dL_swap_11 (fun H locs h1 h2 h3 h4 h5 => ?_)
  refine lv_goto (tgt := 31) hx hb dL_swap_12 (by decide) ?_
  refine lv_iconst (v := 0) hx hb dL_swap_31 (by decide) ?_
  exact l_end hF rfl h1 h2 h3 h4 h5 dL_swap_32 (Nat.le_of_ble_eq_true rfl) (Nat.le_of_ble_eq_true rfl)
set_option maxHeartbeats 4000000 in
set_option maxRecDepth 100000 in
theorem cL_swap_x {l : Launch} {D : va_G} {Y : Nat → ClassId} {S : GS} {hs : Nat} {a0 o : Nat} {x1 : Int32} {x2 : Int32} {x3 : Int32} {x : Nat} (hfl : l.stackTraces = false) (h : f_X4_swap S a0 x1 x2 x3 = some (.inr x)) {i : Nat} {yl : ClassId} {c0 : Value} (hT : gT S a0 = 5) (hi : ([1, 2, 3, 4] : List Nat)[i]? = some x) : lMet l yL_swap (lWs yL_swap cL_swap 6 [(0, 12, 15, 13), (0, 12, 19, 15), (0, 12, 23, 71), (0, 12, 27, 17)]) rmLx_swap [va_rf (some a0), .int x1, .int x2, .int x3, va_rf (some o)] D Y S hs .long yl o c0 (nI (i + 1)) c0 S hs := by
  refine l_ofW (by decide +kernel) ⟨(Nat.le_of_ble_eq_true rfl), (List.forall_mem_cons.mpr ⟨rf_cat _, (List.forall_mem_cons.mpr ⟨rfl, (List.forall_mem_cons.mpr ⟨rfl, (List.forall_mem_cons.mpr ⟨rfl, (List.forall_mem_cons.mpr ⟨rf_cat _, (fun _ h => absurd h List.not_mem_nil)⟩)⟩)⟩)⟩)⟩)⟩ ?_
  intro p e s m args below meth c ls hsz htab hF hNc hAr hO hT0 hM hl
  have hl : lv_has ls 6 [(0, va_rf (some a0)), (1, .int x1), (2, .int x2), (3, .int x3), (4, va_rf (some o))] := by rw [g_args [va_rf (some a0), .int x1, .int x2, .int x3, va_rf (some o)] 0 (List.forall_mem_cons.mpr ⟨rf_cat _, (List.forall_mem_cons.mpr ⟨rfl, (List.forall_mem_cons.mpr ⟨rfl, (List.forall_mem_cons.mpr ⟨rfl, (List.forall_mem_cons.mpr ⟨rf_cat _, (fun _ h => absurd h List.not_mem_nil)⟩)⟩)⟩)⟩)⟩)] at hl; exact hl
  have hF : gF p s m args meth c RL cL_swap 6 (some .int) D Y (gA S hs) := hF
  have hx := hF.1
  have hb := hF.2.1
  rcases i with _ | _ | _ | _ | i
  · have hx9 := Option.some.inj hi
    subst hx9
    refine g_aload hx hb dL_swap_0 (lv_at hl 4 rfl) ?_
    refine lv_iconst (v := 0) hx hb dL_swap_2 (by decide) ?_
    refine g_aload_n hx hb dL_swap_3 rfl (lv_at hl 0 rfl) ?_
    refine lv_iload_n hx hb dL_swap_4 rfl (lv_at hl 1 rfl) ?_
    refine lv_iload_n hx hb dL_swap_5 rfl (lv_at hl 2 rfl) ?_
    refine lv_iload_n hx hb dL_swap_6 rfl (lv_at hl 3 rfl) ?_
    refine l_callX (pre := []) (x0 := ⟨0, 12, 15, 13⟩) (suf := [⟨0, 12, 19, 15⟩, ⟨0, 12, 23, 71⟩, ⟨0, 12, 27, 17⟩]) (As := [.int x1, .int x2, .int x3]) (rest := [.int 0, va_rf (some o)]) hF hNc hM htab (cx_X4_swap hfl h) k_X4_swap u911 u912 u913 rfl rfl hT rfl hl.1 rfl (Nat.le_of_ble_eq_true rfl) dL_swap_7 ⟨(Nat.le_of_ble_eq_true rfl), (Nat.le_of_ble_eq_true rfl)⟩ ⟨(Nat.le_of_ble_eq_true rfl), (Nat.le_of_ble_eq_true rfl)⟩ rfl (by decide) (by decide) (by decide) (fun _ h => absurd h List.not_mem_nil) u407 (fun q H locs h1 h2 h5 => ?_)
    refine g_astore (i := 5) (lv' := [(0, va_rf (some a0)), (1, .int x1), (2, .int x2), (3, .int x3), (4, va_rf (some o))]) hx hb dL_swap_15 hl (by decide) (fun v => rfl) (fun ls hl => ?_)
    refine lv_iconst (v := nI (0 + 1)) hx hb dL_swap_17 (by decide) ?_
    exact l_endX hF hsz rfl hO hT0 h1 h2 h5 dL_swap_18 (Nat.le_of_ble_eq_true rfl) (Nat.le_of_ble_eq_true rfl)
  · have hx9 := Option.some.inj hi
    subst hx9
    refine g_aload hx hb dL_swap_0 (lv_at hl 4 rfl) ?_
    refine lv_iconst (v := 0) hx hb dL_swap_2 (by decide) ?_
    refine g_aload_n hx hb dL_swap_3 rfl (lv_at hl 0 rfl) ?_
    refine lv_iload_n hx hb dL_swap_4 rfl (lv_at hl 1 rfl) ?_
    refine lv_iload_n hx hb dL_swap_5 rfl (lv_at hl 2 rfl) ?_
    refine lv_iload_n hx hb dL_swap_6 rfl (lv_at hl 3 rfl) ?_
    refine l_callX (pre := [⟨0, 12, 15, 13⟩]) (x0 := ⟨0, 12, 19, 15⟩) (suf := [⟨0, 12, 23, 71⟩, ⟨0, 12, 27, 17⟩]) (As := [.int x1, .int x2, .int x3]) (rest := [.int 0, va_rf (some o)]) hF hNc hM htab (cx_X4_swap hfl h) k_X4_swap u911 u912 u913 rfl rfl hT rfl hl.1 rfl (Nat.le_of_ble_eq_true rfl) dL_swap_7 ⟨(Nat.le_of_ble_eq_true rfl), (Nat.le_of_ble_eq_true rfl)⟩ ⟨(Nat.le_of_ble_eq_true rfl), (Nat.le_of_ble_eq_true rfl)⟩ rfl (by decide) (by decide) (by decide) (List.forall_mem_cons.mpr ⟨⟨by decide, 1, by decide, u407⟩, (fun _ h => absurd h List.not_mem_nil)⟩) u487 (fun q H locs h1 h2 h5 => ?_)
    refine g_astore (i := 5) (lv' := [(0, va_rf (some a0)), (1, .int x1), (2, .int x2), (3, .int x3), (4, va_rf (some o))]) hx hb dL_swap_19 hl (by decide) (fun v => rfl) (fun ls hl => ?_)
    refine lv_iconst (v := nI (1 + 1)) hx hb dL_swap_21 (by decide) ?_
    exact l_endX hF hsz rfl hO hT0 h1 h2 h5 dL_swap_22 (Nat.le_of_ble_eq_true rfl) (Nat.le_of_ble_eq_true rfl)
  · have hx9 := Option.some.inj hi
    subst hx9
    refine g_aload hx hb dL_swap_0 (lv_at hl 4 rfl) ?_
    refine lv_iconst (v := 0) hx hb dL_swap_2 (by decide) ?_
    refine g_aload_n hx hb dL_swap_3 rfl (lv_at hl 0 rfl) ?_
    refine lv_iload_n hx hb dL_swap_4 rfl (lv_at hl 1 rfl) ?_
    refine lv_iload_n hx hb dL_swap_5 rfl (lv_at hl 2 rfl) ?_
    refine lv_iload_n hx hb dL_swap_6 rfl (lv_at hl 3 rfl) ?_
    refine l_callX (pre := [⟨0, 12, 15, 13⟩, ⟨0, 12, 19, 15⟩]) (x0 := ⟨0, 12, 23, 71⟩) (suf := [⟨0, 12, 27, 17⟩]) (As := [.int x1, .int x2, .int x3]) (rest := [.int 0, va_rf (some o)]) hF hNc hM htab (cx_X4_swap hfl h) k_X4_swap u911 u912 u913 rfl rfl hT rfl hl.1 rfl (Nat.le_of_ble_eq_true rfl) dL_swap_7 ⟨(Nat.le_of_ble_eq_true rfl), (Nat.le_of_ble_eq_true rfl)⟩ ⟨(Nat.le_of_ble_eq_true rfl), (Nat.le_of_ble_eq_true rfl)⟩ rfl (by decide) (by decide) (by decide) (List.forall_mem_cons.mpr ⟨⟨by decide, 1, by decide, u407⟩, (List.forall_mem_cons.mpr ⟨⟨by decide, 2, by decide, u487⟩, (fun _ h => absurd h List.not_mem_nil)⟩)⟩) u726 (fun q H locs h1 h2 h5 => ?_)
    refine g_astore (i := 5) (lv' := [(0, va_rf (some a0)), (1, .int x1), (2, .int x2), (3, .int x3), (4, va_rf (some o))]) hx hb dL_swap_23 hl (by decide) (fun v => rfl) (fun ls hl => ?_)
    refine lv_iconst (v := nI (2 + 1)) hx hb dL_swap_25 (by decide) ?_
    exact l_endX hF hsz rfl hO hT0 h1 h2 h5 dL_swap_26 (Nat.le_of_ble_eq_true rfl) (Nat.le_of_ble_eq_true rfl)
  · have hx9 := Option.some.inj hi
    subst hx9
    refine g_aload hx hb dL_swap_0 (lv_at hl 4 rfl) ?_
    refine lv_iconst (v := 0) hx hb dL_swap_2 (by decide) ?_
    refine g_aload_n hx hb dL_swap_3 rfl (lv_at hl 0 rfl) ?_
    refine lv_iload_n hx hb dL_swap_4 rfl (lv_at hl 1 rfl) ?_
    refine lv_iload_n hx hb dL_swap_5 rfl (lv_at hl 2 rfl) ?_
    refine lv_iload_n hx hb dL_swap_6 rfl (lv_at hl 3 rfl) ?_
    refine l_callX (pre := [⟨0, 12, 15, 13⟩, ⟨0, 12, 19, 15⟩, ⟨0, 12, 23, 71⟩]) (x0 := ⟨0, 12, 27, 17⟩) (suf := []) (As := [.int x1, .int x2, .int x3]) (rest := [.int 0, va_rf (some o)]) hF hNc hM htab (cx_X4_swap hfl h) k_X4_swap u911 u912 u913 rfl rfl hT rfl hl.1 rfl (Nat.le_of_ble_eq_true rfl) dL_swap_7 ⟨(Nat.le_of_ble_eq_true rfl), (Nat.le_of_ble_eq_true rfl)⟩ ⟨(Nat.le_of_ble_eq_true rfl), (Nat.le_of_ble_eq_true rfl)⟩ rfl (by decide) (by decide) (by decide) (List.forall_mem_cons.mpr ⟨⟨by decide, 1, by decide, u407⟩, (List.forall_mem_cons.mpr ⟨⟨by decide, 2, by decide, u487⟩, (List.forall_mem_cons.mpr ⟨⟨by decide, 3, by decide, u726⟩, (fun _ h => absurd h List.not_mem_nil)⟩)⟩)⟩) u488 (fun q H locs h1 h2 h5 => ?_)
    refine g_astore (i := 5) (lv' := [(0, va_rf (some a0)), (1, .int x1), (2, .int x2), (3, .int x3), (4, va_rf (some o))]) hx hb dL_swap_27 hl (by decide) (fun v => rfl) (fun ls hl => ?_)
    refine lv_iconst (v := nI (3 + 1)) hx hb dL_swap_29 (by decide) ?_
    exact l_endX hF hsz rfl hO hT0 h1 h2 h5 dL_swap_30 (Nat.le_of_ble_eq_true rfl) (Nat.le_of_ble_eq_true rfl)
  · exact absurd hi (by simp)
abbrev rmL_rotate : Room := { frames := 5, cells := 0, slots := 0, locals := 117 }
abbrev rmLx_rotate : Room := { frames := 9, cells := 1, slots := 6, locals := 156 }
theorem kL_rotate : lKc yL_rotate cL_rotate 5 [(0, 10, 13, 13), (0, 10, 17, 15), (0, 10, 21, 71), (0, 10, 25, 17)] 4 := ⟨u918, u62, by decide +kernel, by decide +kernel, by decide +kernel⟩
set_option maxHeartbeats 4000000 in
set_option maxRecDepth 100000 in
theorem cL_rotate_r {l : Launch} {D : va_G} {Y : Nat → ClassId} {S : GS} {hs : Nat} {a0 o : Nat} {x1 : Int32} {x2 : Int32} {r : Int32} {S' : GS} (h : f_X4_rotate S a0 x1 x2 = some (.inl (r, S'))) {yl : ClassId} {c0 : Value} (hT : gT S a0 = 5) : lMet l yL_rotate (lWs yL_rotate cL_rotate 5 [(0, 10, 13, 13), (0, 10, 17, 15), (0, 10, 21, 71), (0, 10, 25, 17)]) rmL_rotate [va_rf (some a0), .int x1, .int x2, va_rf (some o)] D Y S hs .long yl o c0 0 (.long r.toInt64) S' hs := by
  refine l_ofW (by decide +kernel) ⟨(Nat.le_of_ble_eq_true rfl), (List.forall_mem_cons.mpr ⟨rf_cat _, (List.forall_mem_cons.mpr ⟨rfl, (List.forall_mem_cons.mpr ⟨rfl, (List.forall_mem_cons.mpr ⟨rf_cat _, (fun _ h => absurd h List.not_mem_nil)⟩)⟩)⟩)⟩)⟩ ?_
  intro p e s m args below meth c ls hsz htab hF hNc hAr hO hT0 hM hl
  have hl : lv_has ls 5 [(0, va_rf (some a0)), (1, .int x1), (2, .int x2), (3, va_rf (some o))] := by rw [g_args [va_rf (some a0), .int x1, .int x2, va_rf (some o)] 0 (List.forall_mem_cons.mpr ⟨rf_cat _, (List.forall_mem_cons.mpr ⟨rfl, (List.forall_mem_cons.mpr ⟨rfl, (List.forall_mem_cons.mpr ⟨rf_cat _, (fun _ h => absurd h List.not_mem_nil)⟩)⟩)⟩)⟩)] at hl; exact hl
  have hF : gF p s m args meth c RL cL_rotate 5 (some .int) D Y (gA S hs) := hF
  have hx := hF.1
  have hb := hF.2.1
  refine g_aload_n hx hb dL_rotate_0 rfl (lv_at hl 3 rfl) ?_
  refine lv_iconst (v := 0) hx hb dL_rotate_1 (by decide) ?_
  refine g_aload_n hx hb dL_rotate_2 rfl (lv_at hl 0 rfl) ?_
  refine lv_iload_n hx hb dL_rotate_3 rfl (lv_at hl 1 rfl) ?_
  refine lv_iload_n hx hb dL_rotate_4 rfl (lv_at hl 2 rfl) ?_
  refine g_callV (As := [.int x1, .int x2]) (rest := [.int 0, va_rf (some o)]) hF hM (c_X4_rotate h) k_X4_rotate u919 u920 u921 rfl rfl hT rfl hl.1 rfl (Nat.le_of_ble_eq_true rfl) dL_rotate_5 ⟨(Nat.le_of_ble_eq_true rfl), (Nat.le_of_ble_eq_true rfl)⟩ ⟨(Nat.le_of_ble_eq_true rfl), (Nat.le_of_ble_eq_true rfl)⟩ (fun H locs hM => ?_)
  refine lv_i2l hx hb dL_rotate_8 rfl ?_
  refine l_last hF hsz hM hAr hO hT0 dL_rotate_9 (fun H locs h1 h2 h3 h4 h5 => ?_)
  refine lv_goto (tgt := 29) hx hb dL_rotate_10 (by decide) ?_
  refine lv_iconst (v := 0) hx hb dL_rotate_29 (by decide) ?_
  exact l_end hF rfl h1 h2 h3 h4 h5 dL_rotate_30 (Nat.le_of_ble_eq_true rfl) (Nat.le_of_ble_eq_true rfl)
set_option maxHeartbeats 4000000 in
set_option maxRecDepth 100000 in
theorem cL_rotate_x {l : Launch} {D : va_G} {Y : Nat → ClassId} {S : GS} {hs : Nat} {a0 o : Nat} {x1 : Int32} {x2 : Int32} {x : Nat} (hfl : l.stackTraces = false) (h : f_X4_rotate S a0 x1 x2 = some (.inr x)) {i : Nat} {yl : ClassId} {c0 : Value} (hT : gT S a0 = 5) (hi : ([1, 2, 3, 4] : List Nat)[i]? = some x) : lMet l yL_rotate (lWs yL_rotate cL_rotate 5 [(0, 10, 13, 13), (0, 10, 17, 15), (0, 10, 21, 71), (0, 10, 25, 17)]) rmLx_rotate [va_rf (some a0), .int x1, .int x2, va_rf (some o)] D Y S hs .long yl o c0 (nI (i + 1)) c0 S hs := by
  refine l_ofW (by decide +kernel) ⟨(Nat.le_of_ble_eq_true rfl), (List.forall_mem_cons.mpr ⟨rf_cat _, (List.forall_mem_cons.mpr ⟨rfl, (List.forall_mem_cons.mpr ⟨rfl, (List.forall_mem_cons.mpr ⟨rf_cat _, (fun _ h => absurd h List.not_mem_nil)⟩)⟩)⟩)⟩)⟩ ?_
  intro p e s m args below meth c ls hsz htab hF hNc hAr hO hT0 hM hl
  have hl : lv_has ls 5 [(0, va_rf (some a0)), (1, .int x1), (2, .int x2), (3, va_rf (some o))] := by rw [g_args [va_rf (some a0), .int x1, .int x2, va_rf (some o)] 0 (List.forall_mem_cons.mpr ⟨rf_cat _, (List.forall_mem_cons.mpr ⟨rfl, (List.forall_mem_cons.mpr ⟨rfl, (List.forall_mem_cons.mpr ⟨rf_cat _, (fun _ h => absurd h List.not_mem_nil)⟩)⟩)⟩)⟩)] at hl; exact hl
  have hF : gF p s m args meth c RL cL_rotate 5 (some .int) D Y (gA S hs) := hF
  have hx := hF.1
  have hb := hF.2.1
  rcases i with _ | _ | _ | _ | i
  · have hx9 := Option.some.inj hi
    subst hx9
    refine g_aload_n hx hb dL_rotate_0 rfl (lv_at hl 3 rfl) ?_
    refine lv_iconst (v := 0) hx hb dL_rotate_1 (by decide) ?_
    refine g_aload_n hx hb dL_rotate_2 rfl (lv_at hl 0 rfl) ?_
    refine lv_iload_n hx hb dL_rotate_3 rfl (lv_at hl 1 rfl) ?_
    refine lv_iload_n hx hb dL_rotate_4 rfl (lv_at hl 2 rfl) ?_
    refine l_callX (pre := []) (x0 := ⟨0, 10, 13, 13⟩) (suf := [⟨0, 10, 17, 15⟩, ⟨0, 10, 21, 71⟩, ⟨0, 10, 25, 17⟩]) (As := [.int x1, .int x2]) (rest := [.int 0, va_rf (some o)]) hF hNc hM htab (cx_X4_rotate hfl h) k_X4_rotate u919 u920 u921 rfl rfl hT rfl hl.1 rfl (Nat.le_of_ble_eq_true rfl) dL_rotate_5 ⟨(Nat.le_of_ble_eq_true rfl), (Nat.le_of_ble_eq_true rfl)⟩ ⟨(Nat.le_of_ble_eq_true rfl), (Nat.le_of_ble_eq_true rfl)⟩ rfl (by decide) (by decide) (by decide) (fun _ h => absurd h List.not_mem_nil) u407 (fun q H locs h1 h2 h5 => ?_)
    refine g_astore (i := 4) (lv' := [(0, va_rf (some a0)), (1, .int x1), (2, .int x2), (3, va_rf (some o))]) hx hb dL_rotate_13 hl (by decide) (fun v => rfl) (fun ls hl => ?_)
    refine lv_iconst (v := nI (0 + 1)) hx hb dL_rotate_15 (by decide) ?_
    exact l_endX hF hsz rfl hO hT0 h1 h2 h5 dL_rotate_16 (Nat.le_of_ble_eq_true rfl) (Nat.le_of_ble_eq_true rfl)
  · have hx9 := Option.some.inj hi
    subst hx9
    refine g_aload_n hx hb dL_rotate_0 rfl (lv_at hl 3 rfl) ?_
    refine lv_iconst (v := 0) hx hb dL_rotate_1 (by decide) ?_
    refine g_aload_n hx hb dL_rotate_2 rfl (lv_at hl 0 rfl) ?_
    refine lv_iload_n hx hb dL_rotate_3 rfl (lv_at hl 1 rfl) ?_
    refine lv_iload_n hx hb dL_rotate_4 rfl (lv_at hl 2 rfl) ?_
    refine l_callX (pre := [⟨0, 10, 13, 13⟩]) (x0 := ⟨0, 10, 17, 15⟩) (suf := [⟨0, 10, 21, 71⟩, ⟨0, 10, 25, 17⟩]) (As := [.int x1, .int x2]) (rest := [.int 0, va_rf (some o)]) hF hNc hM htab (cx_X4_rotate hfl h) k_X4_rotate u919 u920 u921 rfl rfl hT rfl hl.1 rfl (Nat.le_of_ble_eq_true rfl) dL_rotate_5 ⟨(Nat.le_of_ble_eq_true rfl), (Nat.le_of_ble_eq_true rfl)⟩ ⟨(Nat.le_of_ble_eq_true rfl), (Nat.le_of_ble_eq_true rfl)⟩ rfl (by decide) (by decide) (by decide) (List.forall_mem_cons.mpr ⟨⟨by decide, 1, by decide, u407⟩, (fun _ h => absurd h List.not_mem_nil)⟩) u487 (fun q H locs h1 h2 h5 => ?_)
    refine g_astore (i := 4) (lv' := [(0, va_rf (some a0)), (1, .int x1), (2, .int x2), (3, va_rf (some o))]) hx hb dL_rotate_17 hl (by decide) (fun v => rfl) (fun ls hl => ?_)
    refine lv_iconst (v := nI (1 + 1)) hx hb dL_rotate_19 (by decide) ?_
    exact l_endX hF hsz rfl hO hT0 h1 h2 h5 dL_rotate_20 (Nat.le_of_ble_eq_true rfl) (Nat.le_of_ble_eq_true rfl)
  · have hx9 := Option.some.inj hi
    subst hx9
    refine g_aload_n hx hb dL_rotate_0 rfl (lv_at hl 3 rfl) ?_
    refine lv_iconst (v := 0) hx hb dL_rotate_1 (by decide) ?_
    refine g_aload_n hx hb dL_rotate_2 rfl (lv_at hl 0 rfl) ?_
    refine lv_iload_n hx hb dL_rotate_3 rfl (lv_at hl 1 rfl) ?_
    refine lv_iload_n hx hb dL_rotate_4 rfl (lv_at hl 2 rfl) ?_
    refine l_callX (pre := [⟨0, 10, 13, 13⟩, ⟨0, 10, 17, 15⟩]) (x0 := ⟨0, 10, 21, 71⟩) (suf := [⟨0, 10, 25, 17⟩]) (As := [.int x1, .int x2]) (rest := [.int 0, va_rf (some o)]) hF hNc hM htab (cx_X4_rotate hfl h) k_X4_rotate u919 u920 u921 rfl rfl hT rfl hl.1 rfl (Nat.le_of_ble_eq_true rfl) dL_rotate_5 ⟨(Nat.le_of_ble_eq_true rfl), (Nat.le_of_ble_eq_true rfl)⟩ ⟨(Nat.le_of_ble_eq_true rfl), (Nat.le_of_ble_eq_true rfl)⟩ rfl (by decide) (by decide) (by decide) (List.forall_mem_cons.mpr ⟨⟨by decide, 1, by decide, u407⟩, (List.forall_mem_cons.mpr ⟨⟨by decide, 2, by decide, u487⟩, (fun _ h => absurd h List.not_mem_nil)⟩)⟩) u726 (fun q H locs h1 h2 h5 => ?_)
    refine g_astore (i := 4) (lv' := [(0, va_rf (some a0)), (1, .int x1), (2, .int x2), (3, va_rf (some o))]) hx hb dL_rotate_21 hl (by decide) (fun v => rfl) (fun ls hl => ?_)
    refine lv_iconst (v := nI (2 + 1)) hx hb dL_rotate_23 (by decide) ?_
    exact l_endX hF hsz rfl hO hT0 h1 h2 h5 dL_rotate_24 (Nat.le_of_ble_eq_true rfl) (Nat.le_of_ble_eq_true rfl)
  · have hx9 := Option.some.inj hi
    subst hx9
    refine g_aload_n hx hb dL_rotate_0 rfl (lv_at hl 3 rfl) ?_
    refine lv_iconst (v := 0) hx hb dL_rotate_1 (by decide) ?_
    refine g_aload_n hx hb dL_rotate_2 rfl (lv_at hl 0 rfl) ?_
    refine lv_iload_n hx hb dL_rotate_3 rfl (lv_at hl 1 rfl) ?_
    refine lv_iload_n hx hb dL_rotate_4 rfl (lv_at hl 2 rfl) ?_
    refine l_callX (pre := [⟨0, 10, 13, 13⟩, ⟨0, 10, 17, 15⟩, ⟨0, 10, 21, 71⟩]) (x0 := ⟨0, 10, 25, 17⟩) (suf := []) (As := [.int x1, .int x2]) (rest := [.int 0, va_rf (some o)]) hF hNc hM htab (cx_X4_rotate hfl h) k_X4_rotate u919 u920 u921 rfl rfl hT rfl hl.1 rfl (Nat.le_of_ble_eq_true rfl) dL_rotate_5 ⟨(Nat.le_of_ble_eq_true rfl), (Nat.le_of_ble_eq_true rfl)⟩ ⟨(Nat.le_of_ble_eq_true rfl), (Nat.le_of_ble_eq_true rfl)⟩ rfl (by decide) (by decide) (by decide) (List.forall_mem_cons.mpr ⟨⟨by decide, 1, by decide, u407⟩, (List.forall_mem_cons.mpr ⟨⟨by decide, 2, by decide, u487⟩, (List.forall_mem_cons.mpr ⟨⟨by decide, 3, by decide, u726⟩, (fun _ h => absurd h List.not_mem_nil)⟩)⟩)⟩) u488 (fun q H locs h1 h2 h5 => ?_)
    refine g_astore (i := 4) (lv' := [(0, va_rf (some a0)), (1, .int x1), (2, .int x2), (3, va_rf (some o))]) hx hb dL_rotate_25 hl (by decide) (fun v => rfl) (fun ls hl => ?_)
    refine lv_iconst (v := nI (3 + 1)) hx hb dL_rotate_27 (by decide) ?_
    exact l_endX hF hsz rfl hO hT0 h1 h2 h5 dL_rotate_28 (Nat.le_of_ble_eq_true rfl) (Nat.le_of_ble_eq_true rfl)
  · exact absurd hi (by simp)
