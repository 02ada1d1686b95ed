abbrev rmL_fill : Room := { frames := 3, cells := 0, slots := 0, locals := 70 }
abbrev rmLx_fill : Room := { frames := 9, cells := 1, slots := 6, locals := 158 }
theorem kL_fill : lKc yL_fill cL_fill 6 [(0, 12, 15, 13), (0, 12, 19, 15), (0, 12, 23, 71), (0, 12, 27, 17)] 5 := ⟨u926, u62, by decide +kernel, by decide +kernel, by decide +kernel⟩
set_option maxHeartbeats 4000000 in
set_option maxRecDepth 100000 in
theorem cL_fill_r {l : Launch} {D : va_G} {Y : Nat → ClassId} {S : GS} {hs : Nat} {a0 o : Nat} {x1 : Int32} {x2 : Int32} {x3 : Int32} {r : Int32} {S' : GS} (h : f_X4_fill S a0 x1 x2 x3 = some (.inl (r, S'))) {yl : ClassId} {c0 : Value} (hT : gT S a0 = 5) : lMet l yL_fill (lWs yL_fill cL_fill 6 [(0, 12, 15, 13), (0, 12, 19, 15), (0, 12, 23, 71), (0, 12, 27, 17)]) rmL_fill [va_rf (some a0), .int x1, .int x2, .int x3, va_rf (some o)] D Y S hs .long yl o c0 0 (.long r.toInt64) S' hs := by
  refine l_ofW (by decide +kernel) ⟨(Nat.le_of_ble_eq_true rfl), (List.forall_mem_cons.mpr ⟨rf_cat _, (List.forall_mem_cons.mpr ⟨rfl, (List.forall_mem_cons.mpr ⟨rfl, (List.forall_mem_cons.mpr ⟨rfl, (List.forall_mem_cons.mpr ⟨rf_cat _, (fun _ h => absurd h List.not_mem_nil)⟩)⟩)⟩)⟩)⟩)⟩ ?_
  intro p e s m args below meth c ls hsz htab hF hNc hAr hO hT0 hM hl
  have hl : lv_has ls 6 [(0, va_rf (some a0)), (1, .int x1), (2, .int x2), (3, .int x3), (4, va_rf (some o))] := by rw [g_args [va_rf (some a0), .int x1, .int x2, .int x3, va_rf (some o)] 0 (List.forall_mem_cons.mpr ⟨rf_cat _, (List.forall_mem_cons.mpr ⟨rfl, (List.forall_mem_cons.mpr ⟨rfl, (List.forall_mem_cons.mpr ⟨rfl, (List.forall_mem_cons.mpr ⟨rf_cat _, (fun _ h => absurd h List.not_mem_nil)⟩)⟩)⟩)⟩)⟩)] at hl; exact hl
  have hF : gF p s m args meth c RL cL_fill 6 (some .int) D Y (gA S hs) := hF
  have hx := hF.1
  have hb := hF.2.1
  refine g_aload hx hb dL_fill_0 (lv_at hl 4 rfl) ?_
  refine lv_iconst (v := 0) hx hb dL_fill_2 (by decide) ?_
  refine g_aload_n hx hb dL_fill_3 rfl (lv_at hl 0 rfl) ?_
  refine lv_iload_n hx hb dL_fill_4 rfl (lv_at hl 1 rfl) ?_
  refine lv_iload_n hx hb dL_fill_5 rfl (lv_at hl 2 rfl) ?_
  refine lv_iload_n hx hb dL_fill_6 rfl (lv_at hl 3 rfl) ?_
  refine g_callV (As := [.int x1, .int x2, .int x3]) (rest := [.int 0, va_rf (some o)]) hF hM (c_X4_fill h) k_X4_fill u927 u928 u929 rfl rfl hT rfl hl.1 rfl (Nat.le_of_ble_eq_true rfl) dL_fill_7 ⟨(Nat.le_of_ble_eq_true rfl), (Nat.le_of_ble_eq_true rfl)⟩ ⟨(Nat.le_of_ble_eq_true rfl), (Nat.le_of_ble_eq_true rfl)⟩ (fun H locs hM => ?_)
  refine lv_i2l hx hb dL_fill_10 rfl ?_
  refine l_last hF hsz hM hAr hO hT0 dL_fill_11 (fun H locs h1 h2 h3 h4 h5 => ?_)
  refine lv_goto (tgt := 31) hx hb dL_fill_12 (by decide) ?_
  refine lv_iconst (v := 0) hx hb dL_fill_31 (by decide) ?_
  exact l_end hF rfl h1 h2 h3 h4 h5 dL_fill_32 (Nat.le_of_ble_eq_true rfl) (Nat.le_of_ble_eq_true rfl)
set_option maxHeartbeats 4000000 in
set_option maxRecDepth 100000 in
theorem cL_fill_x {l : Launch} {D : va_G} {Y : Nat → ClassId} {S : GS} {hs : Nat} {a0 o : Nat} {x1 : Int32} {x2 : Int32} {x3 : Int32} {x : Nat} (hfl : l.stackTraces = false) (h : f_X4_fill S a0 x1 x2 x3 = some (.inr x)) {i : Nat} {yl : ClassId} {c0 : Value} (hT : gT S a0 = 5) (hi : ([1, 2, 3, 4] : List Nat)[i]? = some x) : lMet l yL_fill (lWs yL_fill cL_fill 6 [(0, 12, 15, 13), (0, 12, 19, 15), (0, 12, 23, 71), (0, 12, 27, 17)]) rmLx_fill [va_rf (some a0), .int x1, .int x2, .int x3, va_rf (some o)] D Y S hs .long yl o c0 (nI (i + 1)) c0 S hs := by
  refine l_ofW (by decide +kernel) ⟨(Nat.le_of_ble_eq_true rfl), (List.forall_mem_cons.mpr ⟨rf_cat _, (List.forall_mem_cons.mpr ⟨rfl, (List.forall_mem_cons.mpr ⟨rfl, (List.forall_mem_cons.mpr ⟨rfl, (List.forall_mem_cons.mpr ⟨rf_cat _, (fun _ h => absurd h List.not_mem_nil)⟩)⟩)⟩)⟩)⟩)⟩ ?_
  intro p e s m args below meth c ls hsz htab hF hNc hAr hO hT0 hM hl
  have hl : lv_has ls 6 [(0, va_rf (some a0)), (1, .int x1), (2, .int x2), (3, .int x3), (4, va_rf (some o))] := by rw [g_args [va_rf (some a0), .int x1, .int x2, .int x3, va_rf (some o)] 0 (List.forall_mem_cons.mpr ⟨rf_cat _, (List.forall_mem_cons.mpr ⟨rfl, (List.forall_mem_cons.mpr ⟨rfl, (List.forall_mem_cons.mpr ⟨rfl, (List.forall_mem_cons.mpr ⟨rf_cat _, (fun _ h => absurd h List.not_mem_nil)⟩)⟩)⟩)⟩)⟩)] at hl; exact hl
  have hF : gF p s m args meth c RL cL_fill 6 (some .int) D Y (gA S hs) := hF
  have hx := hF.1
  have hb := hF.2.1
  rcases i with _ | _ | _ | _ | i
  · have hx9 := Option.some.inj hi
    subst hx9
    refine g_aload hx hb dL_fill_0 (lv_at hl 4 rfl) ?_
    refine lv_iconst (v := 0) hx hb dL_fill_2 (by decide) ?_
    refine g_aload_n hx hb dL_fill_3 rfl (lv_at hl 0 rfl) ?_
    refine lv_iload_n hx hb dL_fill_4 rfl (lv_at hl 1 rfl) ?_
    refine lv_iload_n hx hb dL_fill_5 rfl (lv_at hl 2 rfl) ?_
    refine lv_iload_n hx hb dL_fill_6 rfl (lv_at hl 3 rfl) ?_
    refine l_callX (pre := []) (x0 := ⟨0, 12, 15, 13⟩) (suf := [⟨0, 12, 19, 15⟩, ⟨0, 12, 23, 71⟩, ⟨0, 12, 27, 17⟩]) (As := [.int x1, .int x2, .int x3]) (rest := [.int 0, va_rf (some o)]) hF hNc hM htab (cx_X4_fill hfl h) k_X4_fill u927 u928 u929 rfl rfl hT rfl hl.1 rfl (Nat.le_of_ble_eq_true rfl) dL_fill_7 ⟨(Nat.le_of_ble_eq_true rfl), (Nat.le_of_ble_eq_true rfl)⟩ ⟨(Nat.le_of_ble_eq_true rfl), (Nat.le_of_ble_eq_true rfl)⟩ rfl (by decide) (by decide) (by decide) (fun _ h => absurd h List.not_mem_nil) u407 (fun q H locs h1 h2 h5 => ?_)
    refine g_astore (i := 5) (lv' := [(0, va_rf (some a0)), (1, .int x1), (2, .int x2), (3, .int x3), (4, va_rf (some o))]) hx hb dL_fill_15 hl (by decide) (fun v => rfl) (fun ls hl => ?_)
    refine lv_iconst (v := nI (0 + 1)) hx hb dL_fill_17 (by decide) ?_
    exact l_endX hF hsz rfl hO hT0 h1 h2 h5 dL_fill_18 (Nat.le_of_ble_eq_true rfl) (Nat.le_of_ble_eq_true rfl)
  · have hx9 := Option.some.inj hi
    subst hx9
    refine g_aload hx hb dL_fill_0 (lv_at hl 4 rfl) ?_
    refine lv_iconst (v := 0) hx hb dL_fill_2 (by decide) ?_
    refine g_aload_n hx hb dL_fill_3 rfl (lv_at hl 0 rfl) ?_
    refine lv_iload_n hx hb dL_fill_4 rfl (lv_at hl 1 rfl) ?_
    refine lv_iload_n hx hb dL_fill_5 rfl (lv_at hl 2 rfl) ?_
    refine lv_iload_n hx hb dL_fill_6 rfl (lv_at hl 3 rfl) ?_
    refine l_callX (pre := [⟨0, 12, 15, 13⟩]) (x0 := ⟨0, 12, 19, 15⟩) (suf := [⟨0, 12, 23, 71⟩, ⟨0, 12, 27, 17⟩]) (As := [.int x1, .int x2, .int x3]) (rest := [.int 0, va_rf (some o)]) hF hNc hM htab (cx_X4_fill hfl h) k_X4_fill u927 u928 u929 rfl rfl hT rfl hl.1 rfl (Nat.le_of_ble_eq_true rfl) dL_fill_7 ⟨(Nat.le_of_ble_eq_true rfl), (Nat.le_of_ble_eq_true rfl)⟩ ⟨(Nat.le_of_ble_eq_true rfl), (Nat.le_of_ble_eq_true rfl)⟩ rfl (by decide) (by decide) (by decide) (List.forall_mem_cons.mpr ⟨⟨by decide, 1, by decide, u407⟩, (fun _ h => absurd h List.not_mem_nil)⟩) u487 (fun q H locs h1 h2 h5 => ?_)
    refine g_astore (i := 5) (lv' := [(0, va_rf (some a0)), (1, .int x1), (2, .int x2), (3, .int x3), (4, va_rf (some o))]) hx hb dL_fill_19 hl (by decide) (fun v => rfl) (fun ls hl => ?_)
    refine lv_iconst (v := nI (1 + 1)) hx hb dL_fill_21 (by decide) ?_
    exact l_endX hF hsz rfl hO hT0 h1 h2 h5 dL_fill_22 (Nat.le_of_ble_eq_true rfl) (Nat.le_of_ble_eq_true rfl)
  · have hx9 := Option.some.inj hi
    subst hx9
    refine g_aload hx hb dL_fill_0 (lv_at hl 4 rfl) ?_
    refine lv_iconst (v := 0) hx hb dL_fill_2 (by decide) ?_
    refine g_aload_n hx hb dL_fill_3 rfl (lv_at hl 0 rfl) ?_
    refine lv_iload_n hx hb dL_fill_4 rfl (lv_at hl 1 rfl) ?_
    refine lv_iload_n hx hb dL_fill_5 rfl (lv_at hl 2 rfl) ?_
    refine lv_iload_n hx hb dL_fill_6 rfl (lv_at hl 3 rfl) ?_
    refine l_callX (pre := [⟨0, 12, 15, 13⟩, ⟨0, 12, 19, 15⟩]) (x0 := ⟨0, 12, 23, 71⟩) (suf := [⟨0, 12, 27, 17⟩]) (As := [.int x1, .int x2, .int x3]) (rest := [.int 0, va_rf (some o)]) hF hNc hM htab (cx_X4_fill hfl h) k_X4_fill u927 u928 u929 rfl rfl hT rfl hl.1 rfl (Nat.le_of_ble_eq_true rfl) dL_fill_7 ⟨(Nat.le_of_ble_eq_true rfl), (Nat.le_of_ble_eq_true rfl)⟩ ⟨(Nat.le_of_ble_eq_true rfl), (Nat.le_of_ble_eq_true rfl)⟩ rfl (by decide) (by decide) (by decide) (List.forall_mem_cons.mpr ⟨⟨by decide, 1, by decide, u407⟩, (List.forall_mem_cons.mpr ⟨⟨by decide, 2, by decide, u487⟩, (fun _ h => absurd h List.not_mem_nil)⟩)⟩) u726 (fun q H locs h1 h2 h5 => ?_)
    refine g_astore (i := 5) (lv' := [(0, va_rf (some a0)), (1, .int x1), (2, .int x2), (3, .int x3), (4, va_rf (some o))]) hx hb dL_fill_23 hl (by decide) (fun v => rfl) (fun ls hl => ?_)
    refine lv_iconst (v := nI (2 + 1)) hx hb dL_fill_25 (by decide) ?_
    exact l_endX hF hsz rfl hO hT0 h1 h2 h5 dL_fill_26 (Nat.le_of_ble_eq_true rfl) (Nat.le_of_ble_eq_true rfl)
  · have hx9 := Option.some.inj hi
    subst hx9
    refine g_aload hx hb dL_fill_0 (lv_at hl 4 rfl) ?_
    refine lv_iconst (v := 0) hx hb dL_fill_2 (by decide) ?_
    refine g_aload_n hx hb dL_fill_3 rfl (lv_at hl 0 rfl) ?_
    refine lv_iload_n hx hb dL_fill_4 rfl (lv_at hl 1 rfl) ?_
    refine lv_iload_n hx hb dL_fill_5 rfl (lv_at hl 2 rfl) ?_
    refine lv_iload_n hx hb dL_fill_6 rfl (lv_at hl 3 rfl) ?_
    refine l_callX (pre := [⟨0, 12, 15, 13⟩, ⟨0, 12, 19, 15⟩, ⟨0, 12, 23, 71⟩]) (x0 := ⟨0, 12, 27, 17⟩) (suf := []) (As := [.int x1, .int x2, .int x3]) (rest := [.int 0, va_rf (some o)]) hF hNc hM htab (cx_X4_fill hfl h) k_X4_fill u927 u928 u929 rfl rfl hT rfl hl.1 rfl (Nat.le_of_ble_eq_true rfl) dL_fill_7 ⟨(Nat.le_of_ble_eq_true rfl), (Nat.le_of_ble_eq_true rfl)⟩ ⟨(Nat.le_of_ble_eq_true rfl), (Nat.le_of_ble_eq_true rfl)⟩ rfl (by decide) (by decide) (by decide) (List.forall_mem_cons.mpr ⟨⟨by decide, 1, by decide, u407⟩, (List.forall_mem_cons.mpr ⟨⟨by decide, 2, by decide, u487⟩, (List.forall_mem_cons.mpr ⟨⟨by decide, 3, by decide, u726⟩, (fun _ h => absurd h List.not_mem_nil)⟩)⟩)⟩) u488 (fun q H locs h1 h2 h5 => ?_)
    refine g_astore (i := 5) (lv' := [(0, va_rf (some a0)), (1, .int x1), (2, .int x2), (3, .int x3), (4, va_rf (some o))]) hx hb dL_fill_27 hl (by decide) (fun v => rfl) (fun ls hl => ?_)
    refine lv_iconst (v := nI (3 + 1)) hx hb dL_fill_29 (by decide) ?_
    exact l_endX hF hsz rfl hO hT0 h1 h2 h5 dL_fill_30 (Nat.le_of_ble_eq_true rfl) (Nat.le_of_ble_eq_true rfl)
  · exact absurd hi (by simp)
abbrev rmL_rowIn : Room := { frames := 5, cells := 0, slots := 0, locals := 116 }
abbrev rmLx_rowIn : Room := { frames := 9, cells := 1, slots := 6, locals := 160 }
theorem kL_rowIn : lKc yL_rowIn cL_rowIn 6 [(0, 12, 15, 13), (0, 12, 19, 15)] 5 := ⟨u933, u62, by decide +kernel, by decide +kernel, by decide +kernel⟩
set_option maxHeartbeats 4000000 in
set_option maxRecDepth 100000 in
theorem cL_rowIn_r {l : Launch} {D : va_G} {Y : Nat → ClassId} {S : GS} {hs : Nat} {a0 o : Nat} {x1 : Int32} {x2 : Int32} {x3 : Int32} {r : Int32} (h : f_X4_rowIn S a0 x1 x2 x3 = some (.inl r)) {yl : ClassId} {c0 : Value} (hT : gT S a0 = 5) : lMet l yL_rowIn (lWs yL_rowIn cL_rowIn 6 [(0, 12, 15, 13), (0, 12, 19, 15)]) rmL_rowIn [va_rf (some a0), .int x1, .int x2, .int x3, va_rf (some o)] D Y S hs .long yl o c0 0 (.long r.toInt64) S hs := by
  refine l_ofW (by decide +kernel) ⟨(Nat.le_of_ble_eq_true rfl), (List.forall_mem_cons.mpr ⟨rf_cat _, (List.forall_mem_cons.mpr ⟨rfl, (List.forall_mem_cons.mpr ⟨rfl, (List.forall_mem_cons.mpr ⟨rfl, (List.forall_mem_cons.mpr ⟨rf_cat _, (fun _ h => absurd h List.not_mem_nil)⟩)⟩)⟩)⟩)⟩)⟩ ?_
  intro p e s m args below meth c ls hsz htab hF hNc hAr hO hT0 hM hl
  have hl : lv_has ls 6 [(0, va_rf (some a0)), (1, .int x1), (2, .int x2), (3, .int x3), (4, va_rf (some o))] := by rw [g_args [va_rf (some a0), .int x1, .int x2, .int x3, va_rf (some o)] 0 (List.forall_mem_cons.mpr ⟨rf_cat _, (List.forall_mem_cons.mpr ⟨rfl, (List.forall_mem_cons.mpr ⟨rfl, (List.forall_mem_cons.mpr ⟨rfl, (List.forall_mem_cons.mpr ⟨rf_cat _, (fun _ h => absurd h List.not_mem_nil)⟩)⟩)⟩)⟩)⟩)] at hl; exact hl
  have hF : gF p s m args meth c RL cL_rowIn 6 (some .int) D Y (gA S hs) := hF
  have hx := hF.1
  have hb := hF.2.1
  refine g_aload hx hb dL_rowIn_0 (lv_at hl 4 rfl) ?_
  refine lv_iconst (v := 0) hx hb dL_rowIn_2 (by decide) ?_
  refine g_aload_n hx hb dL_rowIn_3 rfl (lv_at hl 0 rfl) ?_
  refine lv_iload_n hx hb dL_rowIn_4 rfl (lv_at hl 1 rfl) ?_
  refine lv_iload_n hx hb dL_rowIn_5 rfl (lv_at hl 2 rfl) ?_
  refine lv_iload_n hx hb dL_rowIn_6 rfl (lv_at hl 3 rfl) ?_
  refine g_callV (As := [.int x1, .int x2, .int x3]) (rest := [.int 0, va_rf (some o)]) hF hM (c_X4_rowIn h) k_X4_rowIn u934 u935 u936 rfl rfl hT rfl hl.1 rfl (Nat.le_of_ble_eq_true rfl) dL_rowIn_7 ⟨(Nat.le_of_ble_eq_true rfl), (Nat.le_of_ble_eq_true rfl)⟩ ⟨(Nat.le_of_ble_eq_true rfl), (Nat.le_of_ble_eq_true rfl)⟩ (fun H locs hM => ?_)
  refine lv_i2l hx hb dL_rowIn_10 rfl ?_
  refine l_last hF hsz hM hAr hO hT0 dL_rowIn_11 (fun H locs h1 h2 h3 h4 h5 => ?_)
  refine lv_goto (tgt := 23) hx hb dL_rowIn_12 (by decide) ?_
  refine lv_iconst (v := 0) hx hb dL_rowIn_23 (by decide) ?_
  exact l_end hF rfl h1 h2 h3 h4 h5 dL_rowIn_24 (Nat.le_of_ble_eq_true rfl) (Nat.le_of_ble_eq_true rfl)
set_option maxHeartbeats 4000000 in
set_option maxRecDepth 100000 in
theorem cL_rowIn_x {l : Launch} {D : va_G} {Y : Nat → ClassId} {S : GS} {hs : Nat} {a0 o : Nat} {x1 : Int32} {x2 : Int32} {x3 : Int32} {x : Nat} (hfl : l.stackTraces = false) (h : f_X4_rowIn S a0 x1 x2 x3 = some (.inr x)) {i : Nat} {yl : ClassId} {c0 : Value} (hT : gT S a0 = 5) (hi : ([1, 2] : List Nat)[i]? = some x) : lMet l yL_rowIn (lWs yL_rowIn cL_rowIn 6 [(0, 12, 15, 13), (0, 12, 19, 15)]) rmLx_rowIn [va_rf (some a0), .int x1, .int x2, .int x3, va_rf (some o)] D Y S hs .long yl o c0 (nI (i + 1)) c0 S hs := by
  refine l_ofW (by decide +kernel) ⟨(Nat.le_of_ble_eq_true rfl), (List.forall_mem_cons.mpr ⟨rf_cat _, (List.forall_mem_cons.mpr ⟨rfl, (List.forall_mem_cons.mpr ⟨rfl, (List.forall_mem_cons.mpr ⟨rfl, (List.forall_mem_cons.mpr ⟨rf_cat _, (fun _ h => absurd h List.not_mem_nil)⟩)⟩)⟩)⟩)⟩)⟩ ?_
  intro p e s m args below meth c ls hsz htab hF hNc hAr hO hT0 hM hl
  have hl : lv_has ls 6 [(0, va_rf (some a0)), (1, .int x1), (2, .int x2), (3, .int x3), (4, va_rf (some o))] := by rw [g_args [va_rf (some a0), .int x1, .int x2, .int x3, va_rf (some o)] 0 (List.forall_mem_cons.mpr ⟨rf_cat _, (List.forall_mem_cons.mpr ⟨rfl, (List.forall_mem_cons.mpr ⟨rfl, (List.forall_mem_cons.mpr ⟨rfl, (List.forall_mem_cons.mpr ⟨rf_cat _, (fun _ h => absurd h List.not_mem_nil)⟩)⟩)⟩)⟩)⟩)] at hl; exact hl
  have hF : gF p s m args meth c RL cL_rowIn 6 (some .int) D Y (gA S hs) := hF
  have hx := hF.1
  have hb := hF.2.1
  rcases i with _ | _ | i
  · have hx9 := Option.some.inj hi
    subst hx9
    refine g_aload hx hb dL_rowIn_0 (lv_at hl 4 rfl) ?_
    refine lv_iconst (v := 0) hx hb dL_rowIn_2 (by decide) ?_
    refine g_aload_n hx hb dL_rowIn_3 rfl (lv_at hl 0 rfl) ?_
    refine lv_iload_n hx hb dL_rowIn_4 rfl (lv_at hl 1 rfl) ?_
    refine lv_iload_n hx hb dL_rowIn_5 rfl (lv_at hl 2 rfl) ?_
    refine lv_iload_n hx hb dL_rowIn_6 rfl (lv_at hl 3 rfl) ?_
    refine l_callX (pre := []) (x0 := ⟨0, 12, 15, 13⟩) (suf := [⟨0, 12, 19, 15⟩]) (As := [.int x1, .int x2, .int x3]) (rest := [.int 0, va_rf (some o)]) hF hNc hM htab (cx_X4_rowIn hfl h) k_X4_rowIn u934 u935 u936 rfl rfl hT rfl hl.1 rfl (Nat.le_of_ble_eq_true rfl) dL_rowIn_7 ⟨(Nat.le_of_ble_eq_true rfl), (Nat.le_of_ble_eq_true rfl)⟩ ⟨(Nat.le_of_ble_eq_true rfl), (Nat.le_of_ble_eq_true rfl)⟩ rfl (by decide) (by decide) (by decide) (fun _ h => absurd h List.not_mem_nil) u407 (fun q H locs h1 h2 h5 => ?_)
    refine g_astore (i := 5) (lv' := [(0, va_rf (some a0)), (1, .int x1), (2, .int x2), (3, .int x3), (4, va_rf (some o))]) hx hb dL_rowIn_15 hl (by decide) (fun v => rfl) (fun ls hl => ?_)
    refine lv_iconst (v := nI (0 + 1)) hx hb dL_rowIn_17 (by decide) ?_
    exact l_endX hF hsz rfl hO hT0 h1 h2 h5 dL_rowIn_18 (Nat.le_of_ble_eq_true rfl) (Nat.le_of_ble_eq_true rfl)
  · have hx9 := Option.some.inj hi
    subst hx9
    refine g_aload hx hb dL_rowIn_0 (lv_at hl 4 rfl) ?_
    refine lv_iconst (v := 0) hx hb dL_rowIn_2 (by decide) ?_
    refine g_aload_n hx hb dL_rowIn_3 rfl (lv_at hl 0 rfl) ?_
    refine lv_iload_n hx hb dL_rowIn_4 rfl (lv_at hl 1 rfl) ?_
    refine lv_iload_n hx hb dL_rowIn_5 rfl (lv_at hl 2 rfl) ?_
    refine lv_iload_n hx hb dL_rowIn_6 rfl (lv_at hl 3 rfl) ?_
    refine l_callX (pre := [⟨0, 12, 15, 13⟩]) (x0 := ⟨0, 12, 19, 15⟩) (suf := []) (As := [.int x1, .int x2, .int x3]) (rest := [.int 0, va_rf (some o)]) hF hNc hM htab (cx_X4_rowIn hfl h) k_X4_rowIn u934 u935 u936 rfl rfl hT rfl hl.1 rfl (Nat.le_of_ble_eq_true rfl) dL_rowIn_7 ⟨(Nat.le_of_ble_eq_true rfl), (Nat.le_of_ble_eq_true rfl)⟩ ⟨(Nat.le_of_ble_eq_true rfl), (Nat.le_of_ble_eq_true rfl)⟩ rfl (by decide) (by decide) (by decide) (List.forall_mem_cons.mpr ⟨⟨by decide, 1, by decide, u407⟩, (fun _ h => absurd h List.not_mem_nil)⟩) u487 (fun q H locs h1 h2 h5 => ?_)
    refine g_astore (i := 5) (lv' := [(0, va_rf (some a0)), (1, .int x1), (2, .int x2), (3, .int x3), (4, va_rf (some o))]) hx hb dL_rowIn_19 hl (by decide) (fun v => rfl) (fun ls hl => ?_)
    refine lv_iconst (v := nI (1 + 1)) hx hb dL_rowIn_21 (by decide) ?_
    exact l_endX hF hsz rfl hO hT0 h1 h2 h5 dL_rowIn_22 (Nat.le_of_ble_eq_true rfl) (Nat.le_of_ble_eq_true rfl)
  · exact absurd hi (by simp)
abbrev rmL_often : Room := { frames := 4, cells := 0, slots := 0, locals := 91 }
abbrev rmLx_often : Room := { frames := 9, cells := 1, slots := 6, locals := 158 }
theorem kL_often : lKc yL_often cL_often 6 [(0, 12, 15, 13), (0, 12, 19, 15)] 5 := ⟨u941, u62, by decide +kernel, by decide +kernel, by decide +kernel⟩
set_option maxHeartbeats 4000000 in
set_option maxRecDepth 100000 in
theorem cL_often_r {l : Launch} {D : va_G} {Y : Nat → ClassId} {S : GS} {hs : Nat} {a0 o : Nat} {x1 : Int32} {x2 : Int32} {x3 : Int32} {r : Int32} (h : f_X4_often S a0 x1 x2 x3 = some (.inl r)) {yl : ClassId} {c0 : Value} (hT : gT S a0 = 5) : lMet l yL_often (lWs yL_often cL_often 6 [(0, 12, 15, 13), (0, 12, 19, 15)]) rmL_often [va_rf (some a0), .int x1, .int x2, .int x3, va_rf (some o)] D Y S hs .long yl o c0 0 (.long r.toInt64) S hs := by
  refine l_ofW (by decide +kernel) ⟨(Nat.le_of_ble_eq_true rfl), (List.forall_mem_cons.mpr ⟨rf_cat _, (List.forall_mem_cons.mpr ⟨rfl, (List.forall_mem_cons.mpr ⟨rfl, (List.forall_mem_cons.mpr ⟨rfl, (List.forall_mem_cons.mpr ⟨rf_cat _, (fun _ h => absurd h List.not_mem_nil)⟩)⟩)⟩)⟩)⟩)⟩ ?_
  intro p e s m args below meth c ls hsz htab hF hNc hAr hO hT0 hM hl
  have hl : lv_has ls 6 [(0, va_rf (some a0)), (1, .int x1), (2, .int x2), (3, .int x3), (4, va_rf (some o))] := by rw [g_args [va_rf (some a0), .int x1, .int x2, .int x3, va_rf (some o)] 0 (List.forall_mem_cons.mpr ⟨rf_cat _, (List.forall_mem_cons.mpr ⟨rfl, (List.forall_mem_cons.mpr ⟨rfl, (List.forall_mem_cons.mpr ⟨rfl, (List.forall_mem_cons.mpr ⟨rf_cat _, (fun _ h => absurd h List.not_mem_nil)⟩)⟩)⟩)⟩)⟩)] at hl; exact hl
  have hF : gF p s m args meth c RL cL_often 6 (some .int) D Y (gA S hs) := hF
  have hx := hF.1
  have hb := hF.2.1
  refine g_aload hx hb dL_often_0 (lv_at hl 4 rfl) ?_
  refine lv_iconst (v := 0) hx hb dL_often_2 (by decide) ?_
  refine g_aload_n hx hb dL_often_3 rfl (lv_at hl 0 rfl) ?_
  refine lv_iload_n hx hb dL_often_4 rfl (lv_at hl 1 rfl) ?_
  refine lv_iload_n hx hb dL_often_5 rfl (lv_at hl 2 rfl) ?_
  refine lv_iload_n hx hb dL_often_6 rfl (lv_at hl 3 rfl) ?_
  refine g_callV (As := [.int x1, .int x2, .int x3]) (rest := [.int 0, va_rf (some o)]) hF hM (c_X4_often h) k_X4_often u942 u943 u944 rfl rfl hT rfl hl.1 rfl (Nat.le_of_ble_eq_true rfl) dL_often_7 ⟨(Nat.le_of_ble_eq_true rfl), (Nat.le_of_ble_eq_true rfl)⟩ ⟨(Nat.le_of_ble_eq_true rfl), (Nat.le_of_ble_eq_true rfl)⟩ (fun H locs hM => ?_)
  refine lv_i2l hx hb dL_often_10 rfl ?_
  refine l_last hF hsz hM hAr hO hT0 dL_often_11 (fun H locs h1 h2 h3 h4 h5 => ?_)
  refine lv_goto (tgt := 23) hx hb dL_often_12 (by decide) ?_
  refine lv_iconst (v := 0) hx hb dL_often_23 (by decide) ?_
  exact l_end hF rfl h1 h2 h3 h4 h5 dL_often_24 (Nat.le_of_ble_eq_true rfl) (Nat.le_of_ble_eq_true rfl)
set_option maxHeartbeats 4000000 in
set_option maxRecDepth 100000 in
theorem cL_often_x {l : Launch} {D : va_G} {Y : Nat → ClassId} {S : GS} {hs : Nat} {a0 o : Nat} {x1 : Int32} {x2 : Int32} {x3 : Int32} {x : Nat} (hfl : l.stackTraces = false) (h : f_X4_often S a0 x1 x2 x3 = some (.inr x)) {i : Nat} {yl : ClassId} {c0 : Value} (hT : gT S a0 = 5) (hi : ([1, 2] : List Nat)[i]? = some x) : lMet l yL_often (lWs yL_often cL_often 6 [(0, 12, 15, 13), (0, 12, 19, 15)]) rmLx_often [va_rf (some a0), .int x1, .int x2, .int x3, va_rf (some o)] D Y S hs .long yl o c0 (nI (i + 1)) c0 S hs := by
  refine l_ofW (by decide +kernel) ⟨(Nat.le_of_ble_eq_true rfl), (List.forall_mem_cons.mpr ⟨rf_cat _, (List.forall_mem_cons.mpr ⟨rfl, (List.forall_mem_cons.mpr ⟨rfl, (List.forall_mem_cons.mpr ⟨rfl, (List.forall_mem_cons.mpr ⟨rf_cat _, (fun _ h => absurd h List.not_mem_nil)⟩)⟩)⟩)⟩)⟩)⟩ ?_
  intro p e s m args below meth c ls hsz htab hF hNc hAr hO hT0 hM hl
  have hl : lv_has ls 6 [(0, va_rf (some a0)), (1, .int x1), (2, .int x2), (3, .int x3), (4, va_rf (some o))] := by rw [g_args [va_rf (some a0), .int x1, .int x2, .int x3, va_rf (some o)] 0 (List.forall_mem_cons.mpr ⟨rf_cat _, (List.forall_mem_cons.mpr ⟨rfl, (List.forall_mem_cons.mpr ⟨rfl, (List.forall_mem_cons.mpr ⟨rfl, (List.forall_mem_cons.mpr ⟨rf_cat _, (fun _ h => absurd h List.not_mem_nil)⟩)⟩)⟩)⟩)⟩)] at hl; exact hl
  have hF : gF p s m args meth c RL cL_often 6 (some .int) D Y (gA S hs) := hF
  have hx := hF.1
  have hb := hF.2.1
  rcases i with _ | _ | i
  · have hx9 := Option.some.inj hi
    subst hx9
    refine g_aload hx hb dL_often_0 (lv_at hl 4 rfl) ?_
    refine lv_iconst (v := 0) hx hb dL_often_2 (by decide) ?_
    refine g_aload_n hx hb dL_often_3 rfl (lv_at hl 0 rfl) ?_
    refine lv_iload_n hx hb dL_often_4 rfl (lv_at hl 1 rfl) ?_
    refine lv_iload_n hx hb dL_often_5 rfl (lv_at hl 2 rfl) ?_
    refine lv_iload_n hx hb dL_often_6 rfl (lv_at hl 3 rfl) ?_
    refine l_callX (pre := []) (x0 := ⟨0, 12, 15, 13⟩) (suf := [⟨0, 12, 19, 15⟩]) (As := [.int x1, .int x2, .int x3]) (rest := [.int 0, va_rf (some o)]) hF hNc hM htab (cx_X4_often hfl h) k_X4_often u942 u943 u944 rfl rfl hT rfl hl.1 rfl (Nat.le_of_ble_eq_true rfl) dL_often_7 ⟨(Nat.le_of_ble_eq_true rfl), (Nat.le_of_ble_eq_true rfl)⟩ ⟨(Nat.le_of_ble_eq_true rfl), (Nat.le_of_ble_eq_true rfl)⟩ rfl (by decide) (by decide) (by decide) (fun _ h => absurd h List.not_mem_nil) u407 (fun q H locs h1 h2 h5 => ?_)
    refine g_astore (i := 5) (lv' := [(0, va_rf (some a0)), (1, .int x1), (2, .int x2), (3, .int x3), (4, va_rf (some o))]) hx hb dL_often_15 hl (by decide) (fun v => rfl) (fun ls hl => ?_)
    refine lv_iconst (v := nI (0 + 1)) hx hb dL_often_17 (by decide) ?_
    exact l_endX hF hsz rfl hO hT0 h1 h2 h5 dL_often_18 (Nat.le_of_ble_eq_true rfl) (Nat.le_of_ble_eq_true rfl)
  · have hx9 := Option.some.inj hi
    subst hx9
    refine g_aload hx hb dL_often_0 (lv_at hl 4 rfl) ?_
    refine lv_iconst (v := 0) hx hb dL_often_2 (by decide) ?_
    refine g_aload_n hx hb dL_often_3 rfl (lv_at hl 0 rfl) ?_
    refine lv_iload_n hx hb dL_often_4 rfl (lv_at hl 1 rfl) ?_
    refine lv_iload_n hx hb dL_often_5 rfl (lv_at hl 2 rfl) ?_
    refine lv_iload_n hx hb dL_often_6 rfl (lv_at hl 3 rfl) ?_
    refine l_callX (pre := [⟨0, 12, 15, 13⟩]) (x0 := ⟨0, 12, 19, 15⟩) (suf := []) (As := [.int x1, .int x2, .int x3]) (rest := [.int 0, va_rf (some o)]) hF hNc hM htab (cx_X4_often hfl h) k_X4_often u942 u943 u944 rfl rfl hT rfl hl.1 rfl (Nat.le_of_ble_eq_true rfl) dL_often_7 ⟨(Nat.le_of_ble_eq_true rfl), (Nat.le_of_ble_eq_true rfl)⟩ ⟨(Nat.le_of_ble_eq_true rfl), (Nat.le_of_ble_eq_true rfl)⟩ rfl (by decide) (by decide) (by decide) (List.forall_mem_cons.mpr ⟨⟨by decide, 1, by decide, u407⟩, (fun _ h => absurd h List.not_mem_nil)⟩) u487 (fun q H locs h1 h2 h5 => ?_)
    refine g_astore (i := 5) (lv' := [(0, va_rf (some a0)), (1, .int x1), (2, .int x2), (3, .int x3), (4, va_rf (some o))]) hx hb dL_often_19 hl (by decide) (fun v => rfl) (fun ls hl => ?_)
    refine lv_iconst (v := nI (1 + 1)) hx hb dL_often_21 (by decide) ?_
    exact l_endX hF hsz rfl hO hT0 h1 h2 h5 dL_often_22 (Nat.le_of_ble_eq_true rfl) (Nat.le_of_ble_eq_true rfl)
  · exact absurd hi (by simp)
abbrev rmL_areApart : Room := { frames := 5, cells := 0, slots := 0, locals := 116 }
abbrev rmLx_areApart : Room := { frames := 9, cells := 1, slots := 6, locals := 157 }
theorem kL_areApart : lKc yL_areApart cL_areApart 5 [(0, 17, 20, 13), (0, 17, 24, 15)] 4 := ⟨u949, u62, by decide +kernel, by decide +kernel, by decide +kernel⟩
set_option maxHeartbeats 4000000 in
set_option maxRecDepth 100000 in
theorem cL_areApart_r {l : Launch} {D : va_G} {Y : Nat → ClassId} {S : GS} {hs : Nat} {a0 o : Nat} {x1 : Int32} {x2 : Int32} {r : Int32} (h : f_X4_areApart S a0 x1 x2 = some (.inl r)) {yl : ClassId} {c0 : Value} (hT : gT S a0 = 5) {v : Int64} (hv : (if r = 0 then (0 : Int64) else 1) = v) : lMet l yL_areApart (lWs yL_areApart cL_areApart 5 [(0, 17, 20, 13), (0, 17, 24, 15)]) rmL_areApart [va_rf (some a0), .int x1, .int x2, va_rf (some o)] D Y S hs .long yl o c0 0 (.long v) S hs := by
  refine l_ofW (by decide +kernel) ⟨(Nat.le_of_ble_eq_true rfl), (List.forall_mem_cons.mpr ⟨rf_cat _, (List.forall_mem_cons.mpr ⟨rfl, (List.forall_mem_cons.mpr ⟨rfl, (List.forall_mem_cons.mpr ⟨rf_cat _, (fun _ h => absurd h List.not_mem_nil)⟩)⟩)⟩)⟩)⟩ ?_
  intro p e s m args below meth c ls hsz htab hF hNc hAr hO hT0 hM hl
  have hl : lv_has ls 5 [(0, va_rf (some a0)), (1, .int x1), (2, .int x2), (3, va_rf (some o))] := by rw [g_args [va_rf (some a0), .int x1, .int x2, va_rf (some o)] 0 (List.forall_mem_cons.mpr ⟨rf_cat _, (List.forall_mem_cons.mpr ⟨rfl, (List.forall_mem_cons.mpr ⟨rfl, (List.forall_mem_cons.mpr ⟨rf_cat _, (fun _ h => absurd h List.not_mem_nil)⟩)⟩)⟩)⟩)] at hl; exact hl
  have hF : gF p s m args meth c RL cL_areApart 5 (some .int) D Y (gA S hs) := hF
  have hx := hF.1
  have hb := hF.2.1
  refine g_aload_n hx hb dL_areApart_0 rfl (lv_at hl 3 rfl) ?_
  refine lv_iconst (v := 0) hx hb dL_areApart_1 (by decide) ?_
  refine g_aload_n hx hb dL_areApart_2 rfl (lv_at hl 0 rfl) ?_
  refine lv_iload_n hx hb dL_areApart_3 rfl (lv_at hl 1 rfl) ?_
  refine lv_iload_n hx hb dL_areApart_4 rfl (lv_at hl 2 rfl) ?_
  refine g_callV (As := [.int x1, .int x2]) (rest := [.int 0, va_rf (some o)]) hF hM (c_X4_areApart h) k_X4_areApart u950 u951 u952 rfl rfl hT rfl hl.1 rfl (Nat.le_of_ble_eq_true rfl) dL_areApart_5 ⟨(Nat.le_of_ble_eq_true rfl), (Nat.le_of_ble_eq_true rfl)⟩ ⟨(Nat.le_of_ble_eq_true rfl), (Nat.le_of_ble_eq_true rfl)⟩ (fun H locs hM => ?_)
  refine lv_if_eq (tgt := 15) hx hb dL_areApart_8 (by decide) (fun c1 => ?_) (fun c1 => ?_)
  · have e := hv.symm.trans (if_pos c1)
    subst e
    refine lv_lconst (v := 0) hx hb dL_areApart_15 (by decide) ?_
    refine l_last hF hsz hM hAr hO hT0 dL_areApart_16 (fun H locs h1 h2 h3 h4 h5 => ?_)
    refine lv_goto (tgt := 28) hx hb dL_areApart_17 (by decide) ?_
    refine lv_iconst (v := 0) hx hb dL_areApart_28 (by decide) ?_
    exact l_end hF rfl h1 h2 h3 h4 h5 dL_areApart_29 (Nat.le_of_ble_eq_true rfl) (Nat.le_of_ble_eq_true rfl)
  · have e := hv.symm.trans (if_neg c1)
    subst e
    refine lv_lconst (v := 1) hx hb dL_areApart_11 (by decide) ?_
    refine lv_goto (tgt := 16) hx hb dL_areApart_12 (by decide) ?_
    refine l_last hF hsz hM hAr hO hT0 dL_areApart_16 (fun H locs h1 h2 h3 h4 h5 => ?_)
    refine lv_goto (tgt := 28) hx hb dL_areApart_17 (by decide) ?_
    refine lv_iconst (v := 0) hx hb dL_areApart_28 (by decide) ?_
    exact l_end hF rfl h1 h2 h3 h4 h5 dL_areApart_29 (Nat.le_of_ble_eq_true rfl) (Nat.le_of_ble_eq_true rfl)
set_option maxHeartbeats 4000000 in
set_option maxRecDepth 100000 in
theorem cL_areApart_x {l : Launch} {D : va_G} {Y : Nat → ClassId} {S : GS} {hs : Nat} {a0 o : Nat} {x1 : Int32} {x2 : Int32} {x : Nat} (hfl : l.stackTraces = false) (h : f_X4_areApart S a0 x1 x2 = some (.inr x)) {i : Nat} {yl : ClassId} {c0 : Value} (hT : gT S a0 = 5) (hi : ([1, 2] : List Nat)[i]? = some x) : lMet l yL_areApart (lWs yL_areApart cL_areApart 5 [(0, 17, 20, 13), (0, 17, 24, 15)]) rmLx_areApart [va_rf (some a0), .int x1, .int x2, va_rf (some o)] D Y S hs .long yl o c0 (nI (i + 1)) c0 S hs := by
  refine l_ofW (by decide +kernel) ⟨(Nat.le_of_ble_eq_true rfl), (List.forall_mem_cons.mpr ⟨rf_cat _, (List.forall_mem_cons.mpr ⟨rfl, (List.forall_mem_cons.mpr ⟨rfl, (List.forall_mem_cons.mpr ⟨rf_cat _, (fun _ h => absurd h List.not_mem_nil)⟩)⟩)⟩)⟩)⟩ ?_
  intro p e s m args below meth c ls hsz htab hF hNc hAr hO hT0 hM hl
  have hl : lv_has ls 5 [(0, va_rf (some a0)), (1, .int x1), (2, .int x2), (3, va_rf (some o))] := by rw [g_args [va_rf (some a0), .int x1, .int x2, va_rf (some o)] 0 (List.forall_mem_cons.mpr ⟨rf_cat _, (List.forall_mem_cons.mpr ⟨rfl, (List.forall_mem_cons.mpr ⟨rfl, (List.forall_mem_cons.mpr ⟨rf_cat _, (fun _ h => absurd h List.not_mem_nil)⟩)⟩)⟩)⟩)] at hl; exact hl
  have hF : gF p s m args meth c RL cL_areApart 5 (some .int) D Y (gA S hs) := hF
  have hx := hF.1
  have hb := hF.2.1
  rcases i with _ | _ | i
  · have hx9 := Option.some.inj hi
    subst hx9
    refine g_aload_n hx hb dL_areApart_0 rfl (lv_at hl 3 rfl) ?_
    refine lv_iconst (v := 0) hx hb dL_areApart_1 (by decide) ?_
    refine g_aload_n hx hb dL_areApart_2 rfl (lv_at hl 0 rfl) ?_
    refine lv_iload_n hx hb dL_areApart_3 rfl (lv_at hl 1 rfl) ?_
    refine lv_iload_n hx hb dL_areApart_4 rfl (lv_at hl 2 rfl) ?_
    refine l_callX (pre := []) (x0 := ⟨0, 17, 20, 13⟩) (suf := [⟨0, 17, 24, 15⟩]) (As := [.int x1, .int x2]) (rest := [.int 0, va_rf (some o)]) hF hNc hM htab (cx_X4_areApart hfl h) k_X4_areApart u950 u951 u952 rfl rfl hT rfl hl.1 rfl (Nat.le_of_ble_eq_true rfl) dL_areApart_5 ⟨(Nat.le_of_ble_eq_true rfl), (Nat.le_of_ble_eq_true rfl)⟩ ⟨(Nat.le_of_ble_eq_true rfl), (Nat.le_of_ble_eq_true rfl)⟩ rfl (by decide) (by decide) (by decide) (fun _ h => absurd h List.not_mem_nil) u407 (fun q H locs h1 h2 h5 => ?_)
    refine g_astore (i := 4) (lv' := [(0, va_rf (some a0)), (1, .int x1), (2, .int x2), (3, va_rf (some o))]) hx hb dL_areApart_20 hl (by decide) (fun v => rfl) (fun ls hl => ?_)
    refine lv_iconst (v := nI (0 + 1)) hx hb dL_areApart_22 (by decide) ?_
    exact l_endX hF hsz rfl hO hT0 h1 h2 h5 dL_areApart_23 (Nat.le_of_ble_eq_true rfl) (Nat.le_of_ble_eq_true rfl)
  · have hx9 := Option.some.inj hi
    subst hx9
    refine g_aload_n hx hb dL_areApart_0 rfl (lv_at hl 3 rfl) ?_
    refine lv_iconst (v := 0) hx hb dL_areApart_1 (by decide) ?_
    refine g_aload_n hx hb dL_areApart_2 rfl (lv_at hl 0 rfl) ?_
    refine lv_iload_n hx hb dL_areApart_3 rfl (lv_at hl 1 rfl) ?_
    refine lv_iload_n hx hb dL_areApart_4 rfl (lv_at hl 2 rfl) ?_
    refine l_callX (pre := [⟨0, 17, 20, 13⟩]) (x0 := ⟨0, 17, 24, 15⟩) (suf := []) (As := [.int x1, .int x2]) (rest := [.int 0, va_rf (some o)]) hF hNc hM htab (cx_X4_areApart hfl h) k_X4_areApart u950 u951 u952 rfl rfl hT rfl hl.1 rfl (Nat.le_of_ble_eq_true rfl) dL_areApart_5 ⟨(Nat.le_of_ble_eq_true rfl), (Nat.le_of_ble_eq_true rfl)⟩ ⟨(Nat.le_of_ble_eq_true rfl), (Nat.le_of_ble_eq_true rfl)⟩ rfl (by decide) (by decide) (by decide) (List.forall_mem_cons.mpr ⟨⟨by decide, 1, by decide, u407⟩, (fun _ h => absurd h List.not_mem_nil)⟩) u487 (fun q H locs h1 h2 h5 => ?_)
    refine g_astore (i := 4) (lv' := [(0, va_rf (some a0)), (1, .int x1), (2, .int x2), (3, va_rf (some o))]) hx hb dL_areApart_24 hl (by decide) (fun v => rfl) (fun ls hl => ?_)
    refine lv_iconst (v := nI (1 + 1)) hx hb dL_areApart_26 (by decide) ?_
    exact l_endX hF hsz rfl hO hT0 h1 h2 h5 dL_areApart_27 (Nat.le_of_ble_eq_true rfl) (Nat.le_of_ble_eq_true rfl)
  · exact absurd hi (by simp)
abbrev rmL_end : Room := { frames := 4, cells := 0, slots := 0, locals := 87 }
abbrev rmLx_end : Room := { frames := 9, cells := 1, slots := 6, locals := 157 }
theorem kL_end : lKc yL_end cL_end 5 [(0, 10, 13, 13), (0, 10, 17, 15), (0, 10, 21, 73)] 4 := ⟨u956, u62, by decide +kernel, by decide +kernel, by decide +kernel⟩
set_option maxHeartbeats 4000000 in
set_option maxRecDepth 100000 in
theorem cL_end_r {l : Launch} {D : va_G} {Y : Nat → ClassId} {S : GS} {hs : Nat} {a0 o : Nat} {x1 : Int32} {x2 : Int32} {r : Int32} (h : f_X4_end S a0 x1 x2 = some (.inl r)) {yl : ClassId} {c0 : Value} (hT : gT S a0 = 5) : lMet l yL_end (lWs yL_end cL_end 5 [(0, 10, 13, 13), (0, 10, 17, 15), (0, 10, 21, 73)]) rmL_end [va_rf (some a0), .int x1, .int x2, va_rf (some o)] D Y S hs .long yl o c0 0 (.long r.toInt64) S hs := by
  refine l_ofW (by decide +kernel) ⟨(Nat.le_of_ble_eq_true rfl), (List.forall_mem_cons.mpr ⟨rf_cat _, (List.forall_mem_cons.mpr ⟨rfl, (List.forall_mem_cons.mpr ⟨rfl, (List.forall_mem_cons.mpr ⟨rf_cat _, (fun _ h => absurd h List.not_mem_nil)⟩)⟩)⟩)⟩)⟩ ?_
  intro p e s m args below meth c ls hsz htab hF hNc hAr hO hT0 hM hl
  have hl : lv_has ls 5 [(0, va_rf (some a0)), (1, .int x1), (2, .int x2), (3, va_rf (some o))] := by rw [g_args [va_rf (some a0), .int x1, .int x2, va_rf (some o)] 0 (List.forall_mem_cons.mpr ⟨rf_cat _, (List.forall_mem_cons.mpr ⟨rfl, (List.forall_mem_cons.mpr ⟨rfl, (List.forall_mem_cons.mpr ⟨rf_cat _, (fun _ h => absurd h List.not_mem_nil)⟩)⟩)⟩)⟩)] at hl; exact hl
  have hF : gF p s m args meth c RL cL_end 5 (some .int) D Y (gA S hs) := hF
  have hx := hF.1
  have hb := hF.2.1
  refine g_aload_n hx hb dL_end_0 rfl (lv_at hl 3 rfl) ?_
  refine lv_iconst (v := 0) hx hb dL_end_1 (by decide) ?_
  refine g_aload_n hx hb dL_end_2 rfl (lv_at hl 0 rfl) ?_
  refine lv_iload_n hx hb dL_end_3 rfl (lv_at hl 1 rfl) ?_
  refine lv_iload_n hx hb dL_end_4 rfl (lv_at hl 2 rfl) ?_
  refine g_callV (As := [.int x1, .int x2]) (rest := [.int 0, va_rf (some o)]) hF hM (c_X4_end h) k_X4_end u957 u958 u959 rfl rfl hT rfl hl.1 rfl (Nat.le_of_ble_eq_true rfl) dL_end_5 ⟨(Nat.le_of_ble_eq_true rfl), (Nat.le_of_ble_eq_true rfl)⟩ ⟨(Nat.le_of_ble_eq_true rfl), (Nat.le_of_ble_eq_true rfl)⟩ (fun H locs hM => ?_)
  refine lv_i2l hx hb dL_end_8 rfl ?_
  refine l_last hF hsz hM hAr hO hT0 dL_end_9 (fun H locs h1 h2 h3 h4 h5 => ?_)
  refine lv_goto (tgt := 25) hx hb dL_end_10 (by decide) ?_
  refine lv_iconst (v := 0) hx hb dL_end_25 (by decide) ?_
  exact l_end hF rfl h1 h2 h3 h4 h5 dL_end_26 (Nat.le_of_ble_eq_true rfl) (Nat.le_of_ble_eq_true rfl)
set_option maxHeartbeats 4000000 in
set_option maxRecDepth 100000 in
theorem cL_end_x {l : Launch} {D : va_G} {Y : Nat → ClassId} {S : GS} {hs : Nat} {a0 o : Nat} {x1 : Int32} {x2 : Int32} {x : Nat} (hfl : l.stackTraces = false) (h : f_X4_end S a0 x1 x2 = some (.inr x)) {i : Nat} {yl : ClassId} {c0 : Value} (hT : gT S a0 = 5) (hi : ([1, 2, 5] : List Nat)[i]? = some x) : lMet l yL_end (lWs yL_end cL_end 5 [(0, 10, 13, 13), (0, 10, 17, 15), (0, 10, 21, 73)]) rmLx_end [va_rf (some a0), .int x1, .int x2, va_rf (some o)] D Y S hs .long yl o c0 (nI (i + 1)) c0 S hs := by
  refine l_ofW (by decide +kernel) ⟨(Nat.le_of_ble_eq_true rfl), (List.forall_mem_cons.mpr ⟨rf_cat _, (List.forall_mem_cons.mpr ⟨rfl, (List.forall_mem_cons.mpr ⟨rfl, (List.forall_mem_cons.mpr ⟨rf_cat _, (fun _ h => absurd h List.not_mem_nil)⟩)⟩)⟩)⟩)⟩ ?_
  intro p e s m args below meth c ls hsz htab hF hNc hAr hO hT0 hM hl
  have hl : lv_has ls 5 [(0, va_rf (some a0)), (1, .int x1), (2, .int x2), (3, va_rf (some o))] := by rw [g_args [va_rf (some a0), .int x1, .int x2, va_rf (some o)] 0 (List.forall_mem_cons.mpr ⟨rf_cat _, (List.forall_mem_cons.mpr ⟨rfl, (List.forall_mem_cons.mpr ⟨rfl, (List.forall_mem_cons.mpr ⟨rf_cat _, (fun _ h => absurd h List.not_mem_nil)⟩)⟩)⟩)⟩)] at hl; exact hl
  have hF : gF p s m args meth c RL cL_end 5 (some .int) D Y (gA S hs) := hF
  have hx := hF.1
  have hb := hF.2.1
  rcases i with _ | _ | _ | i
  · have hx9 := Option.some.inj hi
    subst hx9
    refine g_aload_n hx hb dL_end_0 rfl (lv_at hl 3 rfl) ?_
    refine lv_iconst (v := 0) hx hb dL_end_1 (by decide) ?_
    refine g_aload_n hx hb dL_end_2 rfl (lv_at hl 0 rfl) ?_
    refine lv_iload_n hx hb dL_end_3 rfl (lv_at hl 1 rfl) ?_
    refine lv_iload_n hx hb dL_end_4 rfl (lv_at hl 2 rfl) ?_
    refine l_callX (pre := []) (x0 := ⟨0, 10, 13, 13⟩) (suf := [⟨0, 10, 17, 15⟩, ⟨0, 10, 21, 73⟩]) (As := [.int x1, .int x2]) (rest := [.int 0, va_rf (some o)]) hF hNc hM htab (cx_X4_end hfl h) k_X4_end u957 u958 u959 rfl rfl hT rfl hl.1 rfl (Nat.le_of_ble_eq_true rfl) dL_end_5 ⟨(Nat.le_of_ble_eq_true rfl), (Nat.le_of_ble_eq_true rfl)⟩ ⟨(Nat.le_of_ble_eq_true rfl), (Nat.le_of_ble_eq_true rfl)⟩ rfl (by decide) (by decide) (by decide) (fun _ h => absurd h List.not_mem_nil) u407 (fun q H locs h1 h2 h5 => ?_)
    refine g_astore (i := 4) (lv' := [(0, va_rf (some a0)), (1, .int x1), (2, .int x2), (3, va_rf (some o))]) hx hb dL_end_13 hl (by decide) (fun v => rfl) (fun ls hl => ?_)
    refine lv_iconst (v := nI (0 + 1)) hx hb dL_end_15 (by decide) ?_
    exact l_endX hF hsz rfl hO hT0 h1 h2 h5 dL_end_16 (Nat.le_of_ble_eq_true rfl) (Nat.le_of_ble_eq_true rfl)
  · have hx9 := Option.some.inj hi
    subst hx9
    refine g_aload_n hx hb dL_end_0 rfl (lv_at hl 3 rfl) ?_
    refine lv_iconst (v := 0) hx hb dL_end_1 (by decide) ?_
    refine g_aload_n hx hb dL_end_2 rfl (lv_at hl 0 rfl) ?_
    refine lv_iload_n hx hb dL_end_3 rfl (lv_at hl 1 rfl) ?_
    refine lv_iload_n hx hb dL_end_4 rfl (lv_at hl 2 rfl) ?_
    refine l_callX (pre := [⟨0, 10, 13, 13⟩]) (x0 := ⟨0, 10, 17, 15⟩) (suf := [⟨0, 10, 21, 73⟩]) (As := [.int x1, .int x2]) (rest := [.int 0, va_rf (some o)]) hF hNc hM htab (cx_X4_end hfl h) k_X4_end u957 u958 u959 rfl rfl hT rfl hl.1 rfl (Nat.le_of_ble_eq_true rfl) dL_end_5 ⟨(Nat.le_of_ble_eq_true rfl), (Nat.le_of_ble_eq_true rfl)⟩ ⟨(Nat.le_of_ble_eq_true rfl), (Nat.le_of_ble_eq_true rfl)⟩ rfl (by decide) (by decide) (by decide) (List.forall_mem_cons.mpr ⟨⟨by decide, 1, by decide, u407⟩, (fun _ h => absurd h List.not_mem_nil)⟩) u487 (fun q H locs h1 h2 h5 => ?_)
    refine g_astore (i := 4) (lv' := [(0, va_rf (some a0)), (1, .int x1), (2, .int x2), (3, va_rf (some o))]) hx hb dL_end_17 hl (by decide) (fun v => rfl) (fun ls hl => ?_)
    refine lv_iconst (v := nI (1 + 1)) hx hb dL_end_19 (by decide) ?_
    exact l_endX hF hsz rfl hO hT0 h1 h2 h5 dL_end_20 (Nat.le_of_ble_eq_true rfl) (Nat.le_of_ble_eq_true rfl)
  · have hx9 := Option.some.inj hi
    subst hx9
    refine g_aload_n hx hb dL_end_0 rfl (lv_at hl 3 rfl) ?_
    refine lv_iconst (v := 0) hx hb dL_end_1 (by decide) ?_
    refine g_aload_n hx hb dL_end_2 rfl (lv_at hl 0 rfl) ?_
    refine lv_iload_n hx hb dL_end_3 rfl (lv_at hl 1 rfl) ?_
    refine lv_iload_n hx hb dL_end_4 rfl (lv_at hl 2 rfl) ?_
    refine l_callX (pre := [⟨0, 10, 13, 13⟩, ⟨0, 10, 17, 15⟩]) (x0 := ⟨0, 10, 21, 73⟩) (suf := []) (As := [.int x1, .int x2]) (rest := [.int 0, va_rf (some o)]) hF hNc hM htab (cx_X4_end hfl h) k_X4_end u957 u958 u959 rfl rfl hT rfl hl.1 rfl (Nat.le_of_ble_eq_true rfl) dL_end_5 ⟨(Nat.le_of_ble_eq_true rfl), (Nat.le_of_ble_eq_true rfl)⟩ ⟨(Nat.le_of_ble_eq_true rfl), (Nat.le_of_ble_eq_true rfl)⟩ rfl (by decide) (by decide) (by decide) (List.forall_mem_cons.mpr ⟨⟨by decide, 1, by decide, u407⟩, (List.forall_mem_cons.mpr ⟨⟨by decide, 2, by decide, u487⟩, (fun _ h => absurd h List.not_mem_nil)⟩)⟩) u727 (fun q H locs h1 h2 h5 => ?_)
    refine g_astore (i := 4) (lv' := [(0, va_rf (some a0)), (1, .int x1), (2, .int x2), (3, va_rf (some o))]) hx hb dL_end_21 hl (by decide) (fun v => rfl) (fun ls hl => ?_)
    refine lv_iconst (v := nI (2 + 1)) hx hb dL_end_23 (by decide) ?_
    exact l_endX hF hsz rfl hO hT0 h1 h2 h5 dL_end_24 (Nat.le_of_ble_eq_true rfl) (Nat.le_of_ble_eq_true rfl)
  · exact absurd hi (by simp)
abbrev rmL_enter : Room := { frames := 4, cells := 0, slots := 0, locals := 95 }
abbrev rmLx_enter : Room := { frames := 9, cells := 1, slots := 6, locals := 158 }
theorem kL_enter : lKc yL_enter cL_enter 7 [(0, 21, 24, 13), (0, 21, 28, 15), (0, 21, 32, 71), (0, 21, 36, 17), (0, 21, 40, 73)] 6 := ⟨u966, u62, by decide +kernel, by decide +kernel, by decide +kernel⟩
set_option maxHeartbeats 4000000 in
set_option maxRecDepth 100000 in
theorem cL_enter_r {l : Launch} {D : va_G} {Y : Nat → ClassId} {S : GS} {hs : Nat} {a0 o : Nat} {x1 : Int32} {x2 : Int32} {x3 : Int32} {x4 : Int32} {r : Int32} {S' : GS} (h : f_X4_enter S a0 x1 x2 x3 x4 = some (.inl (r, S'))) {yl : ClassId} {c0 : Value} (hT : gT S a0 = 5) {v : Int64} (hv : (if r = 0 then (0 : Int64) else 1) = v) : lMet l yL_enter (lWs yL_enter cL_enter 7 [(0, 21, 24, 13), (0, 21, 28, 15), (0, 21, 32, 71), (0, 21, 36, 17), (0, 21, 40, 73)]) rmL_enter [va_rf (some a0), .int x1, .int x2, .int x3, .int x4, va_rf (some o)] D Y S hs .long yl o c0 0 (.long v) S' hs := by
  refine l_ofW (by decide +kernel) ⟨(Nat.le_of_ble_eq_true rfl), (List.forall_mem_cons.mpr ⟨rf_cat _, (List.forall_mem_cons.mpr ⟨rfl, (List.forall_mem_cons.mpr ⟨rfl, (List.forall_mem_cons.mpr ⟨rfl, (List.forall_mem_cons.mpr ⟨rfl, (List.forall_mem_cons.mpr ⟨rf_cat _, (fun _ h => absurd h List.not_mem_nil)⟩)⟩)⟩)⟩)⟩)⟩)⟩ ?_
  intro p e s m args below meth c ls hsz htab hF hNc hAr hO hT0 hM hl
  have hl : lv_has ls 7 [(0, va_rf (some a0)), (1, .int x1), (2, .int x2), (3, .int x3), (4, .int x4), (5, va_rf (some o))] := by rw [g_args [va_rf (some a0), .int x1, .int x2, .int x3, .int x4, va_rf (some o)] 0 (List.forall_mem_cons.mpr ⟨rf_cat _, (List.forall_mem_cons.mpr ⟨rfl, (List.forall_mem_cons.mpr ⟨rfl, (List.forall_mem_cons.mpr ⟨rfl, (List.forall_mem_cons.mpr ⟨rfl, (List.forall_mem_cons.mpr ⟨rf_cat _, (fun _ h => absurd h List.not_mem_nil)⟩)⟩)⟩)⟩)⟩)⟩)] at hl; exact hl
  have hF : gF p s m args meth c RL cL_enter 7 (some .int) D Y (gA S hs) := hF
  have hx := hF.1
  have hb := hF.2.1
  refine g_aload hx hb dL_enter_0 (lv_at hl 5 rfl) ?_
  refine lv_iconst (v := 0) hx hb dL_enter_2 (by decide) ?_
  refine g_aload_n hx hb dL_enter_3 rfl (lv_at hl 0 rfl) ?_
  refine lv_iload_n hx hb dL_enter_4 rfl (lv_at hl 1 rfl) ?_
  refine lv_iload_n hx hb dL_enter_5 rfl (lv_at hl 2 rfl) ?_
  refine lv_iload_n hx hb dL_enter_6 rfl (lv_at hl 3 rfl) ?_
  refine lv_iload hx hb dL_enter_7 (lv_at hl 4 rfl) ?_
  refine g_callV (As := [.int x1, .int x2, .int x3, .int x4]) (rest := [.int 0, va_rf (some o)]) hF hM (c_X4_enter h) k_X4_enter u967 u968 u969 rfl rfl hT rfl hl.1 rfl (Nat.le_of_ble_eq_true rfl) dL_enter_9 ⟨(Nat.le_of_ble_eq_true rfl), (Nat.le_of_ble_eq_true rfl)⟩ ⟨(Nat.le_of_ble_eq_true rfl), (Nat.le_of_ble_eq_true rfl)⟩ (fun H locs hM => ?_)
  refine lv_if_eq (tgt := 19) hx hb dL_enter_12 (by decide) (fun c1 => ?_) (fun c1 => ?_)
  · have e := hv.symm.trans (if_pos c1)
    subst e
    refine lv_lconst (v := 0) hx hb dL_enter_19 (by decide) ?_
    refine l_last hF hsz hM hAr hO hT0 dL_enter_20 (fun H locs h1 h2 h3 h4 h5 => ?_)
    refine lv_goto (tgt := 44) hx hb dL_enter_21 (by decide) ?_
    refine lv_iconst (v := 0) hx hb dL_enter_44 (by decide) ?_
    exact l_end hF rfl h1 h2 h3 h4 h5 dL_enter_45 (Nat.le_of_ble_eq_true rfl) (Nat.le_of_ble_eq_true rfl)
  · have e := hv.symm.trans (if_neg c1)
    subst e
    refine lv_lconst (v := 1) hx hb dL_enter_15 (by decide) ?_
    refine lv_goto (tgt := 20) hx hb dL_enter_16 (by decide) ?_
    refine l_last hF hsz hM hAr hO hT0 dL_enter_20 (fun H locs h1 h2 h3 h4 h5 => ?_)
    refine lv_goto (tgt := 44) hx hb dL_enter_21 (by decide) ?_
    refine lv_iconst (v := 0) hx hb dL_enter_44 (by decide) ?_
    exact l_end hF rfl h1 h2 h3 h4 h5 dL_enter_45 (Nat.le_of_ble_eq_true rfl) (Nat.le_of_ble_eq_true rfl)
set_option maxHeartbeats 4000000 in
set_option maxRecDepth 100000 in
theorem cL_enter_x {l : Launch} {D : va_G} {Y : Nat → ClassId} {S : GS} {hs : Nat} {a0 o : Nat} {x1 : Int32} {x2 : Int32} {x3 : Int32} {x4 : Int32} {x : Nat} (hfl : l.stackTraces = false) (h : f_X4_enter S a0 x1 x2 x3 x4 = some (.inr x)) {i : Nat} {yl : ClassId} {c0 : Value} (hT : gT S a0 = 5) (hi : ([1, 2, 3, 4, 5] : List Nat)[i]? = some x) : lMet l yL_enter (lWs yL_enter cL_enter 7 [(0, 21, 24, 13), (0, 21, 28, 15), (0, 21, 32, 71), (0, 21, 36, 17), (0, 21, 40, 73)]) rmLx_enter [va_rf (some a0), .int x1, .int x2, .int x3, .int x4, va_rf (some o)] D Y S hs .long yl o c0 (nI (i + 1)) c0 S hs := by
  refine l_ofW (by decide +kernel) ⟨(Nat.le_of_ble_eq_true rfl), (List.forall_mem_cons.mpr ⟨rf_cat _, (List.forall_mem_cons.mpr ⟨rfl, (List.forall_mem_cons.mpr ⟨rfl, (List.forall_mem_cons.mpr ⟨rfl, (List.forall_mem_cons.mpr ⟨rfl, (List.forall_mem_cons.mpr ⟨rf_cat _, (fun _ h => absurd h List.not_mem_nil)⟩)⟩)⟩)⟩)⟩)⟩)⟩ ?_
  intro p e s m args below meth c ls hsz htab hF hNc hAr hO hT0 hM hl
  have hl : lv_has ls 7 [(0, va_rf (some a0)), (1, .int x1), (2, .int x2), (3, .int x3), (4, .int x4), (5, va_rf (some o))] := by rw [g_args [va_rf (some a0), .int x1, .int x2, .int x3, .int x4, va_rf (some o)] 0 (List.forall_mem_cons.mpr ⟨rf_cat _, (List.forall_mem_cons.mpr ⟨rfl, (List.forall_mem_cons.mpr ⟨rfl, (List.forall_mem_cons.mpr ⟨rfl, (List.forall_mem_cons.mpr ⟨rfl, (List.forall_mem_cons.mpr ⟨rf_cat _, (fun _ h => absurd h List.not_mem_nil)⟩)⟩)⟩)⟩)⟩)⟩)] at hl; exact hl
  have hF : gF p s m args meth c RL cL_enter 7 (some .int) D Y (gA S hs) := hF
  have hx := hF.1
  have hb := hF.2.1
  rcases i with _ | _ | _ | _ | _ | i
  · have hx9 := Option.some.inj hi
    subst hx9
    refine g_aload hx hb dL_enter_0 (lv_at hl 5 rfl) ?_
    refine lv_iconst (v := 0) hx hb dL_enter_2 (by decide) ?_
    refine g_aload_n hx hb dL_enter_3 rfl (lv_at hl 0 rfl) ?_
    refine lv_iload_n hx hb dL_enter_4 rfl (lv_at hl 1 rfl) ?_
    refine lv_iload_n hx hb dL_enter_5 rfl (lv_at hl 2 rfl) ?_
    refine lv_iload_n hx hb dL_enter_6 rfl (lv_at hl 3 rfl) ?_
    refine lv_iload hx hb dL_enter_7 (lv_at hl 4 rfl) ?_
    refine l_callX (pre := []) (x0 := ⟨0, 21, 24, 13⟩) (suf := [⟨0, 21, 28, 15⟩, ⟨0, 21, 32, 71⟩, ⟨0, 21, 36, 17⟩, ⟨0, 21, 40, 73⟩]) (As := [.int x1, .int x2, .int x3, .int x4]) (rest := [.int 0, va_rf (some o)]) hF hNc hM htab (cx_X4_enter hfl h) k_X4_enter u967 u968 u969 rfl rfl hT rfl hl.1 rfl (Nat.le_of_ble_eq_true rfl) dL_enter_9 ⟨(Nat.le_of_ble_eq_true rfl), (Nat.le_of_ble_eq_true rfl)⟩ ⟨(Nat.le_of_ble_eq_true rfl), (Nat.le_of_ble_eq_true rfl)⟩ rfl (by decide) (by decide) (by decide) (fun _ h => absurd h List.not_mem_nil) u407 (fun q H locs h1 h2 h5 => ?_)
    refine g_astore (i := 6) (lv' := [(0, va_rf (some a0)), (1, .int x1), (2, .int x2), (3, .int x3), (4, .int x4), (5, va_rf (some o))]) hx hb dL_enter_24 hl (by decide) (fun v => rfl) (fun ls hl => ?_)
    refine lv_iconst (v := nI (0 + 1)) hx hb dL_enter_26 (by decide) ?_
    exact l_endX hF hsz rfl hO hT0 h1 h2 h5 dL_enter_27 (Nat.le_of_ble_eq_true rfl) (Nat.le_of_ble_eq_true rfl)
  · have hx9 := Option.some.inj hi
    subst hx9
    refine g_aload hx hb dL_enter_0 (lv_at hl 5 rfl) ?_
    refine lv_iconst (v := 0) hx hb dL_enter_2 (by decide) ?_
    refine g_aload_n hx hb dL_enter_3 rfl (lv_at hl 0 rfl) ?_
    refine lv_iload_n hx hb dL_enter_4 rfl (lv_at hl 1 rfl) ?_
    refine lv_iload_n hx hb dL_enter_5 rfl (lv_at hl 2 rfl) ?_
    refine lv_iload_n hx hb dL_enter_6 rfl (lv_at hl 3 rfl) ?_
    refine lv_iload hx hb dL_enter_7 (lv_at hl 4 rfl) ?_
    refine l_callX (pre := [⟨0, 21, 24, 13⟩]) (x0 := ⟨0, 21, 28, 15⟩) (suf := [⟨0, 21, 32, 71⟩, ⟨0, 21, 36, 17⟩, ⟨0, 21, 40, 73⟩]) (As := [.int x1, .int x2, .int x3, .int x4]) (rest := [.int 0, va_rf (some o)]) hF hNc hM htab (cx_X4_enter hfl h) k_X4_enter u967 u968 u969 rfl rfl hT rfl hl.1 rfl (Nat.le_of_ble_eq_true rfl) dL_enter_9 ⟨(Nat.le_of_ble_eq_true rfl), (Nat.le_of_ble_eq_true rfl)⟩ ⟨(Nat.le_of_ble_eq_true rfl), (Nat.le_of_ble_eq_true rfl)⟩ rfl (by decide) (by decide) (by decide) (List.forall_mem_cons.mpr ⟨⟨by decide, 1, by decide, u407⟩, (fun _ h => absurd h List.not_mem_nil)⟩) u487 (fun q H locs h1 h2 h5 => ?_)
    refine g_astore (i := 6) (lv' := [(0, va_rf (some a0)), (1, .int x1), (2, .int x2), (3, .int x3), (4, .int x4), (5, va_rf (some o))]) hx hb dL_enter_28 hl (by decide) (fun v => rfl) (fun ls hl => ?_)
    refine lv_iconst (v := nI (1 + 1)) hx hb dL_enter_30 (by decide) ?_
    exact l_endX hF hsz rfl hO hT0 h1 h2 h5 dL_enter_31 (Nat.le_of_ble_eq_true rfl) (Nat.le_of_ble_eq_true rfl)
  · have hx9 := Option.some.inj hi
    subst hx9
    refine g_aload hx hb dL_enter_0 (lv_at hl 5 rfl) ?_
    refine lv_iconst (v := 0) hx hb dL_enter_2 (by decide) ?_
    refine g_aload_n hx hb dL_enter_3 rfl (lv_at hl 0 rfl) ?_
    refine lv_iload_n hx hb dL_enter_4 rfl (lv_at hl 1 rfl) ?_
    refine lv_iload_n hx hb dL_enter_5 rfl (lv_at hl 2 rfl) ?_
    refine lv_iload_n hx hb dL_enter_6 rfl (lv_at hl 3 rfl) ?_
    refine lv_iload hx hb dL_enter_7 (lv_at hl 4 rfl) ?_
    refine l_callX (pre := [⟨0, 21, 24, 13⟩, ⟨0, 21, 28, 15⟩]) (x0 := ⟨0, 21, 32, 71⟩) (suf := [⟨0, 21, 36, 17⟩, ⟨0, 21, 40, 73⟩]) (As := [.int x1, .int x2, .int x3, .int x4]) (rest := [.int 0, va_rf (some o)]) hF hNc hM htab (cx_X4_enter hfl h) k_X4_enter u967 u968 u969 rfl rfl hT rfl hl.1 rfl (Nat.le_of_ble_eq_true rfl) dL_enter_9 ⟨(Nat.le_of_ble_eq_true rfl), (Nat.le_of_ble_eq_true rfl)⟩ ⟨(Nat.le_of_ble_eq_true rfl), (Nat.le_of_ble_eq_true rfl)⟩ rfl (by decide) (by decide) (by decide) (List.forall_mem_cons.mpr ⟨⟨by decide, 1, by decide, u407⟩, (List.forall_mem_cons.mpr ⟨⟨by decide, 2, by decide, u487⟩, (fun _ h => absurd h List.not_mem_nil)⟩)⟩) u726 (fun q H locs h1 h2 h5 => ?_)
    refine g_astore (i := 6) (lv' := [(0, va_rf (some a0)), (1, .int x1), (2, .int x2), (3, .int x3), (4, .int x4), (5, va_rf (some o))]) hx hb dL_enter_32 hl (by decide) (fun v => rfl) (fun ls hl => ?_)
    refine lv_iconst (v := nI (2 + 1)) hx hb dL_enter_34 (by decide) ?_
    exact l_endX hF hsz rfl hO hT0 h1 h2 h5 dL_enter_35 (Nat.le_of_ble_eq_true rfl) (Nat.le_of_ble_eq_true rfl)
  · have hx9 := Option.some.inj hi
    subst hx9
    refine g_aload hx hb dL_enter_0 (lv_at hl 5 rfl) ?_
    refine lv_iconst (v := 0) hx hb dL_enter_2 (by decide) ?_
    refine g_aload_n hx hb dL_enter_3 rfl (lv_at hl 0 rfl) ?_
    refine lv_iload_n hx hb dL_enter_4 rfl (lv_at hl 1 rfl) ?_
    refine lv_iload_n hx hb dL_enter_5 rfl (lv_at hl 2 rfl) ?_
    refine lv_iload_n hx hb dL_enter_6 rfl (lv_at hl 3 rfl) ?_
    refine lv_iload hx hb dL_enter_7 (lv_at hl 4 rfl) ?_
    refine l_callX (pre := [⟨0, 21, 24, 13⟩, ⟨0, 21, 28, 15⟩, ⟨0, 21, 32, 71⟩]) (x0 := ⟨0, 21, 36, 17⟩) (suf := [⟨0, 21, 40, 73⟩]) (As := [.int x1, .int x2, .int x3, .int x4]) (rest := [.int 0, va_rf (some o)]) hF hNc hM htab (cx_X4_enter hfl h) k_X4_enter u967 u968 u969 rfl rfl hT rfl hl.1 rfl (Nat.le_of_ble_eq_true rfl) dL_enter_9 ⟨(Nat.le_of_ble_eq_true rfl), (Nat.le_of_ble_eq_true rfl)⟩ ⟨(Nat.le_of_ble_eq_true rfl), (Nat.le_of_ble_eq_true rfl)⟩ rfl (by decide) (by decide) (by decide) (List.forall_mem_cons.mpr ⟨⟨by decide, 1, by decide, u407⟩, (List.forall_mem_cons.mpr ⟨⟨by decide, 2, by decide, u487⟩, (List.forall_mem_cons.mpr ⟨⟨by decide, 3, by decide, u726⟩, (fun _ h => absurd h List.not_mem_nil)⟩)⟩)⟩) u488 (fun q H locs h1 h2 h5 => ?_)
    refine g_astore (i := 6) (lv' := [(0, va_rf (some a0)), (1, .int x1), (2, .int x2), (3, .int x3), (4, .int x4), (5, va_rf (some o))]) hx hb dL_enter_36 hl (by decide) (fun v => rfl) (fun ls hl => ?_)
    refine lv_iconst (v := nI (3 + 1)) hx hb dL_enter_38 (by decide) ?_
    exact l_endX hF hsz rfl hO hT0 h1 h2 h5 dL_enter_39 (Nat.le_of_ble_eq_true rfl) (Nat.le_of_ble_eq_true rfl)
  · have hx9 := Option.some.inj hi
    subst hx9
    refine g_aload hx hb dL_enter_0 (lv_at hl 5 rfl) ?_
    refine lv_iconst (v := 0) hx hb dL_enter_2 (by decide) ?_
    refine g_aload_n hx hb dL_enter_3 rfl (lv_at hl 0 rfl) ?_
    refine lv_iload_n hx hb dL_enter_4 rfl (lv_at hl 1 rfl) ?_
    refine lv_iload_n hx hb dL_enter_5 rfl (lv_at hl 2 rfl) ?_
    refine lv_iload_n hx hb dL_enter_6 rfl (lv_at hl 3 rfl) ?_
    refine lv_iload hx hb dL_enter_7 (lv_at hl 4 rfl) ?_
    refine l_callX (pre := [⟨0, 21, 24, 13⟩, ⟨0, 21, 28, 15⟩, ⟨0, 21, 32, 71⟩, ⟨0, 21, 36, 17⟩]) (x0 := ⟨0, 21, 40, 73⟩) (suf := []) (As := [.int x1, .int x2, .int x3, .int x4]) (rest := [.int 0, va_rf (some o)]) hF hNc hM htab (cx_X4_enter hfl h) k_X4_enter u967 u968 u969 rfl rfl hT rfl hl.1 rfl (Nat.le_of_ble_eq_true rfl) dL_enter_9 ⟨(Nat.le_of_ble_eq_true rfl), (Nat.le_of_ble_eq_true rfl)⟩ ⟨(Nat.le_of_ble_eq_true rfl), (Nat.le_of_ble_eq_true rfl)⟩ rfl (by decide) (by decide) (by decide) (List.forall_mem_cons.mpr ⟨⟨by decide, 1, by decide, u407⟩, (List.forall_mem_cons.mpr ⟨⟨by decide, 2, by decide, u487⟩, (List.forall_mem_cons.mpr ⟨⟨by decide, 3, by decide, u726⟩, (List.forall_mem_cons.mpr ⟨⟨by decide, 4, by decide, u488⟩, (fun _ h => absurd h List.not_mem_nil)⟩)⟩)⟩)⟩) u727 (fun q H locs h1 h2 h5 => ?_)
    refine g_astore (i := 6) (lv' := [(0, va_rf (some a0)), (1, .int x1), (2, .int x2), (3, .int x3), (4, .int x4), (5, va_rf (some o))]) hx hb dL_enter_40 hl (by decide) (fun v => rfl) (fun ls hl => ?_)
    refine lv_iconst (v := nI (4 + 1)) hx hb dL_enter_42 (by decide) ?_
    exact l_endX hF hsz rfl hO hT0 h1 h2 h5 dL_enter_43 (Nat.le_of_ble_eq_true rfl) (Nat.le_of_ble_eq_true rfl)
  · exact absurd hi (by simp)
abbrev rmL_strike : Room := { frames := 4, cells := 0, slots := 0, locals := 89 }
abbrev rmLx_strike : Room := { frames := 9, cells := 1, slots := 6, locals := 156 }
theorem kL_strike : lKc yL_strike cL_strike 5 [(0, 17, 20, 13), (0, 17, 24, 15), (0, 17, 28, 71)] 4 := ⟨u978, u62, by decide +kernel, by decide +kernel, by decide +kernel⟩
set_option maxHeartbeats 4000000 in
set_option maxRecDepth 100000 in
theorem cL_strike_r {l : Launch} {D : va_G} {Y : Nat → ClassId} {S : GS} {hs : Nat} {a0 o : Nat} {x1 : Int32} {x2 : Int32} {r : Int32} {S' : GS} (h : f_X4_strike S a0 x1 x2 = some (.inl (r, S'))) {yl : ClassId} {c0 : Value} (hT : gT S a0 = 5) {v : Int64} (hv : (if r = 0 then (0 : Int64) else 1) = v) : lMet l yL_strike (lWs yL_strike cL_strike 5 [(0, 17, 20, 13), (0, 17, 24, 15), (0, 17, 28, 71)]) rmL_strike [va_rf (some a0), .int x1, .int x2, va_rf (some o)] D Y S hs .long yl o c0 0 (.long v) S' hs := by
  refine l_ofW (by decide +kernel) ⟨(Nat.le_of_ble_eq_true rfl), (List.forall_mem_cons.mpr ⟨rf_cat _, (List.forall_mem_cons.mpr ⟨rfl, (List.forall_mem_cons.mpr ⟨rfl, (List.forall_mem_cons.mpr ⟨rf_cat _, (fun _ h => absurd h List.not_mem_nil)⟩)⟩)⟩)⟩)⟩ ?_
  intro p e s m args below meth c ls hsz htab hF hNc hAr hO hT0 hM hl
  have hl : lv_has ls 5 [(0, va_rf (some a0)), (1, .int x1), (2, .int x2), (3, va_rf (some o))] := by rw [g_args [va_rf (some a0), .int x1, .int x2, va_rf (some o)] 0 (List.forall_mem_cons.mpr ⟨rf_cat _, (List.forall_mem_cons.mpr ⟨rfl, (List.forall_mem_cons.mpr ⟨rfl, (List.forall_mem_cons.mpr ⟨rf_cat _, (fun _ h => absurd h List.not_mem_nil)⟩)⟩)⟩)⟩)] at hl; exact hl
  have hF : gF p s m args meth c RL cL_strike 5 (some .int) D Y (gA S hs) := hF
  have hx := hF.1
  have hb := hF.2.1
  refine g_aload_n hx hb dL_strike_0 rfl (lv_at hl 3 rfl) ?_
  refine lv_iconst (v := 0) hx hb dL_strike_1 (by decide) ?_
  refine g_aload_n hx hb dL_strike_2 rfl (lv_at hl 0 rfl) ?_
  refine lv_iload_n hx hb dL_strike_3 rfl (lv_at hl 1 rfl) ?_
  refine lv_iload_n hx hb dL_strike_4 rfl (lv_at hl 2 rfl) ?_
  refine g_callV (As := [.int x1, .int x2]) (rest := [.int 0, va_rf (some o)]) hF hM (c_X4_strike h) k_X4_strike u979 u980 u981 rfl rfl hT rfl hl.1 rfl (Nat.le_of_ble_eq_true rfl) dL_strike_5 ⟨(Nat.le_of_ble_eq_true rfl), (Nat.le_of_ble_eq_true rfl)⟩ ⟨(Nat.le_of_ble_eq_true rfl), (Nat.le_of_ble_eq_true rfl)⟩ (fun H locs hM => ?_)
  refine lv_if_eq (tgt := 15) hx hb dL_strike_8 (by decide) (fun c1 => ?_) (fun c1 => ?_)
  · have e := hv.symm.trans (if_pos c1)
    subst e
    refine lv_lconst (v := 0) hx hb dL_strike_15 (by decide) ?_
    refine l_last hF hsz hM hAr hO hT0 dL_strike_16 (fun H locs h1 h2 h3 h4 h5 => ?_)
    refine lv_goto (tgt := 32) hx hb dL_strike_17 (by decide) ?_
    refine lv_iconst (v := 0) hx hb dL_strike_32 (by decide) ?_
    exact l_end hF rfl h1 h2 h3 h4 h5 dL_strike_33 (Nat.le_of_ble_eq_true rfl) (Nat.le_of_ble_eq_true rfl)
  · have e := hv.symm.trans (if_neg c1)
    subst e
    refine lv_lconst (v := 1) hx hb dL_strike_11 (by decide) ?_
    refine lv_goto (tgt := 16) hx hb dL_strike_12 (by decide) ?_
    refine l_last hF hsz hM hAr hO hT0 dL_strike_16 (fun H locs h1 h2 h3 h4 h5 => ?_)
    refine lv_goto (tgt := 32) hx hb dL_strike_17 (by decide) ?_
    refine lv_iconst (v := 0) hx hb dL_strike_32 (by decide) ?_
    exact l_end hF rfl h1 h2 h3 h4 h5 dL_strike_33 (Nat.le_of_ble_eq_true rfl) (Nat.le_of_ble_eq_true rfl)
set_option maxHeartbeats 4000000 in
set_option maxRecDepth 100000 in
theorem cL_strike_x {l : Launch} {D : va_G} {Y : Nat → ClassId} {S : GS} {hs : Nat} {a0 o : Nat} {x1 : Int32} {x2 : Int32} {x : Nat} (hfl : l.stackTraces = false) (h : f_X4_strike S a0 x1 x2 = some (.inr x)) {i : Nat} {yl : ClassId} {c0 : Value} (hT : gT S a0 = 5) (hi : ([1, 2, 3] : List Nat)[i]? = some x) : lMet l yL_strike (lWs yL_strike cL_strike 5 [(0, 17, 20, 13), (0, 17, 24, 15), (0, 17, 28, 71)]) rmLx_strike [va_rf (some a0), .int x1, .int x2, va_rf (some o)] D Y S hs .long yl o c0 (nI (i + 1)) c0 S hs := by
  refine l_ofW (by decide +kernel) ⟨(Nat.le_of_ble_eq_true rfl), (List.forall_mem_cons.mpr ⟨rf_cat _, (List.forall_mem_cons.mpr ⟨rfl, (List.forall_mem_cons.mpr ⟨rfl, (List.forall_mem_cons.mpr ⟨rf_cat _, (fun _ h => absurd h List.not_mem_nil)⟩)⟩)⟩)⟩)⟩ ?_
  intro p e s m args below meth c ls hsz htab hF hNc hAr hO hT0 hM hl
  have hl : lv_has ls 5 [(0, va_rf (some a0)), (1, .int x1), (2, .int x2), (3, va_rf (some o))] := by rw [g_args [va_rf (some a0), .int x1, .int x2, va_rf (some o)] 0 (List.forall_mem_cons.mpr ⟨rf_cat _, (List.forall_mem_cons.mpr ⟨rfl, (List.forall_mem_cons.mpr ⟨rfl, (List.forall_mem_cons.mpr ⟨rf_cat _, (fun _ h => absurd h List.not_mem_nil)⟩)⟩)⟩)⟩)] at hl; exact hl
  have hF : gF p s m args meth c RL cL_strike 5 (some .int) D Y (gA S hs) := hF
  have hx := hF.1
  have hb := hF.2.1
  rcases i with _ | _ | _ | i
  · have hx9 := Option.some.inj hi
    subst hx9
    refine g_aload_n hx hb dL_strike_0 rfl (lv_at hl 3 rfl) ?_
    refine lv_iconst (v := 0) hx hb dL_strike_1 (by decide) ?_
    refine g_aload_n hx hb dL_strike_2 rfl (lv_at hl 0 rfl) ?_
    refine lv_iload_n hx hb dL_strike_3 rfl (lv_at hl 1 rfl) ?_
    refine lv_iload_n hx hb dL_strike_4 rfl (lv_at hl 2 rfl) ?_
    refine l_callX (pre := []) (x0 := ⟨0, 17, 20, 13⟩) (suf := [⟨0, 17, 24, 15⟩, ⟨0, 17, 28, 71⟩]) (As := [.int x1, .int x2]) (rest := [.int 0, va_rf (some o)]) hF hNc hM htab (cx_X4_strike hfl h) k_X4_strike u979 u980 u981 rfl rfl hT rfl hl.1 rfl (Nat.le_of_ble_eq_true rfl) dL_strike_5 ⟨(Nat.le_of_ble_eq_true rfl), (Nat.le_of_ble_eq_true rfl)⟩ ⟨(Nat.le_of_ble_eq_true rfl), (Nat.le_of_ble_eq_true rfl)⟩ rfl (by decide) (by decide) (by decide) (fun _ h => absurd h List.not_mem_nil) u407 (fun q H locs h1 h2 h5 => ?_)
    refine g_astore (i := 4) (lv' := [(0, va_rf (some a0)), (1, .int x1), (2, .int x2), (3, va_rf (some o))]) hx hb dL_strike_20 hl (by decide) (fun v => rfl) (fun ls hl => ?_)
    refine lv_iconst (v := nI (0 + 1)) hx hb dL_strike_22 (by decide) ?_
    exact l_endX hF hsz rfl hO hT0 h1 h2 h5 dL_strike_23 (Nat.le_of_ble_eq_true rfl) (Nat.le_of_ble_eq_true rfl)
  · have hx9 := Option.some.inj hi
    subst hx9
    refine g_aload_n hx hb dL_strike_0 rfl (lv_at hl 3 rfl) ?_
    refine lv_iconst (v := 0) hx hb dL_strike_1 (by decide) ?_
    refine g_aload_n hx hb dL_strike_2 rfl (lv_at hl 0 rfl) ?_
    refine lv_iload_n hx hb dL_strike_3 rfl (lv_at hl 1 rfl) ?_
    refine lv_iload_n hx hb dL_strike_4 rfl (lv_at hl 2 rfl) ?_
    refine l_callX (pre := [⟨0, 17, 20, 13⟩]) (x0 := ⟨0, 17, 24, 15⟩) (suf := [⟨0, 17, 28, 71⟩]) (As := [.int x1, .int x2]) (rest := [.int 0, va_rf (some o)]) hF hNc hM htab (cx_X4_strike hfl h) k_X4_strike u979 u980 u981 rfl rfl hT rfl hl.1 rfl (Nat.le_of_ble_eq_true rfl) dL_strike_5 ⟨(Nat.le_of_ble_eq_true rfl), (Nat.le_of_ble_eq_true rfl)⟩ ⟨(Nat.le_of_ble_eq_true rfl), (Nat.le_of_ble_eq_true rfl)⟩ rfl (by decide) (by decide) (by decide) (List.forall_mem_cons.mpr ⟨⟨by decide, 1, by decide, u407⟩, (fun _ h => absurd h List.not_mem_nil)⟩) u487 (fun q H locs h1 h2 h5 => ?_)
    refine g_astore (i := 4) (lv' := [(0, va_rf (some a0)), (1, .int x1), (2, .int x2), (3, va_rf (some o))]) hx hb dL_strike_24 hl (by decide) (fun v => rfl) (fun ls hl => ?_)
    refine lv_iconst (v := nI (1 + 1)) hx hb dL_strike_26 (by decide) ?_
    exact l_endX hF hsz rfl hO hT0 h1 h2 h5 dL_strike_27 (Nat.le_of_ble_eq_true rfl) (Nat.le_of_ble_eq_true rfl)
  · have hx9 := Option.some.inj hi
    subst hx9
    refine g_aload_n hx hb dL_strike_0 rfl (lv_at hl 3 rfl) ?_
    refine lv_iconst (v := 0) hx hb dL_strike_1 (by decide) ?_
    refine g_aload_n hx hb dL_strike_2 rfl (lv_at hl 0 rfl) ?_
    refine lv_iload_n hx hb dL_strike_3 rfl (lv_at hl 1 rfl) ?_
    refine lv_iload_n hx hb dL_strike_4 rfl (lv_at hl 2 rfl) ?_
    refine l_callX (pre := [⟨0, 17, 20, 13⟩, ⟨0, 17, 24, 15⟩]) (x0 := ⟨0, 17, 28, 71⟩) (suf := []) (As := [.int x1, .int x2]) (rest := [.int 0, va_rf (some o)]) hF hNc hM htab (cx_X4_strike hfl h) k_X4_strike u979 u980 u981 rfl rfl hT rfl hl.1 rfl (Nat.le_of_ble_eq_true rfl) dL_strike_5 ⟨(Nat.le_of_ble_eq_true rfl), (Nat.le_of_ble_eq_true rfl)⟩ ⟨(Nat.le_of_ble_eq_true rfl), (Nat.le_of_ble_eq_true rfl)⟩ rfl (by decide) (by decide) (by decide) (List.forall_mem_cons.mpr ⟨⟨by decide, 1, by decide, u407⟩, (List.forall_mem_cons.mpr ⟨⟨by decide, 2, by decide, u487⟩, (fun _ h => absurd h List.not_mem_nil)⟩)⟩) u726 (fun q H locs h1 h2 h5 => ?_)
    refine g_astore (i := 4) (lv' := [(0, va_rf (some a0)), (1, .int x1), (2, .int x2), (3, va_rf (some o))]) hx hb dL_strike_28 hl (by decide) (fun v => rfl) (fun ls hl => ?_)
    refine lv_iconst (v := nI (2 + 1)) hx hb dL_strike_30 (by decide) ?_
    exact l_endX hF hsz rfl hO hT0 h1 h2 h5 dL_strike_31 (Nat.le_of_ble_eq_true rfl) (Nat.le_of_ble_eq_true rfl)
  · exact absurd hi (by simp)
abbrev rmL_hasNumber : Room := { frames := 4, cells := 0, slots := 0, locals := 86 }
abbrev rmLx_hasNumber : Room := { frames := 9, cells := 1, slots := 6, locals := 154 }
theorem kL_hasNumber : lKc yL_hasNumber cL_hasNumber 5 [(0, 17, 20, 13), (0, 17, 24, 15)] 4 := ⟨u989, u62, by decide +kernel, by decide +kernel, by decide +kernel⟩
set_option maxHeartbeats 4000000 in
set_option maxRecDepth 100000 in
theorem cL_hasNumber_r {l : Launch} {D : va_G} {Y : Nat → ClassId} {S : GS} {hs : Nat} {a0 o : Nat} {x1 : Int32} {x2 : Int32} {r : Int32} (h : f_X4_hasNumber S a0 x1 x2 = some (.inl r)) {yl : ClassId} {c0 : Value} (hT : gT S a0 = 5) {v : Int64} (hv : (if r = 0 then (0 : Int64) else 1) = v) : lMet l yL_hasNumber (lWs yL_hasNumber cL_hasNumber 5 [(0, 17, 20, 13), (0, 17, 24, 15)]) rmL_hasNumber [va_rf (some a0), .int x1, .int x2, va_rf (some o)] D Y S hs .long yl o c0 0 (.long v) S hs := by
  refine l_ofW (by decide +kernel) ⟨(Nat.le_of_ble_eq_true rfl), (List.forall_mem_cons.mpr ⟨rf_cat _, (List.forall_mem_cons.mpr ⟨rfl, (List.forall_mem_cons.mpr ⟨rfl, (List.forall_mem_cons.mpr ⟨rf_cat _, (fun _ h => absurd h List.not_mem_nil)⟩)⟩)⟩)⟩)⟩ ?_
  intro p e s m args below meth c ls hsz htab hF hNc hAr hO hT0 hM hl
  have hl : lv_has ls 5 [(0, va_rf (some a0)), (1, .int x1), (2, .int x2), (3, va_rf (some o))] := by rw [g_args [va_rf (some a0), .int x1, .int x2, va_rf (some o)] 0 (List.forall_mem_cons.mpr ⟨rf_cat _, (List.forall_mem_cons.mpr ⟨rfl, (List.forall_mem_cons.mpr ⟨rfl, (List.forall_mem_cons.mpr ⟨rf_cat _, (fun _ h => absurd h List.not_mem_nil)⟩)⟩)⟩)⟩)] at hl; exact hl
  have hF : gF p s m args meth c RL cL_hasNumber 5 (some .int) D Y (gA S hs) := hF
  have hx := hF.1
  have hb := hF.2.1
  refine g_aload_n hx hb dL_hasNumber_0 rfl (lv_at hl 3 rfl) ?_
  refine lv_iconst (v := 0) hx hb dL_hasNumber_1 (by decide) ?_
  refine g_aload_n hx hb dL_hasNumber_2 rfl (lv_at hl 0 rfl) ?_
  refine lv_iload_n hx hb dL_hasNumber_3 rfl (lv_at hl 1 rfl) ?_
  refine lv_iload_n hx hb dL_hasNumber_4 rfl (lv_at hl 2 rfl) ?_
  refine g_callV (As := [.int x1, .int x2]) (rest := [.int 0, va_rf (some o)]) hF hM (c_X4_hasNumber h) k_X4_hasNumber u990 u991 u992 rfl rfl hT rfl hl.1 rfl (Nat.le_of_ble_eq_true rfl) dL_hasNumber_5 ⟨(Nat.le_of_ble_eq_true rfl), (Nat.le_of_ble_eq_true rfl)⟩ ⟨(Nat.le_of_ble_eq_true rfl), (Nat.le_of_ble_eq_true rfl)⟩ (fun H locs hM => ?_)
  refine lv_if_eq (tgt := 15) hx hb dL_hasNumber_8 (by decide) (fun c1 => ?_) (fun c1 => ?_)
  · have e := hv.symm.trans (if_pos c1)
    subst e
    refine lv_lconst (v := 0) hx hb dL_hasNumber_15 (by decide) ?_
    refine l_last hF hsz hM hAr hO hT0 dL_hasNumber_16 (fun H locs h1 h2 h3 h4 h5 => ?_)
    refine lv_goto (tgt := 28) hx hb dL_hasNumber_17 (by decide) ?_
    refine lv_iconst (v := 0) hx hb dL_hasNumber_28 (by decide) ?_
    exact l_end hF rfl h1 h2 h3 h4 h5 dL_hasNumber_29 (Nat.le_of_ble_eq_true rfl) (Nat.le_of_ble_eq_true rfl)
  · have e := hv.symm.trans (if_neg c1)
    subst e
    refine lv_lconst (v := 1) hx hb dL_hasNumber_11 (by decide) ?_
    refine lv_goto (tgt := 16) hx hb dL_hasNumber_12 (by decide) ?_
    refine l_last hF hsz hM hAr hO hT0 dL_hasNumber_16 (fun H locs h1 h2 h3 h4 h5 => ?_)
    refine lv_goto (tgt := 28) hx hb dL_hasNumber_17 (by decide) ?_
    refine lv_iconst (v := 0) hx hb dL_hasNumber_28 (by decide) ?_
    exact l_end hF rfl h1 h2 h3 h4 h5 dL_hasNumber_29 (Nat.le_of_ble_eq_true rfl) (Nat.le_of_ble_eq_true rfl)
set_option maxHeartbeats 4000000 in
set_option maxRecDepth 100000 in
theorem cL_hasNumber_x {l : Launch} {D : va_G} {Y : Nat → ClassId} {S : GS} {hs : Nat} {a0 o : Nat} {x1 : Int32} {x2 : Int32} {x : Nat} (hfl : l.stackTraces = false) (h : f_X4_hasNumber S a0 x1 x2 = some (.inr x)) {i : Nat} {yl : ClassId} {c0 : Value} (hT : gT S a0 = 5) (hi : ([1, 2] : List Nat)[i]? = some x) : lMet l yL_hasNumber (lWs yL_hasNumber cL_hasNumber 5 [(0, 17, 20, 13), (0, 17, 24, 15)]) rmLx_hasNumber [va_rf (some a0), .int x1, .int x2, va_rf (some o)] D Y S hs .long yl o c0 (nI (i + 1)) c0 S hs := by
  refine l_ofW (by decide +kernel) ⟨(Nat.le_of_ble_eq_true rfl), (List.forall_mem_cons.mpr ⟨rf_cat _, (List.forall_mem_cons.mpr ⟨rfl, (List.forall_mem_cons.mpr ⟨rfl, (List.forall_mem_cons.mpr ⟨rf_cat _, (fun _ h => absurd h List.not_mem_nil)⟩)⟩)⟩)⟩)⟩ ?_
  intro p e s m args below meth c ls hsz htab hF hNc hAr hO hT0 hM hl
  have hl : lv_has ls 5 [(0, va_rf (some a0)), (1, .int x1), (2, .int x2), (3, va_rf (some o))] := by rw [g_args [va_rf (some a0), .int x1, .int x2, va_rf (some o)] 0 (List.forall_mem_cons.mpr ⟨rf_cat _, (List.forall_mem_cons.mpr ⟨rfl, (List.forall_mem_cons.mpr ⟨rfl, (List.forall_mem_cons.mpr ⟨rf_cat _, (fun _ h => absurd h List.not_mem_nil)⟩)⟩)⟩)⟩)] at hl; exact hl
  have hF : gF p s m args meth c RL cL_hasNumber 5 (some .int) D Y (gA S hs) := hF
  have hx := hF.1
  have hb := hF.2.1
  rcases i with _ | _ | i
  · have hx9 := Option.some.inj hi
    subst hx9
    refine g_aload_n hx hb dL_hasNumber_0 rfl (lv_at hl 3 rfl) ?_
    refine lv_iconst (v := 0) hx hb dL_hasNumber_1 (by decide) ?_
    refine g_aload_n hx hb dL_hasNumber_2 rfl (lv_at hl 0 rfl) ?_
    refine lv_iload_n hx hb dL_hasNumber_3 rfl (lv_at hl 1 rfl) ?_
    refine lv_iload_n hx hb dL_hasNumber_4 rfl (lv_at hl 2 rfl) ?_
    refine l_callX (pre := []) (x0 := ⟨0, 17, 20, 13⟩) (suf := [⟨0, 17, 24, 15⟩]) (As := [.int x1, .int x2]) (rest := [.int 0, va_rf (some o)]) hF hNc hM htab (cx_X4_hasNumber hfl h) k_X4_hasNumber u990 u991 u992 rfl rfl hT rfl hl.1 rfl (Nat.le_of_ble_eq_true rfl) dL_hasNumber_5 ⟨(Nat.le_of_ble_eq_true rfl), (Nat.le_of_ble_eq_true rfl)⟩ ⟨(Nat.le_of_ble_eq_true rfl), (Nat.le_of_ble_eq_true rfl)⟩ rfl (by decide) (by decide) (by decide) (fun _ h => absurd h List.not_mem_nil) u407 (fun q H locs h1 h2 h5 => ?_)
    refine g_astore (i := 4) (lv' := [(0, va_rf (some a0)), (1, .int x1), (2, .int x2), (3, va_rf (some o))]) hx hb dL_hasNumber_20 hl (by decide) (fun v => rfl) (fun ls hl => ?_)
    refine lv_iconst (v := nI (0 + 1)) hx hb dL_hasNumber_22 (by decide) ?_
    exact l_endX hF hsz rfl hO hT0 h1 h2 h5 dL_hasNumber_23 (Nat.le_of_ble_eq_true rfl) (Nat.le_of_ble_eq_true rfl)
  · have hx9 := Option.some.inj hi
    subst hx9
    refine g_aload_n hx hb dL_hasNumber_0 rfl (lv_at hl 3 rfl) ?_
    refine lv_iconst (v := 0) hx hb dL_hasNumber_1 (by decide) ?_
    refine g_aload_n hx hb dL_hasNumber_2 rfl (lv_at hl 0 rfl) ?_
    refine lv_iload_n hx hb dL_hasNumber_3 rfl (lv_at hl 1 rfl) ?_
    refine lv_iload_n hx hb dL_hasNumber_4 rfl (lv_at hl 2 rfl) ?_
    refine l_callX (pre := [⟨0, 17, 20, 13⟩]) (x0 := ⟨0, 17, 24, 15⟩) (suf := []) (As := [.int x1, .int x2]) (rest := [.int 0, va_rf (some o)]) hF hNc hM htab (cx_X4_hasNumber hfl h) k_X4_hasNumber u990 u991 u992 rfl rfl hT rfl hl.1 rfl (Nat.le_of_ble_eq_true rfl) dL_hasNumber_5 ⟨(Nat.le_of_ble_eq_true rfl), (Nat.le_of_ble_eq_true rfl)⟩ ⟨(Nat.le_of_ble_eq_true rfl), (Nat.le_of_ble_eq_true rfl)⟩ rfl (by decide) (by decide) (by decide) (List.forall_mem_cons.mpr ⟨⟨by decide, 1, by decide, u407⟩, (fun _ h => absurd h List.not_mem_nil)⟩) u487 (fun q H locs h1 h2 h5 => ?_)
    refine g_astore (i := 4) (lv' := [(0, va_rf (some a0)), (1, .int x1), (2, .int x2), (3, va_rf (some o))]) hx hb dL_hasNumber_24 hl (by decide) (fun v => rfl) (fun ls hl => ?_)
    refine lv_iconst (v := nI (1 + 1)) hx hb dL_hasNumber_26 (by decide) ?_
    exact l_endX hF hsz rfl hO hT0 h1 h2 h5 dL_hasNumber_27 (Nat.le_of_ble_eq_true rfl) (Nat.le_of_ble_eq_true rfl)
  · exact absurd hi (by simp)
abbrev rmL_thingOf : Room := { frames := 4, cells := 0, slots := 0, locals := 88 }
abbrev rmLx_thingOf : Room := { frames := 9, cells := 1, slots := 6, locals := 156 }
theorem kL_thingOf : lKc yL_thingOf cL_thingOf 5 [(0, 10, 13, 13), (0, 10, 17, 15), (0, 10, 21, 17)] 4 := ⟨u997, u62, by decide +kernel, by decide +kernel, by decide +kernel⟩
set_option maxHeartbeats 4000000 in
set_option maxRecDepth 100000 in
theorem cL_thingOf_r {l : Launch} {D : va_G} {Y : Nat → ClassId} {S : GS} {hs : Nat} {a0 o : Nat} {x1 : Int32} {x2 : Int32} {r : Int32} (h : f_X4_thingOf S a0 x1 x2 = some (.inl r)) {yl : ClassId} {c0 : Value} (hT : gT S a0 = 5) : lMet l yL_thingOf (lWs yL_thingOf cL_thingOf 5 [(0, 10, 13, 13), (0, 10, 17, 15), (0, 10, 21, 17)]) rmL_thingOf [va_rf (some a0), .int x1, .int x2, va_rf (some o)] D Y S hs .long yl o c0 0 (.long r.toInt64) S hs := by
  refine l_ofW (by decide +kernel) ⟨(Nat.le_of_ble_eq_true rfl), (List.forall_mem_cons.mpr ⟨rf_cat _, (List.forall_mem_cons.mpr ⟨rfl, (List.forall_mem_cons.mpr ⟨rfl, (List.forall_mem_cons.mpr ⟨rf_cat _, (fun _ h => absurd h List.not_mem_nil)⟩)⟩)⟩)⟩)⟩ ?_
  intro p e s m args below meth c ls hsz htab hF hNc hAr hO hT0 hM hl
  have hl : lv_has ls 5 [(0, va_rf (some a0)), (1, .int x1), (2, .int x2), (3, va_rf (some o))] := by rw [g_args [va_rf (some a0), .int x1, .int x2, va_rf (some o)] 0 (List.forall_mem_cons.mpr ⟨rf_cat _, (List.forall_mem_cons.mpr ⟨rfl, (List.forall_mem_cons.mpr ⟨rfl, (List.forall_mem_cons.mpr ⟨rf_cat _, (fun _ h => absurd h List.not_mem_nil)⟩)⟩)⟩)⟩)] at hl; exact hl
  have hF : gF p s m args meth c RL cL_thingOf 5 (some .int) D Y (gA S hs) := hF
  have hx := hF.1
  have hb := hF.2.1
  refine g_aload_n hx hb dL_thingOf_0 rfl (lv_at hl 3 rfl) ?_
  refine lv_iconst (v := 0) hx hb dL_thingOf_1 (by decide) ?_
  refine g_aload_n hx hb dL_thingOf_2 rfl (lv_at hl 0 rfl) ?_
  refine lv_iload_n hx hb dL_thingOf_3 rfl (lv_at hl 1 rfl) ?_
  refine lv_iload_n hx hb dL_thingOf_4 rfl (lv_at hl 2 rfl) ?_
  refine g_callV (As := [.int x1, .int x2]) (rest := [.int 0, va_rf (some o)]) hF hM (c_X4_thingOf h) k_X4_thingOf u998 u999 u1000 rfl rfl hT rfl hl.1 rfl (Nat.le_of_ble_eq_true rfl) dL_thingOf_5 ⟨(Nat.le_of_ble_eq_true rfl), (Nat.le_of_ble_eq_true rfl)⟩ ⟨(Nat.le_of_ble_eq_true rfl), (Nat.le_of_ble_eq_true rfl)⟩ (fun H locs hM => ?_)
  refine lv_i2l hx hb dL_thingOf_8 rfl ?_
  refine l_last hF hsz hM hAr hO hT0 dL_thingOf_9 (fun H locs h1 h2 h3 h4 h5 => ?_)
  refine lv_goto (tgt := 25) hx hb dL_thingOf_10 (by decide) ?_
  refine lv_iconst (v := 0) hx hb dL_thingOf_25 (by decide) ?_
  exact l_end hF rfl h1 h2 h3 h4 h5 dL_thingOf_26 (Nat.le_of_ble_eq_true rfl) (Nat.le_of_ble_eq_true rfl)
set_option maxHeartbeats 4000000 in
set_option maxRecDepth 100000 in
theorem cL_thingOf_x {l : Launch} {D : va_G} {Y : Nat → ClassId} {S : GS} {hs : Nat} {a0 o : Nat} {x1 : Int32} {x2 : Int32} {x : Nat} (hfl : l.stackTraces = false) (h : f_X4_thingOf S a0 x1 x2 = some (.inr x)) {i : Nat} {yl : ClassId} {c0 : Value} (hT : gT S a0 = 5) (hi : ([1, 2, 4] : List Nat)[i]? = some x) : lMet l yL_thingOf (lWs yL_thingOf cL_thingOf 5 [(0, 10, 13, 13), (0, 10, 17, 15), (0, 10, 21, 17)]) rmLx_thingOf [va_rf (some a0), .int x1, .int x2, va_rf (some o)] D Y S hs .long yl o c0 (nI (i + 1)) c0 S hs := by
  refine l_ofW (by decide +kernel) ⟨(Nat.le_of_ble_eq_true rfl), (List.forall_mem_cons.mpr ⟨rf_cat _, (List.forall_mem_cons.mpr ⟨rfl, (List.forall_mem_cons.mpr ⟨rfl, (List.forall_mem_cons.mpr ⟨rf_cat _, (fun _ h => absurd h List.not_mem_nil)⟩)⟩)⟩)⟩)⟩ ?_
  intro p e s m args below meth c ls hsz htab hF hNc hAr hO hT0 hM hl
  have hl : lv_has ls 5 [(0, va_rf (some a0)), (1, .int x1), (2, .int x2), (3, va_rf (some o))] := by rw [g_args [va_rf (some a0), .int x1, .int x2, va_rf (some o)] 0 (List.forall_mem_cons.mpr ⟨rf_cat _, (List.forall_mem_cons.mpr ⟨rfl, (List.forall_mem_cons.mpr ⟨rfl, (List.forall_mem_cons.mpr ⟨rf_cat _, (fun _ h => absurd h List.not_mem_nil)⟩)⟩)⟩)⟩)] at hl; exact hl
  have hF : gF p s m args meth c RL cL_thingOf 5 (some .int) D Y (gA S hs) := hF
  have hx := hF.1
  have hb := hF.2.1
  rcases i with _ | _ | _ | i
  · have hx9 := Option.some.inj hi
    subst hx9
    refine g_aload_n hx hb dL_thingOf_0 rfl (lv_at hl 3 rfl) ?_
    refine lv_iconst (v := 0) hx hb dL_thingOf_1 (by decide) ?_
    refine g_aload_n hx hb dL_thingOf_2 rfl (lv_at hl 0 rfl) ?_
    refine lv_iload_n hx hb dL_thingOf_3 rfl (lv_at hl 1 rfl) ?_
    refine lv_iload_n hx hb dL_thingOf_4 rfl (lv_at hl 2 rfl) ?_
    refine l_callX (pre := []) (x0 := ⟨0, 10, 13, 13⟩) (suf := [⟨0, 10, 17, 15⟩, ⟨0, 10, 21, 17⟩]) (As := [.int x1, .int x2]) (rest := [.int 0, va_rf (some o)]) hF hNc hM htab (cx_X4_thingOf hfl h) k_X4_thingOf u998 u999 u1000 rfl rfl hT rfl hl.1 rfl (Nat.le_of_ble_eq_true rfl) dL_thingOf_5 ⟨(Nat.le_of_ble_eq_true rfl), (Nat.le_of_ble_eq_true rfl)⟩ ⟨(Nat.le_of_ble_eq_true rfl), (Nat.le_of_ble_eq_true rfl)⟩ rfl (by decide) (by decide) (by decide) (fun _ h => absurd h List.not_mem_nil) u407 (fun q H locs h1 h2 h5 => ?_)
    refine g_astore (i := 4) (lv' := [(0, va_rf (some a0)), (1, .int x1), (2, .int x2), (3, va_rf (some o))]) hx hb dL_thingOf_13 hl (by decide) (fun v => rfl) (fun ls hl => ?_)
    refine lv_iconst (v := nI (0 + 1)) hx hb dL_thingOf_15 (by decide) ?_
    exact l_endX hF hsz rfl hO hT0 h1 h2 h5 dL_thingOf_16 (Nat.le_of_ble_eq_true rfl) (Nat.le_of_ble_eq_true rfl)
  · have hx9 := Option.some.inj hi
    subst hx9
    refine g_aload_n hx hb dL_thingOf_0 rfl (lv_at hl 3 rfl) ?_
    refine lv_iconst (v := 0) hx hb dL_thingOf_1 (by decide) ?_
    refine g_aload_n hx hb dL_thingOf_2 rfl (lv_at hl 0 rfl) ?_
    refine lv_iload_n hx hb dL_thingOf_3 rfl (lv_at hl 1 rfl) ?_
    refine lv_iload_n hx hb dL_thingOf_4 rfl (lv_at hl 2 rfl) ?_
    refine l_callX (pre := [⟨0, 10, 13, 13⟩]) (x0 := ⟨0, 10, 17, 15⟩) (suf := [⟨0, 10, 21, 17⟩]) (As := [.int x1, .int x2]) (rest := [.int 0, va_rf (some o)]) hF hNc hM htab (cx_X4_thingOf hfl h) k_X4_thingOf u998 u999 u1000 rfl rfl hT rfl hl.1 rfl (Nat.le_of_ble_eq_true rfl) dL_thingOf_5 ⟨(Nat.le_of_ble_eq_true rfl), (Nat.le_of_ble_eq_true rfl)⟩ ⟨(Nat.le_of_ble_eq_true rfl), (Nat.le_of_ble_eq_true rfl)⟩ rfl (by decide) (by decide) (by decide) (List.forall_mem_cons.mpr ⟨⟨by decide, 1, by decide, u407⟩, (fun _ h => absurd h List.not_mem_nil)⟩) u487 (fun q H locs h1 h2 h5 => ?_)
    refine g_astore (i := 4) (lv' := [(0, va_rf (some a0)), (1, .int x1), (2, .int x2), (3, va_rf (some o))]) hx hb dL_thingOf_17 hl (by decide) (fun v => rfl) (fun ls hl => ?_)
    refine lv_iconst (v := nI (1 + 1)) hx hb dL_thingOf_19 (by decide) ?_
    exact l_endX hF hsz rfl hO hT0 h1 h2 h5 dL_thingOf_20 (Nat.le_of_ble_eq_true rfl) (Nat.le_of_ble_eq_true rfl)
  · have hx9 := Option.some.inj hi
    subst hx9
    refine g_aload_n hx hb dL_thingOf_0 rfl (lv_at hl 3 rfl) ?_
    refine lv_iconst (v := 0) hx hb dL_thingOf_1 (by decide) ?_
    refine g_aload_n hx hb dL_thingOf_2 rfl (lv_at hl 0 rfl) ?_
    refine lv_iload_n hx hb dL_thingOf_3 rfl (lv_at hl 1 rfl) ?_
    refine lv_iload_n hx hb dL_thingOf_4 rfl (lv_at hl 2 rfl) ?_
    refine l_callX (pre := [⟨0, 10, 13, 13⟩, ⟨0, 10, 17, 15⟩]) (x0 := ⟨0, 10, 21, 17⟩) (suf := []) (As := [.int x1, .int x2]) (rest := [.int 0, va_rf (some o)]) hF hNc hM htab (cx_X4_thingOf hfl h) k_X4_thingOf u998 u999 u1000 rfl rfl hT rfl hl.1 rfl (Nat.le_of_ble_eq_true rfl) dL_thingOf_5 ⟨(Nat.le_of_ble_eq_true rfl), (Nat.le_of_ble_eq_true rfl)⟩ ⟨(Nat.le_of_ble_eq_true rfl), (Nat.le_of_ble_eq_true rfl)⟩ rfl (by decide) (by decide) (by decide) (List.forall_mem_cons.mpr ⟨⟨by decide, 1, by decide, u407⟩, (List.forall_mem_cons.mpr ⟨⟨by decide, 2, by decide, u487⟩, (fun _ h => absurd h List.not_mem_nil)⟩)⟩) u488 (fun q H locs h1 h2 h5 => ?_)
    refine g_astore (i := 4) (lv' := [(0, va_rf (some a0)), (1, .int x1), (2, .int x2), (3, va_rf (some o))]) hx hb dL_thingOf_21 hl (by decide) (fun v => rfl) (fun ls hl => ?_)
    refine lv_iconst (v := nI (2 + 1)) hx hb dL_thingOf_23 (by decide) ?_
    exact l_endX hF hsz rfl hO hT0 h1 h2 h5 dL_thingOf_24 (Nat.le_of_ble_eq_true rfl) (Nat.le_of_ble_eq_true rfl)
  · exact absurd hi (by simp)
abbrev rmL_numberAt : Room := { frames := 3, cells := 0, slots := 0, locals := 66 }
abbrev rmLx_numberAt : Room := { frames := 9, cells := 1, slots := 6, locals := 155 }
theorem kL_numberAt : lKc yL_numberAt cL_numberAt 5 [(0, 10, 13, 13), (0, 10, 17, 15), (0, 10, 21, 17)] 4 := ⟨u1004, u62, by decide +kernel, by decide +kernel, by decide +kernel⟩
set_option maxHeartbeats 4000000 in
set_option maxRecDepth 100000 in
theorem cL_numberAt_r {l : Launch} {D : va_G} {Y : Nat → ClassId} {S : GS} {hs : Nat} {a0 o : Nat} {x1 : Int32} {x2 : Int32} {r : Int32} (h : f_X4_numberAt S a0 x1 x2 = some (.inl r)) {yl : ClassId} {c0 : Value} (hT : gT S a0 = 5) : lMet l yL_numberAt (lWs yL_numberAt cL_numberAt 5 [(0, 10, 13, 13), (0, 10, 17, 15), (0, 10, 21, 17)]) rmL_numberAt [va_rf (some a0), .int x1, .int x2, va_rf (some o)] D Y S hs .long yl o c0 0 (.long r.toInt64) S hs := by
  refine l_ofW (by decide +kernel) ⟨(Nat.le_of_ble_eq_true rfl), (List.forall_mem_cons.mpr ⟨rf_cat _, (List.forall_mem_cons.mpr ⟨rfl, (List.forall_mem_cons.mpr ⟨rfl, (List.forall_mem_cons.mpr ⟨rf_cat _, (fun _ h => absurd h List.not_mem_nil)⟩)⟩)⟩)⟩)⟩ ?_
  intro p e s m args below meth c ls hsz htab hF hNc hAr hO hT0 hM hl
  have hl : lv_has ls 5 [(0, va_rf (some a0)), (1, .int x1), (2, .int x2), (3, va_rf (some o))] := by rw [g_args [va_rf (some a0), .int x1, .int x2, va_rf (some o)] 0 (List.forall_mem_cons.mpr ⟨rf_cat _, (List.forall_mem_cons.mpr ⟨rfl, (List.forall_mem_cons.mpr ⟨rfl, (List.forall_mem_cons.mpr ⟨rf_cat _, (fun _ h => absurd h List.not_mem_nil)⟩)⟩)⟩)⟩)] at hl; exact hl
  have hF : gF p s m args meth c RL cL_numberAt 5 (some .int) D Y (gA S hs) := hF
  have hx := hF.1
  have hb := hF.2.1
  refine g_aload_n hx hb dL_numberAt_0 rfl (lv_at hl 3 rfl) ?_
  refine lv_iconst (v := 0) hx hb dL_numberAt_1 (by decide) ?_
  refine g_aload_n hx hb dL_numberAt_2 rfl (lv_at hl 0 rfl) ?_
  refine lv_iload_n hx hb dL_numberAt_3 rfl (lv_at hl 1 rfl) ?_
  refine lv_iload_n hx hb dL_numberAt_4 rfl (lv_at hl 2 rfl) ?_
  refine g_callV (As := [.int x1, .int x2]) (rest := [.int 0, va_rf (some o)]) hF hM (c_X4_numberAt h) k_X4_numberAt u1005 u1006 u1007 rfl rfl hT rfl hl.1 rfl (Nat.le_of_ble_eq_true rfl) dL_numberAt_5 ⟨(Nat.le_of_ble_eq_true rfl), (Nat.le_of_ble_eq_true rfl)⟩ ⟨(Nat.le_of_ble_eq_true rfl), (Nat.le_of_ble_eq_true rfl)⟩ (fun H locs hM => ?_)
  refine lv_i2l hx hb dL_numberAt_8 rfl ?_
  refine l_last hF hsz hM hAr hO hT0 dL_numberAt_9 (fun H locs h1 h2 h3 h4 h5 => ?_)
  refine lv_goto (tgt := 25) hx hb dL_numberAt_10 (by decide) ?_
  refine lv_iconst (v := 0) hx hb dL_numberAt_25 (by decide) ?_
  exact l_end hF rfl h1 h2 h3 h4 h5 dL_numberAt_26 (Nat.le_of_ble_eq_true rfl) (Nat.le_of_ble_eq_true rfl)
set_option maxHeartbeats 4000000 in
set_option maxRecDepth 100000 in
theorem cL_numberAt_x {l : Launch} {D : va_G} {Y : Nat → ClassId} {S : GS} {hs : Nat} {a0 o : Nat} {x1 : Int32} {x2 : Int32} {x : Nat} (hfl : l.stackTraces = false) (h : f_X4_numberAt S a0 x1 x2 = some (.inr x)) {i : Nat} {yl : ClassId} {c0 : Value} (hT : gT S a0 = 5) (hi : ([1, 2, 4] : List Nat)[i]? = some x) : lMet l yL_numberAt (lWs yL_numberAt cL_numberAt 5 [(0, 10, 13, 13), (0, 10, 17, 15), (0, 10, 21, 17)]) rmLx_numberAt [va_rf (some a0), .int x1, .int x2, va_rf (some o)] D Y S hs .long yl o c0 (nI (i + 1)) c0 S hs := by
  refine l_ofW (by decide +kernel) ⟨(Nat.le_of_ble_eq_true rfl), (List.forall_mem_cons.mpr ⟨rf_cat _, (List.forall_mem_cons.mpr ⟨rfl, (List.forall_mem_cons.mpr ⟨rfl, (List.forall_mem_cons.mpr ⟨rf_cat _, (fun _ h => absurd h List.not_mem_nil)⟩)⟩)⟩)⟩)⟩ ?_
  intro p e s m args below meth c ls hsz htab hF hNc hAr hO hT0 hM hl
  have hl : lv_has ls 5 [(0, va_rf (some a0)), (1, .int x1), (2, .int x2), (3, va_rf (some o))] := by rw [g_args [va_rf (some a0), .int x1, .int x2, va_rf (some o)] 0 (List.forall_mem_cons.mpr ⟨rf_cat _, (List.forall_mem_cons.mpr ⟨rfl, (List.forall_mem_cons.mpr ⟨rfl, (List.forall_mem_cons.mpr ⟨rf_cat _, (fun _ h => absurd h List.not_mem_nil)⟩)⟩)⟩)⟩)] at hl; exact hl
  have hF : gF p s m args meth c RL cL_numberAt 5 (some .int) D Y (gA S hs) := hF
  have hx := hF.1
  have hb := hF.2.1
  rcases i with _ | _ | _ | i
  · have hx9 := Option.some.inj hi
    subst hx9
    refine g_aload_n hx hb dL_numberAt_0 rfl (lv_at hl 3 rfl) ?_
    refine lv_iconst (v := 0) hx hb dL_numberAt_1 (by decide) ?_
    refine g_aload_n hx hb dL_numberAt_2 rfl (lv_at hl 0 rfl) ?_
    refine lv_iload_n hx hb dL_numberAt_3 rfl (lv_at hl 1 rfl) ?_
    refine lv_iload_n hx hb dL_numberAt_4 rfl (lv_at hl 2 rfl) ?_
    refine l_callX (pre := []) (x0 := ⟨0, 10, 13, 13⟩) (suf := [⟨0, 10, 17, 15⟩, ⟨0, 10, 21, 17⟩]) (As := [.int x1, .int x2]) (rest := [.int 0, va_rf (some o)]) hF hNc hM htab (cx_X4_numberAt hfl h) k_X4_numberAt u1005 u1006 u1007 rfl rfl hT rfl hl.1 rfl (Nat.le_of_ble_eq_true rfl) dL_numberAt_5 ⟨(Nat.le_of_ble_eq_true rfl), (Nat.le_of_ble_eq_true rfl)⟩ ⟨(Nat.le_of_ble_eq_true rfl), (Nat.le_of_ble_eq_true rfl)⟩ rfl (by decide) (by decide) (by decide) (fun _ h => absurd h List.not_mem_nil) u407 (fun q H locs h1 h2 h5 => ?_)
    refine g_astore (i := 4) (lv' := [(0, va_rf (some a0)), (1, .int x1), (2, .int x2), (3, va_rf (some o))]) hx hb dL_numberAt_13 hl (by decide) (fun v => rfl) (fun ls hl => ?_)
    refine lv_iconst (v := nI (0 + 1)) hx hb dL_numberAt_15 (by decide) ?_
    exact l_endX hF hsz rfl hO hT0 h1 h2 h5 dL_numberAt_16 (Nat.le_of_ble_eq_true rfl) (Nat.le_of_ble_eq_true rfl)
  · have hx9 := Option.some.inj hi
    subst hx9
    refine g_aload_n hx hb dL_numberAt_0 rfl (lv_at hl 3 rfl) ?_
    refine lv_iconst (v := 0) hx hb dL_numberAt_1 (by decide) ?_
    refine g_aload_n hx hb dL_numberAt_2 rfl (lv_at hl 0 rfl) ?_
    refine lv_iload_n hx hb dL_numberAt_3 rfl (lv_at hl 1 rfl) ?_
    refine lv_iload_n hx hb dL_numberAt_4 rfl (lv_at hl 2 rfl) ?_
    refine l_callX (pre := [⟨0, 10, 13, 13⟩]) (x0 := ⟨0, 10, 17, 15⟩) (suf := [⟨0, 10, 21, 17⟩]) (As := [.int x1, .int x2]) (rest := [.int 0, va_rf (some o)]) hF hNc hM htab (cx_X4_numberAt hfl h) k_X4_numberAt u1005 u1006 u1007 rfl rfl hT rfl hl.1 rfl (Nat.le_of_ble_eq_true rfl) dL_numberAt_5 ⟨(Nat.le_of_ble_eq_true rfl), (Nat.le_of_ble_eq_true rfl)⟩ ⟨(Nat.le_of_ble_eq_true rfl), (Nat.le_of_ble_eq_true rfl)⟩ rfl (by decide) (by decide) (by decide) (List.forall_mem_cons.mpr ⟨⟨by decide, 1, by decide, u407⟩, (fun _ h => absurd h List.not_mem_nil)⟩) u487 (fun q H locs h1 h2 h5 => ?_)
    refine g_astore (i := 4) (lv' := [(0, va_rf (some a0)), (1, .int x1), (2, .int x2), (3, va_rf (some o))]) hx hb dL_numberAt_17 hl (by decide) (fun v => rfl) (fun ls hl => ?_)
    refine lv_iconst (v := nI (1 + 1)) hx hb dL_numberAt_19 (by decide) ?_
    exact l_endX hF hsz rfl hO hT0 h1 h2 h5 dL_numberAt_20 (Nat.le_of_ble_eq_true rfl) (Nat.le_of_ble_eq_true rfl)
  · have hx9 := Option.some.inj hi
    subst hx9
    refine g_aload_n hx hb dL_numberAt_0 rfl (lv_at hl 3 rfl) ?_
    refine lv_iconst (v := 0) hx hb dL_numberAt_1 (by decide) ?_
    refine g_aload_n hx hb dL_numberAt_2 rfl (lv_at hl 0 rfl) ?_
    refine lv_iload_n hx hb dL_numberAt_3 rfl (lv_at hl 1 rfl) ?_
    refine lv_iload_n hx hb dL_numberAt_4 rfl (lv_at hl 2 rfl) ?_
    refine l_callX (pre := [⟨0, 10, 13, 13⟩, ⟨0, 10, 17, 15⟩]) (x0 := ⟨0, 10, 21, 17⟩) (suf := []) (As := [.int x1, .int x2]) (rest := [.int 0, va_rf (some o)]) hF hNc hM htab (cx_X4_numberAt hfl h) k_X4_numberAt u1005 u1006 u1007 rfl rfl hT rfl hl.1 rfl (Nat.le_of_ble_eq_true rfl) dL_numberAt_5 ⟨(Nat.le_of_ble_eq_true rfl), (Nat.le_of_ble_eq_true rfl)⟩ ⟨(Nat.le_of_ble_eq_true rfl), (Nat.le_of_ble_eq_true rfl)⟩ rfl (by decide) (by decide) (by decide) (List.forall_mem_cons.mpr ⟨⟨by decide, 1, by decide, u407⟩, (List.forall_mem_cons.mpr ⟨⟨by decide, 2, by decide, u487⟩, (fun _ h => absurd h List.not_mem_nil)⟩)⟩) u488 (fun q H locs h1 h2 h5 => ?_)
    refine g_astore (i := 4) (lv' := [(0, va_rf (some a0)), (1, .int x1), (2, .int x2), (3, va_rf (some o))]) hx hb dL_numberAt_21 hl (by decide) (fun v => rfl) (fun ls hl => ?_)
    refine lv_iconst (v := nI (2 + 1)) hx hb dL_numberAt_23 (by decide) ?_
    exact l_endX hF hsz rfl hO hT0 h1 h2 h5 dL_numberAt_24 (Nat.le_of_ble_eq_true rfl) (Nat.le_of_ble_eq_true rfl)
  · exact absurd hi (by simp)
abbrev rmL_keepKeys : Room := { frames := 5, cells := 0, slots := 0, locals := 117 }
abbrev rmLx_keepKeys : Room := { frames := 9, cells := 1, slots := 6, locals := 160 }
theorem kL_keepKeys : lKc yL_keepKeys cL_keepKeys 6 [(0, 12, 15, 13), (0, 12, 19, 15), (0, 12, 23, 71)] 5 := ⟨u1011, u62, by decide +kernel, by decide +kernel, by decide +kernel⟩
set_option maxHeartbeats 4000000 in
set_option maxRecDepth 100000 in
theorem cL_keepKeys_r {l : Launch} {D : va_G} {Y : Nat → ClassId} {S : GS} {hs : Nat} {a0 o : Nat} {x1 : Int32} {x2 : Int32} {x3 : Int32} {r : Int32} {S' : GS} (h : f_X4_keepKeys S a0 x1 x2 x3 = some (.inl (r, S'))) {yl : ClassId} {c0 : Value} (hT : gT S a0 = 5) : lMet l yL_keepKeys (lWs yL_keepKeys cL_keepKeys 6 [(0, 12, 15, 13), (0, 12, 19, 15), (0, 12, 23, 71)]) rmL_keepKeys [va_rf (some a0), .int x1, .int x2, .int x3, va_rf (some o)] D Y S hs .long yl o c0 0 (.long r.toInt64) S' hs := by
  refine l_ofW (by decide +kernel) ⟨(Nat.le_of_ble_eq_true rfl), (List.forall_mem_cons.mpr ⟨rf_cat _, (List.forall_mem_cons.mpr ⟨rfl, (List.forall_mem_cons.mpr ⟨rfl, (List.forall_mem_cons.mpr ⟨rfl, (List.forall_mem_cons.mpr ⟨rf_cat _, (fun _ h => absurd h List.not_mem_nil)⟩)⟩)⟩)⟩)⟩)⟩ ?_
  intro p e s m args below meth c ls hsz htab hF hNc hAr hO hT0 hM hl
  have hl : lv_has ls 6 [(0, va_rf (some a0)), (1, .int x1), (2, .int x2), (3, .int x3), (4, va_rf (some o))] := by rw [g_args [va_rf (some a0), .int x1, .int x2, .int x3, va_rf (some o)] 0 (List.forall_mem_cons.mpr ⟨rf_cat _, (List.forall_mem_cons.mpr ⟨rfl, (List.forall_mem_cons.mpr ⟨rfl, (List.forall_mem_cons.mpr ⟨rfl, (List.forall_mem_cons.mpr ⟨rf_cat _, (fun _ h => absurd h List.not_mem_nil)⟩)⟩)⟩)⟩)⟩)] at hl; exact hl
  have hF : gF p s m args meth c RL cL_keepKeys 6 (some .int) D Y (gA S hs) := hF
  have hx := hF.1
  have hb := hF.2.1
  refine g_aload hx hb dL_keepKeys_0 (lv_at hl 4 rfl) ?_
  refine lv_iconst (v := 0) hx hb dL_keepKeys_2 (by decide) ?_
  refine g_aload_n hx hb dL_keepKeys_3 rfl (lv_at hl 0 rfl) ?_
  refine lv_iload_n hx hb dL_keepKeys_4 rfl (lv_at hl 1 rfl) ?_
  refine lv_iload_n hx hb dL_keepKeys_5 rfl (lv_at hl 2 rfl) ?_
  refine lv_iload_n hx hb dL_keepKeys_6 rfl (lv_at hl 3 rfl) ?_
  refine g_callV (As := [.int x1, .int x2, .int x3]) (rest := [.int 0, va_rf (some o)]) hF hM (c_X4_keepKeys h) k_X4_keepKeys u1012 u1013 u1014 rfl rfl hT rfl hl.1 rfl (Nat.le_of_ble_eq_true rfl) dL_keepKeys_7 ⟨(Nat.le_of_ble_eq_true rfl), (Nat.le_of_ble_eq_true rfl)⟩ ⟨(Nat.le_of_ble_eq_true rfl), (Nat.le_of_ble_eq_true rfl)⟩ (fun H locs hM => ?_)
  refine lv_i2l hx hb dL_keepKeys_10 rfl ?_
  refine l_last hF hsz hM hAr hO hT0 dL_keepKeys_11 (fun H locs h1 h2 h3 h4 h5 => ?_)
  refine lv_goto (tgt := 27) hx hb dL_keepKeys_12 (by decide) ?_
  refine lv_iconst (v := 0) hx hb dL_keepKeys_27 (by decide) ?_
  exact l_end hF rfl h1 h2 h3 h4 h5 dL_keepKeys_28 (Nat.le_of_ble_eq_true rfl) (Nat.le_of_ble_eq_true rfl)
set_option maxHeartbeats 4000000 in
set_option maxRecDepth 100000 in
theorem cL_keepKeys_x {l : Launch} {D : va_G} {Y : Nat → ClassId} {S : GS} {hs : Nat} {a0 o : Nat} {x1 : Int32} {x2 : Int32} {x3 : Int32} {x : Nat} (hfl : l.stackTraces = false) (h : f_X4_keepKeys S a0 x1 x2 x3 = some (.inr x)) {i : Nat} {yl : ClassId} {c0 : Value} (hT : gT S a0 = 5) (hi : ([1, 2, 3] : List Nat)[i]? = some x) : lMet l yL_keepKeys (lWs yL_keepKeys cL_keepKeys 6 [(0, 12, 15, 13), (0, 12, 19, 15), (0, 12, 23, 71)]) rmLx_keepKeys [va_rf (some a0), .int x1, .int x2, .int x3, va_rf (some o)] D Y S hs .long yl o c0 (nI (i + 1)) c0 S hs := by
  refine l_ofW (by decide +kernel) ⟨(Nat.le_of_ble_eq_true rfl), (List.forall_mem_cons.mpr ⟨rf_cat _, (List.forall_mem_cons.mpr ⟨rfl, (List.forall_mem_cons.mpr ⟨rfl, (List.forall_mem_cons.mpr ⟨rfl, (List.forall_mem_cons.mpr ⟨rf_cat _, (fun _ h => absurd h List.not_mem_nil)⟩)⟩)⟩)⟩)⟩)⟩ ?_
  intro p e s m args below meth c ls hsz htab hF hNc hAr hO hT0 hM hl
  have hl : lv_has ls 6 [(0, va_rf (some a0)), (1, .int x1), (2, .int x2), (3, .int x3), (4, va_rf (some o))] := by rw [g_args [va_rf (some a0), .int x1, .int x2, .int x3, va_rf (some o)] 0 (List.forall_mem_cons.mpr ⟨rf_cat _, (List.forall_mem_cons.mpr ⟨rfl, (List.forall_mem_cons.mpr ⟨rfl, (List.forall_mem_cons.mpr ⟨rfl, (List.forall_mem_cons.mpr ⟨rf_cat _, (fun _ h => absurd h List.not_mem_nil)⟩)⟩)⟩)⟩)⟩)] at hl; exact hl
  have hF : gF p s m args meth c RL cL_keepKeys 6 (some .int) D Y (gA S hs) := hF
  have hx := hF.1
  have hb := hF.2.1
  rcases i with _ | _ | _ | i
  · have hx9 := Option.some.inj hi
    subst hx9
    refine g_aload hx hb dL_keepKeys_0 (lv_at hl 4 rfl) ?_
    refine lv_iconst (v := 0) hx hb dL_keepKeys_2 (by decide) ?_
    refine g_aload_n hx hb dL_keepKeys_3 rfl (lv_at hl 0 rfl) ?_
    refine lv_iload_n hx hb dL_keepKeys_4 rfl (lv_at hl 1 rfl) ?_
    refine lv_iload_n hx hb dL_keepKeys_5 rfl (lv_at hl 2 rfl) ?_
    refine lv_iload_n hx hb dL_keepKeys_6 rfl (lv_at hl 3 rfl) ?_
    refine l_callX (pre := []) (x0 := ⟨0, 12, 15, 13⟩) (suf := [⟨0, 12, 19, 15⟩, ⟨0, 12, 23, 71⟩]) (As := [.int x1, .int x2, .int x3]) (rest := [.int 0, va_rf (some o)]) hF hNc hM htab (cx_X4_keepKeys hfl h) k_X4_keepKeys u1012 u1013 u1014 rfl rfl hT rfl hl.1 rfl (Nat.le_of_ble_eq_true rfl) dL_keepKeys_7 ⟨(Nat.le_of_ble_eq_true rfl), (Nat.le_of_ble_eq_true rfl)⟩ ⟨(Nat.le_of_ble_eq_true rfl), (Nat.le_of_ble_eq_true rfl)⟩ rfl (by decide) (by decide) (by decide) (fun _ h => absurd h List.not_mem_nil) u407 (fun q H locs h1 h2 h5 => ?_)
    refine g_astore (i := 5) (lv' := [(0, va_rf (some a0)), (1, .int x1), (2, .int x2), (3, .int x3), (4, va_rf (some o))]) hx hb dL_keepKeys_15 hl (by decide) (fun v => rfl) (fun ls hl => ?_)
    refine lv_iconst (v := nI (0 + 1)) hx hb dL_keepKeys_17 (by decide) ?_
    exact l_endX hF hsz rfl hO hT0 h1 h2 h5 dL_keepKeys_18 (Nat.le_of_ble_eq_true rfl) (Nat.le_of_ble_eq_true rfl)
  · have hx9 := Option.some.inj hi
    subst hx9
    refine g_aload hx hb dL_keepKeys_0 (lv_at hl 4 rfl) ?_
    refine lv_iconst (v := 0) hx hb dL_keepKeys_2 (by decide) ?_
    refine g_aload_n hx hb dL_keepKeys_3 rfl (lv_at hl 0 rfl) ?_
    refine lv_iload_n hx hb dL_keepKeys_4 rfl (lv_at hl 1 rfl) ?_
    refine lv_iload_n hx hb dL_keepKeys_5 rfl (lv_at hl 2 rfl) ?_
    refine lv_iload_n hx hb dL_keepKeys_6 rfl (lv_at hl 3 rfl) ?_
    refine l_callX (pre := [⟨0, 12, 15, 13⟩]) (x0 := ⟨0, 12, 19, 15⟩) (suf := [⟨0, 12, 23, 71⟩]) (As := [.int x1, .int x2, .int x3]) (rest := [.int 0, va_rf (some o)]) hF hNc hM htab (cx_X4_keepKeys hfl h) k_X4_keepKeys u1012 u1013 u1014 rfl rfl hT rfl hl.1 rfl (Nat.le_of_ble_eq_true rfl) dL_keepKeys_7 ⟨(Nat.le_of_ble_eq_true rfl), (Nat.le_of_ble_eq_true rfl)⟩ ⟨(Nat.le_of_ble_eq_true rfl), (Nat.le_of_ble_eq_true rfl)⟩ rfl (by decide) (by decide) (by decide) (List.forall_mem_cons.mpr ⟨⟨by decide, 1, by decide, u407⟩, (fun _ h => absurd h List.not_mem_nil)⟩) u487 (fun q H locs h1 h2 h5 => ?_)
    refine g_astore (i := 5) (lv' := [(0, va_rf (some a0)), (1, .int x1), (2, .int x2), (3, .int x3), (4, va_rf (some o))]) hx hb dL_keepKeys_19 hl (by decide) (fun v => rfl) (fun ls hl => ?_)
    refine lv_iconst (v := nI (1 + 1)) hx hb dL_keepKeys_21 (by decide) ?_
    exact l_endX hF hsz rfl hO hT0 h1 h2 h5 dL_keepKeys_22 (Nat.le_of_ble_eq_true rfl) (Nat.le_of_ble_eq_true rfl)
  · have hx9 := Option.some.inj hi
    subst hx9
    refine g_aload hx hb dL_keepKeys_0 (lv_at hl 4 rfl) ?_
    refine lv_iconst (v := 0) hx hb dL_keepKeys_2 (by decide) ?_
    refine g_aload_n hx hb dL_keepKeys_3 rfl (lv_at hl 0 rfl) ?_
    refine lv_iload_n hx hb dL_keepKeys_4 rfl (lv_at hl 1 rfl) ?_
    refine lv_iload_n hx hb dL_keepKeys_5 rfl (lv_at hl 2 rfl) ?_
    refine lv_iload_n hx hb dL_keepKeys_6 rfl (lv_at hl 3 rfl) ?_
    refine l_callX (pre := [⟨0, 12, 15, 13⟩, ⟨0, 12, 19, 15⟩]) (x0 := ⟨0, 12, 23, 71⟩) (suf := []) (As := [.int x1, .int x2, .int x3]) (rest := [.int 0, va_rf (some o)]) hF hNc hM htab (cx_X4_keepKeys hfl h) k_X4_keepKeys u1012 u1013 u1014 rfl rfl hT rfl hl.1 rfl (Nat.le_of_ble_eq_true rfl) dL_keepKeys_7 ⟨(Nat.le_of_ble_eq_true rfl), (Nat.le_of_ble_eq_true rfl)⟩ ⟨(Nat.le_of_ble_eq_true rfl), (Nat.le_of_ble_eq_true rfl)⟩ rfl (by decide) (by decide) (by decide) (List.forall_mem_cons.mpr ⟨⟨by decide, 1, by decide, u407⟩, (List.forall_mem_cons.mpr ⟨⟨by decide, 2, by decide, u487⟩, (fun _ h => absurd h List.not_mem_nil)⟩)⟩) u726 (fun q H locs h1 h2 h5 => ?_)
    refine g_astore (i := 5) (lv' := [(0, va_rf (some a0)), (1, .int x1), (2, .int x2), (3, .int x3), (4, va_rf (some o))]) hx hb dL_keepKeys_23 hl (by decide) (fun v => rfl) (fun ls hl => ?_)
    refine lv_iconst (v := nI (2 + 1)) hx hb dL_keepKeys_25 (by decide) ?_
    exact l_endX hF hsz rfl hO hT0 h1 h2 h5 dL_keepKeys_26 (Nat.le_of_ble_eq_true rfl) (Nat.le_of_ble_eq_true rfl)
  · exact absurd hi (by simp)
abbrev rmL_share : Room := { frames := 4, cells := 0, slots := 0, locals := 87 }
abbrev rmLx_share : Room := { frames := 9, cells := 1, slots := 6, locals := 157 }
theorem kL_share : lKc yL_share cL_share 4 [(0, 9, 12, 13), (0, 9, 15, 15), (0, 9, 18, 159)] 3 := ⟨u1022, u62, by decide +kernel, by decide +kernel, by decide +kernel⟩
set_option maxHeartbeats 4000000 in
set_option maxRecDepth 100000 in
theorem cL_share_r {l : Launch} {D : va_G} {Y : Nat → ClassId} {S : GS} {hs : Nat} {a0 o : Nat} {x1 : Int32} {r : UInt32} (h : f_X4_share S a0 x1 = some (.inl r)) {yl : ClassId} {c0 : Value} (hT : gT S a0 = 5) (hn : vf_n64 (FP.f2d r)) : lMet l yL_share (lWs yL_share cL_share 4 [(0, 9, 12, 13), (0, 9, 15, 15), (0, 9, 18, 159)]) rmL_share [va_rf (some a0), .int x1, va_rf (some o)] D Y S hs .double yl o c0 0 (.double (FP.f2d r)) S hs := by
  refine l_ofW (by decide +kernel) ⟨(Nat.le_of_ble_eq_true rfl), (List.forall_mem_cons.mpr ⟨rf_cat _, (List.forall_mem_cons.mpr ⟨rfl, (List.forall_mem_cons.mpr ⟨rf_cat _, (fun _ h => absurd h List.not_mem_nil)⟩)⟩)⟩)⟩ ?_
  intro p e s m args below meth c ls hsz htab hF hNc hAr hO hT0 hM hl
  have hl : lv_has ls 4 [(0, va_rf (some a0)), (1, .int x1), (2, va_rf (some o))] := by rw [g_args [va_rf (some a0), .int x1, va_rf (some o)] 0 (List.forall_mem_cons.mpr ⟨rf_cat _, (List.forall_mem_cons.mpr ⟨rfl, (List.forall_mem_cons.mpr ⟨rf_cat _, (fun _ h => absurd h List.not_mem_nil)⟩)⟩)⟩)] at hl; exact hl
  have hF : gF p s m args meth c RL cL_share 4 (some .int) D Y (gA S hs) := hF
  have hx := hF.1
  have hb := hF.2.1
  refine g_aload_n hx hb dL_share_0 rfl (lv_at hl 2 rfl) ?_
  refine lv_iconst (v := 0) hx hb dL_share_1 (by decide) ?_
  refine g_aload_n hx hb dL_share_2 rfl (lv_at hl 0 rfl) ?_
  refine lv_iload_n hx hb dL_share_3 rfl (lv_at hl 1 rfl) ?_
  refine g_callV (As := [.int x1]) (rest := [.int 0, va_rf (some o)]) hF hM (c_X4_share h) k_X4_share u1037 u1038 u1039 rfl rfl hT rfl hl.1 rfl (Nat.le_of_ble_eq_true rfl) dL_share_4 ⟨(Nat.le_of_ble_eq_true rfl), (Nat.le_of_ble_eq_true rfl)⟩ ⟨(Nat.le_of_ble_eq_true rfl), (Nat.le_of_ble_eq_true rfl)⟩ (fun H locs hM => ?_)
  refine lv_f2d hx hb dL_share_7 hn ?_
  refine l_dast hF hsz hM hAr hO hT0 dL_share_8 (fun H locs h1 h2 h3 h4 h5 => ?_)
  refine lv_goto (tgt := 21) hx hb dL_share_9 (by decide) ?_
  refine lv_iconst (v := 0) hx hb dL_share_21 (by decide) ?_
  exact l_end hF rfl h1 h2 h3 h4 h5 dL_share_22 (Nat.le_of_ble_eq_true rfl) (Nat.le_of_ble_eq_true rfl)
set_option maxHeartbeats 4000000 in
set_option maxRecDepth 100000 in
theorem cL_share_x {l : Launch} {D : va_G} {Y : Nat → ClassId} {S : GS} {hs : Nat} {a0 o : Nat} {x1 : Int32} {x : Nat} (hfl : l.stackTraces = false) (h : f_X4_share S a0 x1 = some (.inr x)) {i : Nat} {yl : ClassId} {c0 : Value} (hT : gT S a0 = 5) (hi : ([1, 2, 6] : List Nat)[i]? = some x) : lMet l yL_share (lWs yL_share cL_share 4 [(0, 9, 12, 13), (0, 9, 15, 15), (0, 9, 18, 159)]) rmLx_share [va_rf (some a0), .int x1, va_rf (some o)] D Y S hs .double yl o c0 (nI (i + 1)) c0 S hs := by
  refine l_ofW (by decide +kernel) ⟨(Nat.le_of_ble_eq_true rfl), (List.forall_mem_cons.mpr ⟨rf_cat _, (List.forall_mem_cons.mpr ⟨rfl, (List.forall_mem_cons.mpr ⟨rf_cat _, (fun _ h => absurd h List.not_mem_nil)⟩)⟩)⟩)⟩ ?_
  intro p e s m args below meth c ls hsz htab hF hNc hAr hO hT0 hM hl
  have hl : lv_has ls 4 [(0, va_rf (some a0)), (1, .int x1), (2, va_rf (some o))] := by rw [g_args [va_rf (some a0), .int x1, va_rf (some o)] 0 (List.forall_mem_cons.mpr ⟨rf_cat _, (List.forall_mem_cons.mpr ⟨rfl, (List.forall_mem_cons.mpr ⟨rf_cat _, (fun _ h => absurd h List.not_mem_nil)⟩)⟩)⟩)] at hl; exact hl
  have hF : gF p s m args meth c RL cL_share 4 (some .int) D Y (gA S hs) := hF
  have hx := hF.1
  have hb := hF.2.1
  rcases i with _ | _ | _ | i
  · have hx9 := Option.some.inj hi
    subst hx9
    refine g_aload_n hx hb dL_share_0 rfl (lv_at hl 2 rfl) ?_
    refine lv_iconst (v := 0) hx hb dL_share_1 (by decide) ?_
    refine g_aload_n hx hb dL_share_2 rfl (lv_at hl 0 rfl) ?_
    refine lv_iload_n hx hb dL_share_3 rfl (lv_at hl 1 rfl) ?_
    refine l_callX (pre := []) (x0 := ⟨0, 9, 12, 13⟩) (suf := [⟨0, 9, 15, 15⟩, ⟨0, 9, 18, 159⟩]) (As := [.int x1]) (rest := [.int 0, va_rf (some o)]) hF hNc hM htab (cx_X4_share hfl h) k_X4_share u1037 u1038 u1039 rfl rfl hT rfl hl.1 rfl (Nat.le_of_ble_eq_true rfl) dL_share_4 ⟨(Nat.le_of_ble_eq_true rfl), (Nat.le_of_ble_eq_true rfl)⟩ ⟨(Nat.le_of_ble_eq_true rfl), (Nat.le_of_ble_eq_true rfl)⟩ rfl (by decide) (by decide) (by decide) (fun _ h => absurd h List.not_mem_nil) u407 (fun q H locs h1 h2 h5 => ?_)
    refine g_astore_n (i := 3) (lv' := [(0, va_rf (some a0)), (1, .int x1), (2, va_rf (some o))]) hx hb dL_share_12 rfl hl (by decide) (fun v => rfl) (fun ls hl => ?_)
    refine lv_iconst (v := nI (0 + 1)) hx hb dL_share_13 (by decide) ?_
    exact l_endX hF hsz rfl hO hT0 h1 h2 h5 dL_share_14 (Nat.le_of_ble_eq_true rfl) (Nat.le_of_ble_eq_true rfl)
  · have hx9 := Option.some.inj hi
    subst hx9
    refine g_aload_n hx hb dL_share_0 rfl (lv_at hl 2 rfl) ?_
    refine lv_iconst (v := 0) hx hb dL_share_1 (by decide) ?_
    refine g_aload_n hx hb dL_share_2 rfl (lv_at hl 0 rfl) ?_
    refine lv_iload_n hx hb dL_share_3 rfl (lv_at hl 1 rfl) ?_
    refine l_callX (pre := [⟨0, 9, 12, 13⟩]) (x0 := ⟨0, 9, 15, 15⟩) (suf := [⟨0, 9, 18, 159⟩]) (As := [.int x1]) (rest := [.int 0, va_rf (some o)]) hF hNc hM htab (cx_X4_share hfl h) k_X4_share u1037 u1038 u1039 rfl rfl hT rfl hl.1 rfl (Nat.le_of_ble_eq_true rfl) dL_share_4 ⟨(Nat.le_of_ble_eq_true rfl), (Nat.le_of_ble_eq_true rfl)⟩ ⟨(Nat.le_of_ble_eq_true rfl), (Nat.le_of_ble_eq_true rfl)⟩ rfl (by decide) (by decide) (by decide) (List.forall_mem_cons.mpr ⟨⟨by decide, 1, by decide, u407⟩, (fun _ h => absurd h List.not_mem_nil)⟩) u487 (fun q H locs h1 h2 h5 => ?_)
    refine g_astore_n (i := 3) (lv' := [(0, va_rf (some a0)), (1, .int x1), (2, va_rf (some o))]) hx hb dL_share_15 rfl hl (by decide) (fun v => rfl) (fun ls hl => ?_)
    refine lv_iconst (v := nI (1 + 1)) hx hb dL_share_16 (by decide) ?_
    exact l_endX hF hsz rfl hO hT0 h1 h2 h5 dL_share_17 (Nat.le_of_ble_eq_true rfl) (Nat.le_of_ble_eq_true rfl)
  · have hx9 := Option.some.inj hi
    subst hx9
    refine g_aload_n hx hb dL_share_0 rfl (lv_at hl 2 rfl) ?_
    refine lv_iconst (v := 0) hx hb dL_share_1 (by decide) ?_
    refine g_aload_n hx hb dL_share_2 rfl (lv_at hl 0 rfl) ?_
    refine lv_iload_n hx hb dL_share_3 rfl (lv_at hl 1 rfl) ?_
    refine l_callX (pre := [⟨0, 9, 12, 13⟩, ⟨0, 9, 15, 15⟩]) (x0 := ⟨0, 9, 18, 159⟩) (suf := []) (As := [.int x1]) (rest := [.int 0, va_rf (some o)]) hF hNc hM htab (cx_X4_share hfl h) k_X4_share u1037 u1038 u1039 rfl rfl hT rfl hl.1 rfl (Nat.le_of_ble_eq_true rfl) dL_share_4 ⟨(Nat.le_of_ble_eq_true rfl), (Nat.le_of_ble_eq_true rfl)⟩ ⟨(Nat.le_of_ble_eq_true rfl), (Nat.le_of_ble_eq_true rfl)⟩ rfl (by decide) (by decide) (by decide) (List.forall_mem_cons.mpr ⟨⟨by decide, 1, by decide, u407⟩, (List.forall_mem_cons.mpr ⟨⟨by decide, 2, by decide, u487⟩, (fun _ h => absurd h List.not_mem_nil)⟩)⟩) u1023 (fun q H locs h1 h2 h5 => ?_)
    refine g_astore_n (i := 3) (lv' := [(0, va_rf (some a0)), (1, .int x1), (2, va_rf (some o))]) hx hb dL_share_18 rfl hl (by decide) (fun v => rfl) (fun ls hl => ?_)
    refine lv_iconst (v := nI (2 + 1)) hx hb dL_share_19 (by decide) ?_
    exact l_endX hF hsz rfl hO hT0 h1 h2 h5 dL_share_20 (Nat.le_of_ble_eq_true rfl) (Nat.le_of_ble_eq_true rfl)
  · exact absurd hi (by simp)
abbrev rmL_meanKey : Room := { frames := 4, cells := 0, slots := 0, locals := 87 }
abbrev rmLx_meanKey : Room := { frames := 9, cells := 1, slots := 6, locals := 157 }
theorem kL_meanKey : lKc yL_meanKey cL_meanKey 4 [(0, 8, 11, 13), (0, 8, 14, 15), (0, 8, 17, 159)] 3 := ⟨u1048, u62, by decide +kernel, by decide +kernel, by decide +kernel⟩
set_option maxHeartbeats 4000000 in
set_option maxRecDepth 100000 in
theorem cL_meanKey_r {l : Launch} {D : va_G} {Y : Nat → ClassId} {S : GS} {hs : Nat} {a0 o : Nat} {x1 : Int32} {r : UInt64} (h : f_X4_meanKey S a0 x1 = some (.inl r)) {yl : ClassId} {c0 : Value} (hT : gT S a0 = 5) : lMet l yL_meanKey (lWs yL_meanKey cL_meanKey 4 [(0, 8, 11, 13), (0, 8, 14, 15), (0, 8, 17, 159)]) rmL_meanKey [va_rf (some a0), .int x1, va_rf (some o)] D Y S hs .double yl o c0 0 (.double r) S hs := by
  refine l_ofW (by decide +kernel) ⟨(Nat.le_of_ble_eq_true rfl), (List.forall_mem_cons.mpr ⟨rf_cat _, (List.forall_mem_cons.mpr ⟨rfl, (List.forall_mem_cons.mpr ⟨rf_cat _, (fun _ h => absurd h List.not_mem_nil)⟩)⟩)⟩)⟩ ?_
  intro p e s m args below meth c ls hsz htab hF hNc hAr hO hT0 hM hl
  have hl : lv_has ls 4 [(0, va_rf (some a0)), (1, .int x1), (2, va_rf (some o))] := by rw [g_args [va_rf (some a0), .int x1, va_rf (some o)] 0 (List.forall_mem_cons.mpr ⟨rf_cat _, (List.forall_mem_cons.mpr ⟨rfl, (List.forall_mem_cons.mpr ⟨rf_cat _, (fun _ h => absurd h List.not_mem_nil)⟩)⟩)⟩)] at hl; exact hl
  have hF : gF p s m args meth c RL cL_meanKey 4 (some .int) D Y (gA S hs) := hF
  have hx := hF.1
  have hb := hF.2.1
  refine g_aload_n hx hb dL_meanKey_0 rfl (lv_at hl 2 rfl) ?_
  refine lv_iconst (v := 0) hx hb dL_meanKey_1 (by decide) ?_
  refine g_aload_n hx hb dL_meanKey_2 rfl (lv_at hl 0 rfl) ?_
  refine lv_iload_n hx hb dL_meanKey_3 rfl (lv_at hl 1 rfl) ?_
  refine g_callV (As := [.int x1]) (rest := [.int 0, va_rf (some o)]) hF hM (c_X4_meanKey h) k_X4_meanKey u1049 u1050 u1051 rfl rfl hT rfl hl.1 rfl (Nat.le_of_ble_eq_true rfl) dL_meanKey_4 ⟨(Nat.le_of_ble_eq_true rfl), (Nat.le_of_ble_eq_true rfl)⟩ ⟨(Nat.le_of_ble_eq_true rfl), (Nat.le_of_ble_eq_true rfl)⟩ (fun H locs hM => ?_)
  refine l_dast hF hsz hM hAr hO hT0 dL_meanKey_7 (fun H locs h1 h2 h3 h4 h5 => ?_)
  refine lv_goto (tgt := 20) hx hb dL_meanKey_8 (by decide) ?_
  refine lv_iconst (v := 0) hx hb dL_meanKey_20 (by decide) ?_
  exact l_end hF rfl h1 h2 h3 h4 h5 dL_meanKey_21 (Nat.le_of_ble_eq_true rfl) (Nat.le_of_ble_eq_true rfl)
set_option maxHeartbeats 4000000 in
set_option maxRecDepth 100000 in
theorem cL_meanKey_x {l : Launch} {D : va_G} {Y : Nat → ClassId} {S : GS} {hs : Nat} {a0 o : Nat} {x1 : Int32} {x : Nat} (hfl : l.stackTraces = false) (h : f_X4_meanKey S a0 x1 = some (.inr x)) {i : Nat} {yl : ClassId} {c0 : Value} (hT : gT S a0 = 5) (hi : ([1, 2, 6] : List Nat)[i]? = some x) : lMet l yL_meanKey (lWs yL_meanKey cL_meanKey 4 [(0, 8, 11, 13), (0, 8, 14, 15), (0, 8, 17, 159)]) rmLx_meanKey [va_rf (some a0), .int x1, va_rf (some o)] D Y S hs .double yl o c0 (nI (i + 1)) c0 S hs := by
  refine l_ofW (by decide +kernel) ⟨(Nat.le_of_ble_eq_true rfl), (List.forall_mem_cons.mpr ⟨rf_cat _, (List.forall_mem_cons.mpr ⟨rfl, (List.forall_mem_cons.mpr ⟨rf_cat _, (fun _ h => absurd h List.not_mem_nil)⟩)⟩)⟩)⟩ ?_
  intro p e s m args below meth c ls hsz htab hF hNc hAr hO hT0 hM hl
  have hl : lv_has ls 4 [(0, va_rf (some a0)), (1, .int x1), (2, va_rf (some o))] := by rw [g_args [va_rf (some a0), .int x1, va_rf (some o)] 0 (List.forall_mem_cons.mpr ⟨rf_cat _, (List.forall_mem_cons.mpr ⟨rfl, (List.forall_mem_cons.mpr ⟨rf_cat _, (fun _ h => absurd h List.not_mem_nil)⟩)⟩)⟩)] at hl; exact hl
  have hF : gF p s m args meth c RL cL_meanKey 4 (some .int) D Y (gA S hs) := hF
  have hx := hF.1
  have hb := hF.2.1
  rcases i with _ | _ | _ | i
  · have hx9 := Option.some.inj hi
    subst hx9
    refine g_aload_n hx hb dL_meanKey_0 rfl (lv_at hl 2 rfl) ?_
    refine lv_iconst (v := 0) hx hb dL_meanKey_1 (by decide) ?_
    refine g_aload_n hx hb dL_meanKey_2 rfl (lv_at hl 0 rfl) ?_
    refine lv_iload_n hx hb dL_meanKey_3 rfl (lv_at hl 1 rfl) ?_
    refine l_callX (pre := []) (x0 := ⟨0, 8, 11, 13⟩) (suf := [⟨0, 8, 14, 15⟩, ⟨0, 8, 17, 159⟩]) (As := [.int x1]) (rest := [.int 0, va_rf (some o)]) hF hNc hM htab (cx_X4_meanKey hfl h) k_X4_meanKey u1049 u1050 u1051 rfl rfl hT rfl hl.1 rfl (Nat.le_of_ble_eq_true rfl) dL_meanKey_4 ⟨(Nat.le_of_ble_eq_true rfl), (Nat.le_of_ble_eq_true rfl)⟩ ⟨(Nat.le_of_ble_eq_true rfl), (Nat.le_of_ble_eq_true rfl)⟩ rfl (by decide) (by decide) (by decide) (fun _ h => absurd h List.not_mem_nil) u407 (fun q H locs h1 h2 h5 => ?_)
    refine g_astore_n (i := 3) (lv' := [(0, va_rf (some a0)), (1, .int x1), (2, va_rf (some o))]) hx hb dL_meanKey_11 rfl hl (by decide) (fun v => rfl) (fun ls hl => ?_)
    refine lv_iconst (v := nI (0 + 1)) hx hb dL_meanKey_12 (by decide) ?_
    exact l_endX hF hsz rfl hO hT0 h1 h2 h5 dL_meanKey_13 (Nat.le_of_ble_eq_true rfl) (Nat.le_of_ble_eq_true rfl)
  · have hx9 := Option.some.inj hi
    subst hx9
    refine g_aload_n hx hb dL_meanKey_0 rfl (lv_at hl 2 rfl) ?_
    refine lv_iconst (v := 0) hx hb dL_meanKey_1 (by decide) ?_
    refine g_aload_n hx hb dL_meanKey_2 rfl (lv_at hl 0 rfl) ?_
    refine lv_iload_n hx hb dL_meanKey_3 rfl (lv_at hl 1 rfl) ?_
    refine l_callX (pre := [⟨0, 8, 11, 13⟩]) (x0 := ⟨0, 8, 14, 15⟩) (suf := [⟨0, 8, 17, 159⟩]) (As := [.int x1]) (rest := [.int 0, va_rf (some o)]) hF hNc hM htab (cx_X4_meanKey hfl h) k_X4_meanKey u1049 u1050 u1051 rfl rfl hT rfl hl.1 rfl (Nat.le_of_ble_eq_true rfl) dL_meanKey_4 ⟨(Nat.le_of_ble_eq_true rfl), (Nat.le_of_ble_eq_true rfl)⟩ ⟨(Nat.le_of_ble_eq_true rfl), (Nat.le_of_ble_eq_true rfl)⟩ rfl (by decide) (by decide) (by decide) (List.forall_mem_cons.mpr ⟨⟨by decide, 1, by decide, u407⟩, (fun _ h => absurd h List.not_mem_nil)⟩) u487 (fun q H locs h1 h2 h5 => ?_)
    refine g_astore_n (i := 3) (lv' := [(0, va_rf (some a0)), (1, .int x1), (2, va_rf (some o))]) hx hb dL_meanKey_14 rfl hl (by decide) (fun v => rfl) (fun ls hl => ?_)
    refine lv_iconst (v := nI (1 + 1)) hx hb dL_meanKey_15 (by decide) ?_
    exact l_endX hF hsz rfl hO hT0 h1 h2 h5 dL_meanKey_16 (Nat.le_of_ble_eq_true rfl) (Nat.le_of_ble_eq_true rfl)
  · have hx9 := Option.some.inj hi
    subst hx9
    refine g_aload_n hx hb dL_meanKey_0 rfl (lv_at hl 2 rfl) ?_
    refine lv_iconst (v := 0) hx hb dL_meanKey_1 (by decide) ?_
    refine g_aload_n hx hb dL_meanKey_2 rfl (lv_at hl 0 rfl) ?_
    refine lv_iload_n hx hb dL_meanKey_3 rfl (lv_at hl 1 rfl) ?_
    refine l_callX (pre := [⟨0, 8, 11, 13⟩, ⟨0, 8, 14, 15⟩]) (x0 := ⟨0, 8, 17, 159⟩) (suf := []) (As := [.int x1]) (rest := [.int 0, va_rf (some o)]) hF hNc hM htab (cx_X4_meanKey hfl h) k_X4_meanKey u1049 u1050 u1051 rfl rfl hT rfl hl.1 rfl (Nat.le_of_ble_eq_true rfl) dL_meanKey_4 ⟨(Nat.le_of_ble_eq_true rfl), (Nat.le_of_ble_eq_true rfl)⟩ ⟨(Nat.le_of_ble_eq_true rfl), (Nat.le_of_ble_eq_true rfl)⟩ rfl (by decide) (by decide) (by decide) (List.forall_mem_cons.mpr ⟨⟨by decide, 1, by decide, u407⟩, (List.forall_mem_cons.mpr ⟨⟨by decide, 2, by decide, u487⟩, (fun _ h => absurd h List.not_mem_nil)⟩)⟩) u1023 (fun q H locs h1 h2 h5 => ?_)
    refine g_astore_n (i := 3) (lv' := [(0, va_rf (some a0)), (1, .int x1), (2, va_rf (some o))]) hx hb dL_meanKey_17 rfl hl (by decide) (fun v => rfl) (fun ls hl => ?_)
    refine lv_iconst (v := nI (2 + 1)) hx hb dL_meanKey_18 (by decide) ?_
    exact l_endX hF hsz rfl hO hT0 h1 h2 h5 dL_meanKey_19 (Nat.le_of_ble_eq_true rfl) (Nat.le_of_ble_eq_true rfl)
  · exact absurd hi (by simp)
