abbrev rm_X3_init : Room := { frames := 1, cells := 3, slots := 72, locals := 20 }
theorem k_X3_init : gKc yX3_init cX3_init 2 none 1 := ⟨u100, u65, by decide +kernel, by decide +kernel, by decide +kernel⟩
set_option maxHeartbeats 4000000 in
set_option maxRecDepth 100000 in
theorem c_X3_init {l : Launch} {D : va_G} {Y : Nat → ClassId} {S : GS} {hs : Nat} {a0 : Nat} {x1 : Int32} {S' : GS} {hs' : Nat} (h : f_X3_init S hs a0 x1 = some (S', hs')) : gMet l yX3_init (gWs yX3_init cX3_init 2 none) rm_X3_init [va_rf (some a0), .int x1] D Y S hs none S' hs' := by
  refine g_ofW (by decide +kernel) (Or.inl ⟨(Nat.le_of_ble_eq_true rfl), (List.forall_mem_cons.mpr ⟨rf_cat _, (List.forall_mem_cons.mpr ⟨rfl, (fun _ h => absurd h List.not_mem_nil)⟩)⟩)⟩) ?_
  intro p e s m args below meth c ls hsz hname hF hM hl
  have hl : lv_has ls 2 [(0, va_rf (some a0)), (1, .int x1)] := by rw [g_args [va_rf (some a0), .int x1] 0 (List.forall_mem_cons.mpr ⟨rf_cat _, (List.forall_mem_cons.mpr ⟨rfl, (fun _ h => absurd h List.not_mem_nil)⟩)⟩)] at hl; exact hl
  have hF : gF p s m args meth c RX3 cX3_init 2 none D Y (gA S hs) := hF
  have hx := hF.1
  have hb := hF.2.1
  unfold f_X3_init at h
  refine g_aload_n hx hb dX3_init_0 rfl (lv_at hl 0 rfl) ?_
  refine g_objInit hF u101 u91 u92 hl.1 dX3_init_1 ⟨(Nat.le_of_ble_eq_true rfl), (Nat.le_of_ble_eq_true rfl)⟩ (Nat.le_of_ble_eq_true rfl) ?_
  refine g_aload_n hx hb dX3_init_4 rfl (lv_at hl 0 rfl) ?_
  refine lv_iload_n hx hb dX3_init_5 rfl (lv_at hl 1 rfl) ?_
  have g := gckE h
  clear h
  obtain ⟨q3, h⟩ := g
  have g := gbind h
  clear h
  obtain ⟨S1, e2, h⟩ := g
  refine g_putI hF hM fdX3 e2 (by decide) rfl (Or.inr ⟨rfl, hname, rfl⟩) (gnr_of (Or.inr (Or.inl rfl)) q3) u105 dX3_init_6 (fun H locs hM => ?_)
  refine g_aload_n hx hb dX3_init_9 rfl (lv_at hl 0 rfl) ?_
  refine lv_bipush (v := 24) hx hb dX3_init_10 (by decide) ?_
  have g := gbind h
  clear h
  obtain ⟨S4, e5, h⟩ := g
  refine g_newa (k := 24) hF hM (Or.inl ⟨rfl, rfl, rfl⟩) u125 (by decide) (by decide) (Nat.le_of_ble_eq_true rfl) (Nat.le_of_ble_eq_true rfl) dX3_init_12 (fun H hM => ?_)
  have hM := hM.eq (Option.some.inj e5)
  have g := gbind h
  clear h
  obtain ⟨S6, e7, h⟩ := g
  refine g_putR hF hM fdX3 e7 (by decide) rfl (Or.inr ⟨rfl, hname, rfl⟩) u102 dX3_init_14 (fun H locs hM => ?_)
  refine g_aload_n hx hb dX3_init_17 rfl (lv_at hl 0 rfl) ?_
  refine lv_bipush (v := 24) hx hb dX3_init_18 (by decide) ?_
  have g := gbind h
  clear h
  obtain ⟨S8, e9, h⟩ := g
  refine g_newa (k := 24) hF hM (Or.inl ⟨rfl, rfl, rfl⟩) u125 (by decide) (by decide) (Nat.le_of_ble_eq_true rfl) (Nat.le_of_ble_eq_true rfl) dX3_init_20 (fun H hM => ?_)
  have hM := hM.eq (Option.some.inj e9)
  have g := gbind h
  clear h
  obtain ⟨S10, e11, h⟩ := g
  refine g_putR hF hM fdX3 e11 (by decide) rfl (Or.inr ⟨rfl, hname, rfl⟩) u103 dX3_init_22 (fun H locs hM => ?_)
  refine g_aload_n hx hb dX3_init_25 rfl (lv_at hl 0 rfl) ?_
  refine lv_bipush (v := 24) hx hb dX3_init_26 (by decide) ?_
  have g := gbind h
  clear h
  obtain ⟨S12, e13, h⟩ := g
  refine g_newa (k := 24) hF hM (Or.inl ⟨rfl, rfl, rfl⟩) u125 (by decide) (by decide) (Nat.le_of_ble_eq_true rfl) (Nat.le_of_ble_eq_true rfl) dX3_init_28 (fun H hM => ?_)
  have hM := hM.eq (Option.some.inj e13)
  have g := gbind h
  clear h
  obtain ⟨S14, e15, h⟩ := g
  refine g_putR hF hM fdX3 e15 (by decide) rfl (Or.inr ⟨rfl, hname, rfl⟩) u104 dX3_init_30 (fun H locs hM => ?_)
  obtain ⟨q1, q2⟩ := Prod.mk.inj (Option.some.inj h)
  rw [← q1, ← q2]
  exact g_vret hF hM rfl dX3_init_33 (Nat.le_of_ble_eq_true rfl) (Nat.le_of_ble_eq_true rfl)
abbrev rm_X1_init : Room := { frames := 1, cells := 0, slots := 0, locals := 20 }
theorem k_X1_init : gKc yX1_init cX1_init 5 none 4 := ⟨u128, u64, by decide +kernel, by decide +kernel, by decide +kernel⟩
set_option maxHeartbeats 4000000 in
set_option maxRecDepth 100000 in
theorem c_X1_init {l : Launch} {D : va_G} {Y : Nat → ClassId} {S : GS} {hs : Nat} {a0 : Nat} {x1 : Int32} {x2 : Int32} {x3 : Option Nat} {x4 : Option Nat} {S' : GS} (h : f_X1_init S a0 x1 x2 x3 x4 = some S') : gMet l yX1_init (gWs yX1_init cX1_init 5 none) rm_X1_init [va_rf (some a0), .int x1, .int x2, va_rf x3, va_rf x4] D Y S hs none S' hs := by
  refine g_ofW (by decide +kernel) (Or.inl ⟨(Nat.le_of_ble_eq_true rfl), (List.forall_mem_cons.mpr ⟨rf_cat _, (List.forall_mem_cons.mpr ⟨rfl, (List.forall_mem_cons.mpr ⟨rfl, (List.forall_mem_cons.mpr ⟨rf_cat _, (List.forall_mem_cons.mpr ⟨rf_cat _, (fun _ h => absurd h List.not_mem_nil)⟩)⟩)⟩)⟩)⟩)⟩) ?_
  intro p e s m args below meth c ls hsz hname hF hM hl
  have hl : lv_has ls 5 [(0, va_rf (some a0)), (1, .int x1), (2, .int x2), (3, va_rf x3), (4, va_rf x4)] := by rw [g_args [va_rf (some a0), .int x1, .int x2, va_rf x3, va_rf x4] 0 (List.forall_mem_cons.mpr ⟨rf_cat _, (List.forall_mem_cons.mpr ⟨rfl, (List.forall_mem_cons.mpr ⟨rfl, (List.forall_mem_cons.mpr ⟨rf_cat _, (List.forall_mem_cons.mpr ⟨rf_cat _, (fun _ h => absurd h List.not_mem_nil)⟩)⟩)⟩)⟩)⟩)] at hl; exact hl
  have hF : gF p s m args meth c RX1 cX1_init 5 none D Y (gA S hs) := hF
  have hx := hF.1
  have hb := hF.2.1
  unfold f_X1_init at h
  refine g_aload_n hx hb dX1_init_0 rfl (lv_at hl 0 rfl) ?_
  refine g_objInit hF u129 u91 u92 hl.1 dX1_init_1 ⟨(Nat.le_of_ble_eq_true rfl), (Nat.le_of_ble_eq_true rfl)⟩ (Nat.le_of_ble_eq_true rfl) ?_
  refine g_aload_n hx hb dX1_init_4 rfl (lv_at hl 0 rfl) ?_
  refine lv_iload_n hx hb dX1_init_5 rfl (lv_at hl 1 rfl) ?_
  have g := gckE h
  clear h
  obtain ⟨q3, h⟩ := g
  have g := gbind h
  clear h
  obtain ⟨S1, e2, h⟩ := g
  refine g_putI hF hM fdX1 e2 (by decide) rfl (Or.inr ⟨rfl, hname, rfl⟩) (gnr_of (Or.inr (Or.inr rfl)) q3) u130 dX1_init_6 (fun H locs hM => ?_)
  refine g_aload_n hx hb dX1_init_9 rfl (lv_at hl 0 rfl) ?_
  refine lv_iload_n hx hb dX1_init_10 rfl (lv_at hl 2 rfl) ?_
  have g := gckE h
  clear h
  obtain ⟨q6, h⟩ := g
  have g := gbind h
  clear h
  obtain ⟨S4, e5, h⟩ := g
  refine g_putI hF hM fdX1 e5 (by decide) rfl (Or.inr ⟨rfl, hname, rfl⟩) (gnr_of (Or.inr (Or.inl rfl)) q6) u132 dX1_init_11 (fun H locs hM => ?_)
  refine g_aload_n hx hb dX1_init_14 rfl (lv_at hl 0 rfl) ?_
  refine g_aload_n hx hb dX1_init_15 rfl (lv_at hl 3 rfl) ?_
  have g := gbind h
  clear h
  obtain ⟨S7, e8, h⟩ := g
  refine g_putR hF hM fdX1 e8 (by decide) rfl (Or.inr ⟨rfl, hname, rfl⟩) u134 dX1_init_16 (fun H locs hM => ?_)
  refine g_aload_n hx hb dX1_init_19 rfl (lv_at hl 0 rfl) ?_
  refine g_aload hx hb dX1_init_20 (lv_at hl 4 rfl) ?_
  have g := gbind h
  clear h
  obtain ⟨S9, e10, h⟩ := g
  refine g_putR hF hM fdX1 e10 (by decide) rfl (Or.inr ⟨rfl, hname, rfl⟩) u137 dX1_init_22 (fun H locs hM => ?_)
  refine g_aload_n hx hb dX1_init_25 rfl (lv_at hl 0 rfl) ?_
  refine lv_iconst (v := 0) hx hb dX1_init_26 (by decide) ?_
  have g := gbind h
  clear h
  obtain ⟨S11, e12, h⟩ := g
  refine g_putI hF hM fdX1 e12 (by decide) rfl (Or.inr ⟨rfl, hname, rfl⟩) ⟨rfl, rfl⟩ u139 dX1_init_27 (fun H locs hM => ?_)
  refine g_aload_n hx hb dX1_init_30 rfl (lv_at hl 0 rfl) ?_
  refine lv_iconst (v := 0) hx hb dX1_init_31 (by decide) ?_
  have g := gbind h
  clear h
  obtain ⟨S13, e14, h⟩ := g
  refine g_putI hF hM fdX1 e14 (by decide) rfl (Or.inr ⟨rfl, hname, rfl⟩) ⟨rfl, rfl⟩ u140 dX1_init_32 (fun H locs hM => ?_)
  refine g_aload_n hx hb dX1_init_35 rfl (lv_at hl 0 rfl) ?_
  refine lv_iconst (v := 0) hx hb dX1_init_36 (by decide) ?_
  have g := gbind h
  clear h
  obtain ⟨S15, e16, h⟩ := g
  refine g_putI hF hM fdX1 e16 (by decide) rfl (Or.inr ⟨rfl, hname, rfl⟩) ⟨rfl, rfl⟩ u141 dX1_init_37 (fun H locs hM => ?_)
  rw [← (Option.some.inj h)]
  exact g_vret hF hM rfl dX1_init_40 (Nat.le_of_ble_eq_true rfl) (Nat.le_of_ble_eq_true rfl)
abbrev rm_X1_isList : Room := { frames := 0, cells := 0, slots := 0, locals := 0 }
theorem k_X1_isList : gKc yX1_isList cX1_isList 1 (some .boolean) 0 := ⟨u252, u64, by decide +kernel, by decide +kernel, by decide +kernel⟩
set_option maxHeartbeats 4000000 in
set_option maxRecDepth 100000 in
theorem c_X1_isList {l : Launch} {D : va_G} {Y : Nat → ClassId} {S : GS} {hs : Nat} {a0 : Nat} {r : Int32} (h : f_X1_isList S a0 = some r) : gMet l yX1_isList (gWs yX1_isList cX1_isList 1 (some .boolean)) rm_X1_isList [va_rf (some a0)] D Y S hs (some (.int r)) S hs := by
  refine g_ofW (by decide +kernel) (Or.inl ⟨(Nat.le_of_ble_eq_true rfl), (List.forall_mem_cons.mpr ⟨rf_cat _, (fun _ h => absurd h List.not_mem_nil)⟩)⟩) ?_
  intro p e s m args below meth c ls hsz hname hF hM hl
  have hl : lv_has ls 1 [(0, va_rf (some a0))] := by rw [g_args [va_rf (some a0)] 0 (List.forall_mem_cons.mpr ⟨rf_cat _, (fun _ h => absurd h List.not_mem_nil)⟩)] at hl; exact hl
  have hF : gF p s m args meth c RX1 cX1_isList 1 (some .boolean) D Y (gA S hs) := hF
  have hx := hF.1
  have hb := hF.2.1
  have Jb54 : f_X1_isList_b54 S a0 = some r → ∀ (H : Heap) (locs : List Loc) (ls : Array Slot), gM D Y (gA S hs) s.heap S hs H locs → lv_has ls 1 [] → W p l e rm_X1_isList s m args below meth c H locs 0 0 (MQ below (gQ (some (.int r)) D Y S hs (gA S hs)) args s rm_X1_isList.cells rm_X1_isList.slots (gA S hs)) (F0 m 54 ls []) := by
    intro  h H locs ls hM hl
    unfold f_X1_isList_b54 at h
    refine lv_iconst (v := 1) hx hb dX1_isList_54 (by decide) ?_
    refine lv_goto (tgt := 59) hx hb dX1_isList_55 (by decide) ?_
    rw [← (Option.some.inj h)]
    exact g_iret hF hM rfl rfl dX1_isList_59 (Nat.le_of_ble_eq_true rfl) (Nat.le_of_ble_eq_true rfl)
  unfold f_X1_isList at h
  refine g_aload_n hx hb dX1_isList_0 rfl (lv_at hl 0 rfl) ?_
  have g := gbind h
  clear h
  obtain ⟨v1, e2, h⟩ := g
  refine g_getI hF hM fdX1 e2 (by decide) rfl u130 dX1_isList_1 ?_
  refine lv_bipush (v := 108) hx hb dX1_isList_4 (by decide) ?_
  refine lv_icmp_eq (tgt := 54) hx hb dX1_isList_6 (by decide) (fun c3 => ?_) (fun c3 => ?_)
  · replace h := (if_pos c3).symm.trans h
    refine W.widen (k := 0) (n := 0) (Nat.le_of_ble_eq_true rfl) (Nat.le_of_ble_eq_true rfl) ?_
    exact Jb54  h _ _ _ hM (lv_sub hl [] rfl)
  · replace h := (if_neg c3).symm.trans h
    refine g_aload_n hx hb dX1_isList_9 rfl (lv_at hl 0 rfl) ?_
    have g := gbind h
    clear h
    obtain ⟨v4, e5, h⟩ := g
    refine g_getI hF hM fdX1 e5 (by decide) rfl u130 dX1_isList_10 ?_
    refine lv_bipush (v := 112) hx hb dX1_isList_13 (by decide) ?_
    refine lv_icmp_eq (tgt := 54) hx hb dX1_isList_15 (by decide) (fun c6 => ?_) (fun c6 => ?_)
    · replace h := (if_pos c6).symm.trans h
      refine W.widen (k := 0) (n := 0) (Nat.le_of_ble_eq_true rfl) (Nat.le_of_ble_eq_true rfl) ?_
      exact Jb54  h _ _ _ hM (lv_sub hl [] rfl)
    · replace h := (if_neg c6).symm.trans h
      refine g_aload_n hx hb dX1_isList_18 rfl (lv_at hl 0 rfl) ?_
      have g := gbind h
      clear h
      obtain ⟨v7, e8, h⟩ := g
      refine g_getI hF hM fdX1 e8 (by decide) rfl u130 dX1_isList_19 ?_
      refine lv_bipush (v := 102) hx hb dX1_isList_22 (by decide) ?_
      refine lv_icmp_eq (tgt := 54) hx hb dX1_isList_24 (by decide) (fun c9 => ?_) (fun c9 => ?_)
      · replace h := (if_pos c9).symm.trans h
        refine W.widen (k := 0) (n := 0) (Nat.le_of_ble_eq_true rfl) (Nat.le_of_ble_eq_true rfl) ?_
        exact Jb54  h _ _ _ hM (lv_sub hl [] rfl)
      · replace h := (if_neg c9).symm.trans h
        refine g_aload_n hx hb dX1_isList_27 rfl (lv_at hl 0 rfl) ?_
        have g := gbind h
        clear h
        obtain ⟨v10, e11, h⟩ := g
        refine g_getI hF hM fdX1 e11 (by decide) rfl u130 dX1_isList_28 ?_
        refine lv_bipush (v := 99) hx hb dX1_isList_31 (by decide) ?_
        refine lv_icmp_eq (tgt := 54) hx hb dX1_isList_33 (by decide) (fun c12 => ?_) (fun c12 => ?_)
        · replace h := (if_pos c12).symm.trans h
          refine W.widen (k := 0) (n := 0) (Nat.le_of_ble_eq_true rfl) (Nat.le_of_ble_eq_true rfl) ?_
          exact Jb54  h _ _ _ hM (lv_sub hl [] rfl)
        · replace h := (if_neg c12).symm.trans h
          refine g_aload_n hx hb dX1_isList_36 rfl (lv_at hl 0 rfl) ?_
          have g := gbind h
          clear h
          obtain ⟨v13, e14, h⟩ := g
          refine g_getI hF hM fdX1 e14 (by decide) rfl u130 dX1_isList_37 ?_
          refine lv_bipush (v := 97) hx hb dX1_isList_40 (by decide) ?_
          refine lv_icmp_eq (tgt := 54) hx hb dX1_isList_42 (by decide) (fun c15 => ?_) (fun c15 => ?_)
          · replace h := (if_pos c15).symm.trans h
            refine W.widen (k := 0) (n := 0) (Nat.le_of_ble_eq_true rfl) (Nat.le_of_ble_eq_true rfl) ?_
            exact Jb54  h _ _ _ hM (lv_sub hl [] rfl)
          · replace h := (if_neg c15).symm.trans h
            refine g_aload_n hx hb dX1_isList_45 rfl (lv_at hl 0 rfl) ?_
            have g := gbind h
            clear h
            obtain ⟨v16, e17, h⟩ := g
            refine g_getI hF hM fdX1 e17 (by decide) rfl u130 dX1_isList_46 ?_
            refine lv_bipush (v := 101) hx hb dX1_isList_49 (by decide) ?_
            refine lv_icmp_ne (tgt := 58) hx hb dX1_isList_51 (by decide) (fun c18 => ?_) (fun c18 => ?_)
            · replace h := (if_neg c18).symm.trans h
              refine lv_iconst (v := 0) hx hb dX1_isList_58 (by decide) ?_
              rw [← (Option.some.inj h)]
              exact g_iret hF hM rfl rfl dX1_isList_59 (Nat.le_of_ble_eq_true rfl) (Nat.le_of_ble_eq_true rfl)
            · replace h := (if_pos c18).symm.trans h
              refine W.widen (k := 0) (n := 0) (Nat.le_of_ble_eq_true rfl) (Nat.le_of_ble_eq_true rfl) ?_
              exact Jb54  h _ _ _ hM (lv_sub hl [] rfl)
abbrev rm_X1_count : Room := { frames := 0, cells := 0, slots := 0, locals := 0 }
theorem k_X1_count : gKc yX1_count cX1_count 1 (some .int) 0 := ⟨u198, u64, by decide +kernel, by decide +kernel, by decide +kernel⟩
set_option maxHeartbeats 4000000 in
set_option maxRecDepth 100000 in
theorem c_X1_count {l : Launch} {D : va_G} {Y : Nat → ClassId} {S : GS} {hs : Nat} {a0 : Nat} {r : Int32} (h : f_X1_count S a0 = some r) : gMet l yX1_count (gWs yX1_count cX1_count 1 (some .int)) rm_X1_count [va_rf (some a0)] D Y S hs (some (.int r)) S hs := by
  refine g_ofW (by decide +kernel) (Or.inl ⟨(Nat.le_of_ble_eq_true rfl), (List.forall_mem_cons.mpr ⟨rf_cat _, (fun _ h => absurd h List.not_mem_nil)⟩)⟩) ?_
  intro p e s m args below meth c ls hsz hname hF hM hl
  have hl : lv_has ls 1 [(0, va_rf (some a0))] := by rw [g_args [va_rf (some a0)] 0 (List.forall_mem_cons.mpr ⟨rf_cat _, (fun _ h => absurd h List.not_mem_nil)⟩)] at hl; exact hl
  have hF : gF p s m args meth c RX1 cX1_count 1 (some .int) D Y (gA S hs) := hF
  have hx := hF.1
  have hb := hF.2.1
  unfold f_X1_count at h
  refine g_aload_n hx hb dX1_count_0 rfl (lv_at hl 0 rfl) ?_
  have g := gbind h
  clear h
  obtain ⟨v1, e2, h⟩ := g
  refine g_getR hF hM fdX1 e2 (by decide) rfl u134 dX1_count_1 ?_
  refine g_ifnonnull (tgt := 12) hx hb dX1_count_4 (by decide) (fun c3 => ?_) (fun c3 => ?_)
  · replace h := (if_neg c3).symm.trans h
    refine g_aload_n hx hb dX1_count_12 rfl (lv_at hl 0 rfl) ?_
    have g := gbind h
    clear h
    obtain ⟨v4, e5, h⟩ := g
    refine g_getR hF hM fdX1 e5 (by decide) rfl u137 dX1_count_13 ?_
    refine g_ifnonnull (tgt := 29) hx hb dX1_count_16 (by decide) (fun c6 => ?_) (fun c6 => ?_)
    · replace h := (if_neg c6).symm.trans h
      refine g_aload_n hx hb dX1_count_29 rfl (lv_at hl 0 rfl) ?_
      have g := gbind h
      clear h
      obtain ⟨v7, e8, h⟩ := g
      refine g_getR hF hM fdX1 e8 (by decide) rfl u137 dX1_count_30 ?_
      have g := gbind h
      clear h
      obtain ⟨v9, e10, h⟩ := g
      refine g_getI hF hM fdX2 e10 (by decide) rfl u564 dX1_count_33 ?_
      rw [← (Option.some.inj h)]
      exact g_iret hF hM rfl rfl dX1_count_36 (Nat.le_of_ble_eq_true rfl) (Nat.le_of_ble_eq_true rfl)
    · replace h := (if_pos c6).symm.trans h
      refine g_aload_n hx hb dX1_count_19 rfl (lv_at hl 0 rfl) ?_
      have g := gbind h
      clear h
      obtain ⟨v11, e12, h⟩ := g
      refine g_getR hF hM fdX1 e12 (by decide) rfl u134 dX1_count_20 ?_
      have g := gbind h
      clear h
      obtain ⟨v13, e14, h⟩ := g
      refine g_getI hF hM fdX3 e14 (by decide) rfl u109 dX1_count_23 ?_
      refine lv_goto (tgt := 36) hx hb dX1_count_26 (by decide) ?_
      rw [← (Option.some.inj h)]
      exact g_iret hF hM rfl rfl dX1_count_36 (Nat.le_of_ble_eq_true rfl) (Nat.le_of_ble_eq_true rfl)
  · replace h := (if_pos c3).symm.trans h
    refine g_aload_n hx hb dX1_count_7 rfl (lv_at hl 0 rfl) ?_
    have g := gbind h
    clear h
    obtain ⟨v15, e16, h⟩ := g
    refine g_getI hF hM fdX1 e16 (by decide) rfl u139 dX1_count_8 ?_
    rw [← (Option.some.inj h)]
    exact g_iret hF hM rfl rfl dX1_count_11 (Nat.le_of_ble_eq_true rfl) (Nat.le_of_ble_eq_true rfl)
abbrev rm_X1_first : Room := { frames := 0, cells := 0, slots := 0, locals := 0 }
theorem k_X1_first : gKc yX1_first cX1_first 1 (some .int) 0 := ⟨u216, u64, by decide +kernel, by decide +kernel, by decide +kernel⟩
set_option maxHeartbeats 4000000 in
set_option maxRecDepth 100000 in
theorem c_X1_first {l : Launch} {D : va_G} {Y : Nat → ClassId} {S : GS} {hs : Nat} {a0 : Nat} {r : Int32} (h : f_X1_first S a0 = some r) : gMet l yX1_first (gWs yX1_first cX1_first 1 (some .int)) rm_X1_first [va_rf (some a0)] D Y S hs (some (.int r)) S hs := by
  refine g_ofW (by decide +kernel) (Or.inl ⟨(Nat.le_of_ble_eq_true rfl), (List.forall_mem_cons.mpr ⟨rf_cat _, (fun _ h => absurd h List.not_mem_nil)⟩)⟩) ?_
  intro p e s m args below meth c ls hsz hname hF hM hl
  have hl : lv_has ls 1 [(0, va_rf (some a0))] := by rw [g_args [va_rf (some a0)] 0 (List.forall_mem_cons.mpr ⟨rf_cat _, (fun _ h => absurd h List.not_mem_nil)⟩)] at hl; exact hl
  have hF : gF p s m args meth c RX1 cX1_first 1 (some .int) D Y (gA S hs) := hF
  have hx := hF.1
  have hb := hF.2.1
  unfold f_X1_first at h
  refine g_aload_n hx hb dX1_first_0 rfl (lv_at hl 0 rfl) ?_
  have g := gbind h
  clear h
  obtain ⟨v1, e2, h⟩ := g
  refine g_getR hF hM fdX1 e2 (by decide) rfl u137 dX1_first_1 ?_
  refine g_ifnonnull (tgt := 11) hx hb dX1_first_4 (by decide) (fun c3 => ?_) (fun c3 => ?_)
  · replace h := (if_neg c3).symm.trans h
    refine g_aload_n hx hb dX1_first_11 rfl (lv_at hl 0 rfl) ?_
    have g := gbind h
    clear h
    obtain ⟨v4, e5, h⟩ := g
    refine g_getR hF hM fdX1 e5 (by decide) rfl u137 dX1_first_12 ?_
    have g := gbind h
    clear h
    obtain ⟨v6, e7, h⟩ := g
    refine g_getI hF hM fdX2 e7 (by decide) rfl u562 dX1_first_15 ?_
    rw [← (Option.some.inj h)]
    exact g_iret hF hM rfl rfl dX1_first_18 (Nat.le_of_ble_eq_true rfl) (Nat.le_of_ble_eq_true rfl)
  · replace h := (if_pos c3).symm.trans h
    refine lv_iconst (v := 0) hx hb dX1_first_7 (by decide) ?_
    refine lv_goto (tgt := 18) hx hb dX1_first_8 (by decide) ?_
    rw [← (Option.some.inj h)]
    exact g_iret hF hM rfl rfl dX1_first_18 (Nat.le_of_ble_eq_true rfl) (Nat.le_of_ble_eq_true rfl)
abbrev rm_X3_numberIn : Room := { frames := 0, cells := 0, slots := 0, locals := 0 }
theorem k_X3_numberIn : gKc yX3_numberIn cX3_numberIn 2 (some .int) 1 := ⟨u220, u65, by decide +kernel, by decide +kernel, by decide +kernel⟩
set_option maxHeartbeats 4000000 in
set_option maxRecDepth 100000 in
theorem c_X3_numberIn {l : Launch} {D : va_G} {Y : Nat → ClassId} {S : GS} {hs : Nat} {a0 : Nat} {x1 : Int32} {r : Int32} (h : f_X3_numberIn S a0 x1 = some r) : gMet l yX3_numberIn (gWs yX3_numberIn cX3_numberIn 2 (some .int)) rm_X3_numberIn [va_rf (some a0), .int x1] D Y S hs (some (.int r)) S hs := by
  refine g_ofW (by decide +kernel) (Or.inl ⟨(Nat.le_of_ble_eq_true rfl), (List.forall_mem_cons.mpr ⟨rf_cat _, (List.forall_mem_cons.mpr ⟨rfl, (fun _ h => absurd h List.not_mem_nil)⟩)⟩)⟩) ?_
  intro p e s m args below meth c ls hsz hname hF hM hl
  have hl : lv_has ls 2 [(0, va_rf (some a0)), (1, .int x1)] := by rw [g_args [va_rf (some a0), .int x1] 0 (List.forall_mem_cons.mpr ⟨rf_cat _, (List.forall_mem_cons.mpr ⟨rfl, (fun _ h => absurd h List.not_mem_nil)⟩)⟩)] at hl; exact hl
  have hF : gF p s m args meth c RX3 cX3_numberIn 2 (some .int) D Y (gA S hs) := hF
  have hx := hF.1
  have hb := hF.2.1
  unfold f_X3_numberIn at h
  refine lv_iload_n hx hb dX3_numberIn_0 rfl (lv_at hl 1 rfl) ?_
  refine lv_if_lt (tgt := 21) hx hb dX3_numberIn_1 (by decide) (fun c1 => ?_) (fun c1 => ?_)
  · replace h := (if_pos c1).symm.trans h
    refine lv_iconst (v := 0) hx hb dX3_numberIn_21 (by decide) ?_
    rw [← (Option.some.inj h)]
    exact g_iret hF hM rfl rfl dX3_numberIn_22 (Nat.le_of_ble_eq_true rfl) (Nat.le_of_ble_eq_true rfl)
  · replace h := (if_neg c1).symm.trans h
    refine lv_iload_n hx hb dX3_numberIn_4 rfl (lv_at hl 1 rfl) ?_
    refine g_aload_n hx hb dX3_numberIn_5 rfl (lv_at hl 0 rfl) ?_
    have g := gbind h
    clear h
    obtain ⟨v2, e3, h⟩ := g
    refine g_getI hF hM fdX3 e3 (by decide) rfl u107 dX3_numberIn_6 ?_
    refine lv_icmp_ge (tgt := 21) hx hb dX3_numberIn_9 (by decide) (fun c4 => ?_) (fun c4 => ?_)
    · replace h := (if_pos c4).symm.trans h
      refine lv_iconst (v := 0) hx hb dX3_numberIn_21 (by decide) ?_
      rw [← (Option.some.inj h)]
      exact g_iret hF hM rfl rfl dX3_numberIn_22 (Nat.le_of_ble_eq_true rfl) (Nat.le_of_ble_eq_true rfl)
    · replace h := (if_neg c4).symm.trans h
      refine g_aload_n hx hb dX3_numberIn_12 rfl (lv_at hl 0 rfl) ?_
      have g := gbind h
      clear h
      obtain ⟨v5, e6, h⟩ := g
      refine g_getR hF hM fdX3 e6 (by decide) rfl u102 dX3_numberIn_13 ?_
      refine lv_iload_n hx hb dX3_numberIn_16 rfl (lv_at hl 1 rfl) ?_
      have g := gbind h
      clear h
      obtain ⟨v7, e8, h⟩ := g
      refine g_iald hF hM e8 dX3_numberIn_17 ?_
      refine lv_goto (tgt := 22) hx hb dX3_numberIn_18 (by decide) ?_
      rw [← (Option.some.inj h)]
      exact g_iret hF hM rfl rfl dX3_numberIn_22 (Nat.le_of_ble_eq_true rfl) (Nat.le_of_ble_eq_true rfl)
abbrev rm_X1_numberOf : Room := { frames := 1, cells := 0, slots := 0, locals := 21 }
theorem k_X1_numberOf : gKc yX1_numberOf cX1_numberOf 2 (some .int) 1 := ⟨u212, u64, by decide +kernel, by decide +kernel, by decide +kernel⟩
set_option maxHeartbeats 4000000 in
set_option maxRecDepth 100000 in
theorem c_X1_numberOf {l : Launch} {D : va_G} {Y : Nat → ClassId} {S : GS} {hs : Nat} {a0 : Nat} {x1 : Int32} {r : Int32} (h : f_X1_numberOf S a0 x1 = some r) : gMet l yX1_numberOf (gWs yX1_numberOf cX1_numberOf 2 (some .int)) rm_X1_numberOf [va_rf (some a0), .int x1] D Y S hs (some (.int r)) S hs := by
  refine g_ofW (by decide +kernel) (Or.inl ⟨(Nat.le_of_ble_eq_true rfl), (List.forall_mem_cons.mpr ⟨rf_cat _, (List.forall_mem_cons.mpr ⟨rfl, (fun _ h => absurd h List.not_mem_nil)⟩)⟩)⟩) ?_
  intro p e s m args below meth c ls hsz hname hF hM hl
  have hl : lv_has ls 2 [(0, va_rf (some a0)), (1, .int x1)] := by rw [g_args [va_rf (some a0), .int x1] 0 (List.forall_mem_cons.mpr ⟨rf_cat _, (List.forall_mem_cons.mpr ⟨rfl, (fun _ h => absurd h List.not_mem_nil)⟩)⟩)] at hl; exact hl
  have hF : gF p s m args meth c RX1 cX1_numberOf 2 (some .int) D Y (gA S hs) := hF
  have hx := hF.1
  have hb := hF.2.1
  unfold f_X1_numberOf at h
  refine g_aload_n hx hb dX1_numberOf_0 rfl (lv_at hl 0 rfl) ?_
  have g := gbind h
  clear h
  obtain ⟨v1, e2, h⟩ := g
  refine g_getR hF hM fdX1 e2 (by decide) rfl u134 dX1_numberOf_1 ?_
  refine g_ifnonnull (tgt := 11) hx hb dX1_numberOf_4 (by decide) (fun c3 => ?_) (fun c3 => ?_)
  · replace h := (if_neg c3).symm.trans h
    refine g_aload_n hx hb dX1_numberOf_11 rfl (lv_at hl 0 rfl) ?_
    have g := gbind h
    clear h
    obtain ⟨v4, e5, h⟩ := g
    refine g_getR hF hM fdX1 e5 (by decide) rfl u134 dX1_numberOf_12 ?_
    refine g_aload_n hx hb dX1_numberOf_15 rfl (lv_at hl 0 rfl) ?_
    have g := gckE h
    clear h
    obtain ⟨t6, h⟩ := g
    have t6 := eq_of_beq t6
    have g := gbind h
    clear h
    obtain ⟨v8, e7, h⟩ := g
    refine g_callV (As := []) (rest := [va_rf v4]) hF hM (c_X1_first e7) k_X1_first u213 u214 u215 rfl rfl t6 rfl hl.1 rfl (by simp [rf_cat, ic_cat, lc_cat]) dX1_numberOf_16 ⟨(Nat.le_of_ble_eq_true rfl), (Nat.le_of_ble_eq_true rfl)⟩ ⟨(Nat.le_of_ble_eq_true rfl), (Nat.le_of_ble_eq_true rfl)⟩ (fun H locs hM => ?_)
    refine lv_iload_n hx hb dX1_numberOf_19 rfl (lv_at hl 1 rfl) ?_
    refine lv_iadd hx hb dX1_numberOf_20 ?_
    have g := gbind h
    clear h
    obtain ⟨a9, e10, h⟩ := g
    have t11 := (gtk_of e10).2
    rw [(gtk_of e10).1]
    have g := gbind h
    clear h
    obtain ⟨v13, e12, h⟩ := g
    refine g_callV (As := [.int (v8 + x1)]) (rest := []) hF hM (c_X3_numberIn e12) k_X3_numberIn u217 u218 u219 rfl rfl t11 rfl hl.1 rfl (Nat.le_of_ble_eq_true rfl) dX1_numberOf_21 ⟨(Nat.le_of_ble_eq_true rfl), (Nat.le_of_ble_eq_true rfl)⟩ ⟨(Nat.le_of_ble_eq_true rfl), (Nat.le_of_ble_eq_true rfl)⟩ (fun H locs hM => ?_)
    rw [← (Option.some.inj h)]
    exact g_iret hF hM rfl rfl dX1_numberOf_24 (Nat.le_of_ble_eq_true rfl) (Nat.le_of_ble_eq_true rfl)
  · replace h := (if_pos c3).symm.trans h
    refine lv_iconst (v := 0) hx hb dX1_numberOf_7 (by decide) ?_
    refine lv_goto (tgt := 24) hx hb dX1_numberOf_8 (by decide) ?_
    rw [← (Option.some.inj h)]
    exact g_iret hF hM rfl rfl dX1_numberOf_24 (Nat.le_of_ble_eq_true rfl) (Nat.le_of_ble_eq_true rfl)
abbrev rm_X3_placeOfNumber : Room := { frames := 1, cells := 0, slots := 0, locals := 21 }
theorem k_X3_placeOfNumber : gKc yX3_placeOfNumber cX3_placeOfNumber 3 (some .int) 1 := ⟨u266, u65, by decide +kernel, by decide +kernel, by decide +kernel⟩
set_option maxHeartbeats 4000000 in
set_option maxRecDepth 100000 in
theorem c_X3_placeOfNumber {l : Launch} {D : va_G} {Y : Nat → ClassId} {S : GS} {hs : Nat} {a0 : Nat} {x1 : Int32} {r : Int32} (h : f_X3_placeOfNumber S a0 x1 = some r) : gMet l yX3_placeOfNumber (gWs yX3_placeOfNumber cX3_placeOfNumber 3 (some .int)) rm_X3_placeOfNumber [va_rf (some a0), .int x1] D Y S hs (some (.int r)) S hs := by
  refine g_ofW (by decide +kernel) (Or.inl ⟨(Nat.le_of_ble_eq_true rfl), (List.forall_mem_cons.mpr ⟨rf_cat _, (List.forall_mem_cons.mpr ⟨rfl, (fun _ h => absurd h List.not_mem_nil)⟩)⟩)⟩) ?_
  intro p e s m args below meth c ls hsz hname hF hM hl
  have hl : lv_has ls 3 [(0, va_rf (some a0)), (1, .int x1)] := by rw [g_args [va_rf (some a0), .int x1] 0 (List.forall_mem_cons.mpr ⟨rf_cat _, (List.forall_mem_cons.mpr ⟨rfl, (fun _ h => absurd h List.not_mem_nil)⟩)⟩)] at hl; exact hl
  have hF : gF p s m args meth c RX3 cX3_placeOfNumber 3 (some .int) D Y (gA S hs) := hF
  have hx := hF.1
  have hb := hF.2.1
  have JL2 : ∀ (n : Nat) (x1 : Int32) (x2 : Int32), f_X3_placeOfNumber_L2 S a0 n x1 x2 = some r → ∀ (H : Heap) (locs : List Loc) (ls : Array Slot), gM D Y (gA S hs) s.heap S hs H locs → lv_has ls 3 [(0, va_rf (some a0)), (1, .int x1), (2, .int x2)] → W p l e rm_X3_placeOfNumber s m args below meth c H locs 0 0 (MQ below (gQ (some (.int r)) D Y S hs (gA S hs)) args s rm_X3_placeOfNumber.cells rm_X3_placeOfNumber.slots (gA S hs)) (F0 m 2 ls []) := by
    intro n
    induction n with
    | zero => intro x1 x2 h; unfold f_X3_placeOfNumber_L2 at h; exact nomatch h
    | succ n ih =>
      intro x1 x2 h H locs ls hM hl
      unfold f_X3_placeOfNumber_L2 at h
      refine lv_iload_n hx hb dX3_placeOfNumber_2 rfl (lv_at hl 2 rfl) ?_
      refine g_aload_n hx hb dX3_placeOfNumber_3 rfl (lv_at hl 0 rfl) ?_
      have g := gbind h
      clear h
      obtain ⟨v1, e2, h⟩ := g
      refine g_getI hF hM fdX3 e2 (by decide) rfl u107 dX3_placeOfNumber_4 ?_
      refine lv_icmp_ge (tgt := 27) hx hb dX3_placeOfNumber_7 (by decide) (fun c3 => ?_) (fun c3 => ?_)
      · replace h := (if_pos c3).symm.trans h
        refine lv_iconst (v := (-1)) hx hb dX3_placeOfNumber_27 (by decide) ?_
        rw [← (Option.some.inj h)]
        exact g_iret hF hM rfl rfl dX3_placeOfNumber_28 (Nat.le_of_ble_eq_true rfl) (Nat.le_of_ble_eq_true rfl)
      · replace h := (if_neg c3).symm.trans h
        refine g_aload_n hx hb dX3_placeOfNumber_10 rfl (lv_at hl 0 rfl) ?_
        refine lv_iload_n hx hb dX3_placeOfNumber_11 rfl (lv_at hl 2 rfl) ?_
        have g := gckE h
        clear h
        obtain ⟨t4, h⟩ := g
        have t4 := eq_of_beq t4
        have g := gbind h
        clear h
        obtain ⟨v6, e5, h⟩ := g
        refine g_callV (As := [.int x2]) (rest := []) hF hM (c_X3_numberIn e5) k_X3_numberIn u267 u218 u219 rfl rfl t4 rfl hl.1 rfl (Nat.le_of_ble_eq_true rfl) dX3_placeOfNumber_12 ⟨(Nat.le_of_ble_eq_true rfl), (Nat.le_of_ble_eq_true rfl)⟩ ⟨(Nat.le_of_ble_eq_true rfl), (Nat.le_of_ble_eq_true rfl)⟩ (fun H locs hM => ?_)
        refine lv_iload_n hx hb dX3_placeOfNumber_15 rfl (lv_at hl 1 rfl) ?_
        refine lv_icmp_ne (tgt := 21) hx hb dX3_placeOfNumber_16 (by decide) (fun c7 => ?_) (fun c7 => ?_)
        · replace h := (if_neg c7).symm.trans h
          refine lv_iinc (v := (x2 + 1)) (lv' := [(2, .int (x2 + 1)), (0, va_rf (some a0)), (1, .int x1)]) hx hb dX3_placeOfNumber_21 hl (k := 2) rfl rfl (by decide) rfl (fun ls hl => ?_)
          refine lv_goto (tgt := 2) hx hb dX3_placeOfNumber_24 (by decide) ?_
          refine W.widen (k := 0) (n := 0) (Nat.le_of_ble_eq_true rfl) (Nat.le_of_ble_eq_true rfl) ?_
          exact ih _ _ h _ _ _ hM (lv_sub hl [1, 2, 0] rfl)
        · replace h := (if_pos c7).symm.trans h
          refine lv_iload_n hx hb dX3_placeOfNumber_19 rfl (lv_at hl 2 rfl) ?_
          rw [← (Option.some.inj h)]
          exact g_iret hF hM rfl rfl dX3_placeOfNumber_20 (Nat.le_of_ble_eq_true rfl) (Nat.le_of_ble_eq_true rfl)
  unfold f_X3_placeOfNumber at h
  refine lv_iconst (v := 0) hx hb dX3_placeOfNumber_0 (by decide) ?_
  refine lv_istore_n (i := 2) (lv' := [(2, .int 0), (0, va_rf (some a0)), (1, .int x1)]) hx hb dX3_placeOfNumber_1 rfl hl (by decide) rfl (fun ls hl => ?_)
  refine W.widen (k := 0) (n := 0) (Nat.le_of_ble_eq_true rfl) (Nat.le_of_ble_eq_true rfl) ?_
  exact JL2 gN _ _ h _ _ _ hM (lv_sub hl [1, 2, 0] rfl)
abbrev rm_X1_findNumber : Room := { frames := 2, cells := 0, slots := 0, locals := 43 }
theorem k_X1_findNumber : gKc yX1_findNumber cX1_findNumber 2 (some .int) 1 := ⟨u262, u64, by decide +kernel, by decide +kernel, by decide +kernel⟩
set_option maxHeartbeats 4000000 in
set_option maxRecDepth 100000 in
theorem c_X1_findNumber {l : Launch} {D : va_G} {Y : Nat → ClassId} {S : GS} {hs : Nat} {a0 : Nat} {x1 : Int32} {r : Int32} (h : f_X1_findNumber S a0 x1 = some r) : gMet l yX1_findNumber (gWs yX1_findNumber cX1_findNumber 2 (some .int)) rm_X1_findNumber [va_rf (some a0), .int x1] D Y S hs (some (.int r)) S hs := by
  refine g_ofW (by decide +kernel) (Or.inl ⟨(Nat.le_of_ble_eq_true rfl), (List.forall_mem_cons.mpr ⟨rf_cat _, (List.forall_mem_cons.mpr ⟨rfl, (fun _ h => absurd h List.not_mem_nil)⟩)⟩)⟩) ?_
  intro p e s m args below meth c ls hsz hname hF hM hl
  have hl : lv_has ls 2 [(0, va_rf (some a0)), (1, .int x1)] := by rw [g_args [va_rf (some a0), .int x1] 0 (List.forall_mem_cons.mpr ⟨rf_cat _, (List.forall_mem_cons.mpr ⟨rfl, (fun _ h => absurd h List.not_mem_nil)⟩)⟩)] at hl; exact hl
  have hF : gF p s m args meth c RX1 cX1_findNumber 2 (some .int) D Y (gA S hs) := hF
  have hx := hF.1
  have hb := hF.2.1
  unfold f_X1_findNumber at h
  refine g_aload_n hx hb dX1_findNumber_0 rfl (lv_at hl 0 rfl) ?_
  have g := gbind h
  clear h
  obtain ⟨v1, e2, h⟩ := g
  refine g_getR hF hM fdX1 e2 (by decide) rfl u134 dX1_findNumber_1 ?_
  refine g_ifnonnull (tgt := 11) hx hb dX1_findNumber_4 (by decide) (fun c3 => ?_) (fun c3 => ?_)
  · replace h := (if_neg c3).symm.trans h
    refine g_aload_n hx hb dX1_findNumber_11 rfl (lv_at hl 0 rfl) ?_
    have g := gbind h
    clear h
    obtain ⟨v4, e5, h⟩ := g
    refine g_getR hF hM fdX1 e5 (by decide) rfl u134 dX1_findNumber_12 ?_
    refine lv_iload_n hx hb dX1_findNumber_15 rfl (lv_at hl 1 rfl) ?_
    have g := gbind h
    clear h
    obtain ⟨a6, e7, h⟩ := g
    have t8 := (gtk_of e7).2
    rw [(gtk_of e7).1]
    have g := gbind h
    clear h
    obtain ⟨v10, e9, h⟩ := g
    refine g_callV (As := [.int x1]) (rest := []) hF hM (c_X3_placeOfNumber e9) k_X3_placeOfNumber u263 u264 u265 rfl rfl t8 rfl hl.1 rfl (Nat.le_of_ble_eq_true rfl) dX1_findNumber_16 ⟨(Nat.le_of_ble_eq_true rfl), (Nat.le_of_ble_eq_true rfl)⟩ ⟨(Nat.le_of_ble_eq_true rfl), (Nat.le_of_ble_eq_true rfl)⟩ (fun H locs hM => ?_)
    rw [← (Option.some.inj h)]
    exact g_iret hF hM rfl rfl dX1_findNumber_19 (Nat.le_of_ble_eq_true rfl) (Nat.le_of_ble_eq_true rfl)
  · replace h := (if_pos c3).symm.trans h
    refine lv_iconst (v := (-1)) hx hb dX1_findNumber_7 (by decide) ?_
    refine lv_goto (tgt := 19) hx hb dX1_findNumber_8 (by decide) ?_
    rw [← (Option.some.inj h)]
    exact g_iret hF hM rfl rfl dX1_findNumber_19 (Nat.le_of_ble_eq_true rfl) (Nat.le_of_ble_eq_true rfl)
abbrev rm_X3_keyIn : Room := { frames := 0, cells := 0, slots := 0, locals := 0 }
theorem k_X3_keyIn : gKc yX3_keyIn cX3_keyIn 2 (some .int) 1 := ⟨u232, u65, by decide +kernel, by decide +kernel, by decide +kernel⟩
set_option maxHeartbeats 4000000 in
set_option maxRecDepth 100000 in
theorem c_X3_keyIn {l : Launch} {D : va_G} {Y : Nat → ClassId} {S : GS} {hs : Nat} {a0 : Nat} {x1 : Int32} {r : Int32} (h : f_X3_keyIn S a0 x1 = some r) : gMet l yX3_keyIn (gWs yX3_keyIn cX3_keyIn 2 (some .int)) rm_X3_keyIn [va_rf (some a0), .int x1] D Y S hs (some (.int r)) S hs := by
  refine g_ofW (by decide +kernel) (Or.inl ⟨(Nat.le_of_ble_eq_true rfl), (List.forall_mem_cons.mpr ⟨rf_cat _, (List.forall_mem_cons.mpr ⟨rfl, (fun _ h => absurd h List.not_mem_nil)⟩)⟩)⟩) ?_
  intro p e s m args below meth c ls hsz hname hF hM hl
  have hl : lv_has ls 2 [(0, va_rf (some a0)), (1, .int x1)] := by rw [g_args [va_rf (some a0), .int x1] 0 (List.forall_mem_cons.mpr ⟨rf_cat _, (List.forall_mem_cons.mpr ⟨rfl, (fun _ h => absurd h List.not_mem_nil)⟩)⟩)] at hl; exact hl
  have hF : gF p s m args meth c RX3 cX3_keyIn 2 (some .int) D Y (gA S hs) := hF
  have hx := hF.1
  have hb := hF.2.1
  unfold f_X3_keyIn at h
  refine lv_iload_n hx hb dX3_keyIn_0 rfl (lv_at hl 1 rfl) ?_
  refine lv_if_lt (tgt := 21) hx hb dX3_keyIn_1 (by decide) (fun c1 => ?_) (fun c1 => ?_)
  · replace h := (if_pos c1).symm.trans h
    refine lv_iconst (v := 0) hx hb dX3_keyIn_21 (by decide) ?_
    rw [← (Option.some.inj h)]
    exact g_iret hF hM rfl rfl dX3_keyIn_22 (Nat.le_of_ble_eq_true rfl) (Nat.le_of_ble_eq_true rfl)
  · replace h := (if_neg c1).symm.trans h
    refine lv_iload_n hx hb dX3_keyIn_4 rfl (lv_at hl 1 rfl) ?_
    refine g_aload_n hx hb dX3_keyIn_5 rfl (lv_at hl 0 rfl) ?_
    have g := gbind h
    clear h
    obtain ⟨v2, e3, h⟩ := g
    refine g_getI hF hM fdX3 e3 (by decide) rfl u107 dX3_keyIn_6 ?_
    refine lv_icmp_ge (tgt := 21) hx hb dX3_keyIn_9 (by decide) (fun c4 => ?_) (fun c4 => ?_)
    · replace h := (if_pos c4).symm.trans h
      refine lv_iconst (v := 0) hx hb dX3_keyIn_21 (by decide) ?_
      rw [← (Option.some.inj h)]
      exact g_iret hF hM rfl rfl dX3_keyIn_22 (Nat.le_of_ble_eq_true rfl) (Nat.le_of_ble_eq_true rfl)
    · replace h := (if_neg c4).symm.trans h
      refine g_aload_n hx hb dX3_keyIn_12 rfl (lv_at hl 0 rfl) ?_
      have g := gbind h
      clear h
      obtain ⟨v5, e6, h⟩ := g
      refine g_getR hF hM fdX3 e6 (by decide) rfl u103 dX3_keyIn_13 ?_
      refine lv_iload_n hx hb dX3_keyIn_16 rfl (lv_at hl 1 rfl) ?_
      have g := gbind h
      clear h
      obtain ⟨v7, e8, h⟩ := g
      refine g_iald hF hM e8 dX3_keyIn_17 ?_
      refine lv_goto (tgt := 22) hx hb dX3_keyIn_18 (by decide) ?_
      rw [← (Option.some.inj h)]
      exact g_iret hF hM rfl rfl dX3_keyIn_22 (Nat.le_of_ble_eq_true rfl) (Nat.le_of_ble_eq_true rfl)
abbrev rm_X1_keyOf : Room := { frames := 1, cells := 0, slots := 0, locals := 21 }
theorem k_X1_keyOf : gKc yX1_keyOf cX1_keyOf 2 (some .int) 1 := ⟨u228, u64, by decide +kernel, by decide +kernel, by decide +kernel⟩
set_option maxHeartbeats 4000000 in
set_option maxRecDepth 100000 in
theorem c_X1_keyOf {l : Launch} {D : va_G} {Y : Nat → ClassId} {S : GS} {hs : Nat} {a0 : Nat} {x1 : Int32} {r : Int32} (h : f_X1_keyOf S a0 x1 = some r) : gMet l yX1_keyOf (gWs yX1_keyOf cX1_keyOf 2 (some .int)) rm_X1_keyOf [va_rf (some a0), .int x1] D Y S hs (some (.int r)) S hs := by
  refine g_ofW (by decide +kernel) (Or.inl ⟨(Nat.le_of_ble_eq_true rfl), (List.forall_mem_cons.mpr ⟨rf_cat _, (List.forall_mem_cons.mpr ⟨rfl, (fun _ h => absurd h List.not_mem_nil)⟩)⟩)⟩) ?_
  intro p e s m args below meth c ls hsz hname hF hM hl
  have hl : lv_has ls 2 [(0, va_rf (some a0)), (1, .int x1)] := by rw [g_args [va_rf (some a0), .int x1] 0 (List.forall_mem_cons.mpr ⟨rf_cat _, (List.forall_mem_cons.mpr ⟨rfl, (fun _ h => absurd h List.not_mem_nil)⟩)⟩)] at hl; exact hl
  have hF : gF p s m args meth c RX1 cX1_keyOf 2 (some .int) D Y (gA S hs) := hF
  have hx := hF.1
  have hb := hF.2.1
  unfold f_X1_keyOf at h
  refine g_aload_n hx hb dX1_keyOf_0 rfl (lv_at hl 0 rfl) ?_
  have g := gbind h
  clear h
  obtain ⟨v1, e2, h⟩ := g
  refine g_getR hF hM fdX1 e2 (by decide) rfl u134 dX1_keyOf_1 ?_
  refine g_ifnonnull (tgt := 14) hx hb dX1_keyOf_4 (by decide) (fun c3 => ?_) (fun c3 => ?_)
  · replace h := (if_neg c3).symm.trans h
    refine g_aload_n hx hb dX1_keyOf_14 rfl (lv_at hl 0 rfl) ?_
    have g := gbind h
    clear h
    obtain ⟨v4, e5, h⟩ := g
    refine g_getR hF hM fdX1 e5 (by decide) rfl u134 dX1_keyOf_15 ?_
    refine g_aload_n hx hb dX1_keyOf_18 rfl (lv_at hl 0 rfl) ?_
    have g := gckE h
    clear h
    obtain ⟨t6, h⟩ := g
    have t6 := eq_of_beq t6
    have g := gbind h
    clear h
    obtain ⟨v8, e7, h⟩ := g
    refine g_callV (As := []) (rest := [va_rf v4]) hF hM (c_X1_first e7) k_X1_first u213 u214 u215 rfl rfl t6 rfl hl.1 rfl (by simp [rf_cat, ic_cat, lc_cat]) dX1_keyOf_19 ⟨(Nat.le_of_ble_eq_true rfl), (Nat.le_of_ble_eq_true rfl)⟩ ⟨(Nat.le_of_ble_eq_true rfl), (Nat.le_of_ble_eq_true rfl)⟩ (fun H locs hM => ?_)
    refine lv_iload_n hx hb dX1_keyOf_22 rfl (lv_at hl 1 rfl) ?_
    refine lv_iadd hx hb dX1_keyOf_23 ?_
    have g := gbind h
    clear h
    obtain ⟨a9, e10, h⟩ := g
    have t11 := (gtk_of e10).2
    rw [(gtk_of e10).1]
    have g := gbind h
    clear h
    obtain ⟨v13, e12, h⟩ := g
    refine g_callV (As := [.int (v8 + x1)]) (rest := []) hF hM (c_X3_keyIn e12) k_X3_keyIn u229 u230 u231 rfl rfl t11 rfl hl.1 rfl (Nat.le_of_ble_eq_true rfl) dX1_keyOf_24 ⟨(Nat.le_of_ble_eq_true rfl), (Nat.le_of_ble_eq_true rfl)⟩ ⟨(Nat.le_of_ble_eq_true rfl), (Nat.le_of_ble_eq_true rfl)⟩ (fun H locs hM => ?_)
    rw [← (Option.some.inj h)]
    exact g_iret hF hM rfl rfl dX1_keyOf_27 (Nat.le_of_ble_eq_true rfl) (Nat.le_of_ble_eq_true rfl)
  · replace h := (if_pos c3).symm.trans h
    refine g_aload_n hx hb dX1_keyOf_7 rfl (lv_at hl 0 rfl) ?_
    have g := gbind h
    clear h
    obtain ⟨v14, e15, h⟩ := g
    refine g_getI hF hM fdX1 e15 (by decide) rfl u140 dX1_keyOf_8 ?_
    refine lv_goto (tgt := 27) hx hb dX1_keyOf_11 (by decide) ?_
    rw [← (Option.some.inj h)]
    exact g_iret hF hM rfl rfl dX1_keyOf_27 (Nat.le_of_ble_eq_true rfl) (Nat.le_of_ble_eq_true rfl)
abbrev rm_X3_markIn : Room := { frames := 0, cells := 0, slots := 0, locals := 0 }
theorem k_X3_markIn : gKc yX3_markIn cX3_markIn 2 (some .int) 1 := ⟨u240, u65, by decide +kernel, by decide +kernel, by decide +kernel⟩
set_option maxHeartbeats 4000000 in
set_option maxRecDepth 100000 in
theorem c_X3_markIn {l : Launch} {D : va_G} {Y : Nat → ClassId} {S : GS} {hs : Nat} {a0 : Nat} {x1 : Int32} {r : Int32} (h : f_X3_markIn S a0 x1 = some r) : gMet l yX3_markIn (gWs yX3_markIn cX3_markIn 2 (some .int)) rm_X3_markIn [va_rf (some a0), .int x1] D Y S hs (some (.int r)) S hs := by
  refine g_ofW (by decide +kernel) (Or.inl ⟨(Nat.le_of_ble_eq_true rfl), (List.forall_mem_cons.mpr ⟨rf_cat _, (List.forall_mem_cons.mpr ⟨rfl, (fun _ h => absurd h List.not_mem_nil)⟩)⟩)⟩) ?_
  intro p e s m args below meth c ls hsz hname hF hM hl
  have hl : lv_has ls 2 [(0, va_rf (some a0)), (1, .int x1)] := by rw [g_args [va_rf (some a0), .int x1] 0 (List.forall_mem_cons.mpr ⟨rf_cat _, (List.forall_mem_cons.mpr ⟨rfl, (fun _ h => absurd h List.not_mem_nil)⟩)⟩)] at hl; exact hl
  have hF : gF p s m args meth c RX3 cX3_markIn 2 (some .int) D Y (gA S hs) := hF
  have hx := hF.1
  have hb := hF.2.1
  unfold f_X3_markIn at h
  refine lv_iload_n hx hb dX3_markIn_0 rfl (lv_at hl 1 rfl) ?_
  refine lv_if_lt (tgt := 21) hx hb dX3_markIn_1 (by decide) (fun c1 => ?_) (fun c1 => ?_)
  · replace h := (if_pos c1).symm.trans h
    refine lv_iconst (v := 0) hx hb dX3_markIn_21 (by decide) ?_
    rw [← (Option.some.inj h)]
    exact g_iret hF hM rfl rfl dX3_markIn_22 (Nat.le_of_ble_eq_true rfl) (Nat.le_of_ble_eq_true rfl)
  · replace h := (if_neg c1).symm.trans h
    refine lv_iload_n hx hb dX3_markIn_4 rfl (lv_at hl 1 rfl) ?_
    refine g_aload_n hx hb dX3_markIn_5 rfl (lv_at hl 0 rfl) ?_
    have g := gbind h
    clear h
    obtain ⟨v2, e3, h⟩ := g
    refine g_getI hF hM fdX3 e3 (by decide) rfl u107 dX3_markIn_6 ?_
    refine lv_icmp_ge (tgt := 21) hx hb dX3_markIn_9 (by decide) (fun c4 => ?_) (fun c4 => ?_)
    · replace h := (if_pos c4).symm.trans h
      refine lv_iconst (v := 0) hx hb dX3_markIn_21 (by decide) ?_
      rw [← (Option.some.inj h)]
      exact g_iret hF hM rfl rfl dX3_markIn_22 (Nat.le_of_ble_eq_true rfl) (Nat.le_of_ble_eq_true rfl)
    · replace h := (if_neg c4).symm.trans h
      refine g_aload_n hx hb dX3_markIn_12 rfl (lv_at hl 0 rfl) ?_
      have g := gbind h
      clear h
      obtain ⟨v5, e6, h⟩ := g
      refine g_getR hF hM fdX3 e6 (by decide) rfl u104 dX3_markIn_13 ?_
      refine lv_iload_n hx hb dX3_markIn_16 rfl (lv_at hl 1 rfl) ?_
      have g := gbind h
      clear h
      obtain ⟨v7, e8, h⟩ := g
      refine g_iald hF hM e8 dX3_markIn_17 ?_
      refine lv_goto (tgt := 22) hx hb dX3_markIn_18 (by decide) ?_
      rw [← (Option.some.inj h)]
      exact g_iret hF hM rfl rfl dX3_markIn_22 (Nat.le_of_ble_eq_true rfl) (Nat.le_of_ble_eq_true rfl)
abbrev rm_X1_markOf : Room := { frames := 1, cells := 0, slots := 0, locals := 21 }
theorem k_X1_markOf : gKc yX1_markOf cX1_markOf 2 (some .int) 1 := ⟨u236, u64, by decide +kernel, by decide +kernel, by decide +kernel⟩
set_option maxHeartbeats 4000000 in
set_option maxRecDepth 100000 in
theorem c_X1_markOf {l : Launch} {D : va_G} {Y : Nat → ClassId} {S : GS} {hs : Nat} {a0 : Nat} {x1 : Int32} {r : Int32} (h : f_X1_markOf S a0 x1 = some r) : gMet l yX1_markOf (gWs yX1_markOf cX1_markOf 2 (some .int)) rm_X1_markOf [va_rf (some a0), .int x1] D Y S hs (some (.int r)) S hs := by
  refine g_ofW (by decide +kernel) (Or.inl ⟨(Nat.le_of_ble_eq_true rfl), (List.forall_mem_cons.mpr ⟨rf_cat _, (List.forall_mem_cons.mpr ⟨rfl, (fun _ h => absurd h List.not_mem_nil)⟩)⟩)⟩) ?_
  intro p e s m args below meth c ls hsz hname hF hM hl
  have hl : lv_has ls 2 [(0, va_rf (some a0)), (1, .int x1)] := by rw [g_args [va_rf (some a0), .int x1] 0 (List.forall_mem_cons.mpr ⟨rf_cat _, (List.forall_mem_cons.mpr ⟨rfl, (fun _ h => absurd h List.not_mem_nil)⟩)⟩)] at hl; exact hl
  have hF : gF p s m args meth c RX1 cX1_markOf 2 (some .int) D Y (gA S hs) := hF
  have hx := hF.1
  have hb := hF.2.1
  unfold f_X1_markOf at h
  refine g_aload_n hx hb dX1_markOf_0 rfl (lv_at hl 0 rfl) ?_
  have g := gbind h
  clear h
  obtain ⟨v1, e2, h⟩ := g
  refine g_getR hF hM fdX1 e2 (by decide) rfl u134 dX1_markOf_1 ?_
  refine g_ifnonnull (tgt := 14) hx hb dX1_markOf_4 (by decide) (fun c3 => ?_) (fun c3 => ?_)
  · replace h := (if_neg c3).symm.trans h
    refine g_aload_n hx hb dX1_markOf_14 rfl (lv_at hl 0 rfl) ?_
    have g := gbind h
    clear h
    obtain ⟨v4, e5, h⟩ := g
    refine g_getR hF hM fdX1 e5 (by decide) rfl u134 dX1_markOf_15 ?_
    refine g_aload_n hx hb dX1_markOf_18 rfl (lv_at hl 0 rfl) ?_
    have g := gckE h
    clear h
    obtain ⟨t6, h⟩ := g
    have t6 := eq_of_beq t6
    have g := gbind h
    clear h
    obtain ⟨v8, e7, h⟩ := g
    refine g_callV (As := []) (rest := [va_rf v4]) hF hM (c_X1_first e7) k_X1_first u213 u214 u215 rfl rfl t6 rfl hl.1 rfl (by simp [rf_cat, ic_cat, lc_cat]) dX1_markOf_19 ⟨(Nat.le_of_ble_eq_true rfl), (Nat.le_of_ble_eq_true rfl)⟩ ⟨(Nat.le_of_ble_eq_true rfl), (Nat.le_of_ble_eq_true rfl)⟩ (fun H locs hM => ?_)
    refine lv_iload_n hx hb dX1_markOf_22 rfl (lv_at hl 1 rfl) ?_
    refine lv_iadd hx hb dX1_markOf_23 ?_
    have g := gbind h
    clear h
    obtain ⟨a9, e10, h⟩ := g
    have t11 := (gtk_of e10).2
    rw [(gtk_of e10).1]
    have g := gbind h
    clear h
    obtain ⟨v13, e12, h⟩ := g
    refine g_callV (As := [.int (v8 + x1)]) (rest := []) hF hM (c_X3_markIn e12) k_X3_markIn u237 u238 u239 rfl rfl t11 rfl hl.1 rfl (Nat.le_of_ble_eq_true rfl) dX1_markOf_24 ⟨(Nat.le_of_ble_eq_true rfl), (Nat.le_of_ble_eq_true rfl)⟩ ⟨(Nat.le_of_ble_eq_true rfl), (Nat.le_of_ble_eq_true rfl)⟩ (fun H locs hM => ?_)
    rw [← (Option.some.inj h)]
    exact g_iret hF hM rfl rfl dX1_markOf_27 (Nat.le_of_ble_eq_true rfl) (Nat.le_of_ble_eq_true rfl)
  · replace h := (if_pos c3).symm.trans h
    refine g_aload_n hx hb dX1_markOf_7 rfl (lv_at hl 0 rfl) ?_
    have g := gbind h
    clear h
    obtain ⟨v14, e15, h⟩ := g
    refine g_getI hF hM fdX1 e15 (by decide) rfl u141 dX1_markOf_8 ?_
    refine lv_goto (tgt := 27) hx hb dX1_markOf_11 (by decide) ?_
    rw [← (Option.some.inj h)]
    exact g_iret hF hM rfl rfl dX1_markOf_27 (Nat.le_of_ble_eq_true rfl) (Nat.le_of_ble_eq_true rfl)
abbrev rm_X3_hasPlace : Room := { frames := 0, cells := 0, slots := 0, locals := 0 }
theorem k_X3_hasPlace : gKc yX3_hasPlace cX3_hasPlace 2 (some .boolean) 1 := ⟨u290, u65, by decide +kernel, by decide +kernel, by decide +kernel⟩
set_option maxHeartbeats 4000000 in
set_option maxRecDepth 100000 in
theorem c_X3_hasPlace {l : Launch} {D : va_G} {Y : Nat → ClassId} {S : GS} {hs : Nat} {a0 : Nat} {x1 : Int32} {r : Int32} (h : f_X3_hasPlace S a0 x1 = some r) : gMet l yX3_hasPlace (gWs yX3_hasPlace cX3_hasPlace 2 (some .boolean)) rm_X3_hasPlace [va_rf (some a0), .int x1] D Y S hs (some (.int r)) S hs := by
  refine g_ofW (by decide +kernel) (Or.inl ⟨(Nat.le_of_ble_eq_true rfl), (List.forall_mem_cons.mpr ⟨rf_cat _, (List.forall_mem_cons.mpr ⟨rfl, (fun _ h => absurd h List.not_mem_nil)⟩)⟩)⟩) ?_
  intro p e s m args below meth c ls hsz hname hF hM hl
  have hl : lv_has ls 2 [(0, va_rf (some a0)), (1, .int x1)] := by rw [g_args [va_rf (some a0), .int x1] 0 (List.forall_mem_cons.mpr ⟨rf_cat _, (List.forall_mem_cons.mpr ⟨rfl, (fun _ h => absurd h List.not_mem_nil)⟩)⟩)] at hl; exact hl
  have hF : gF p s m args meth c RX3 cX3_hasPlace 2 (some .boolean) D Y (gA S hs) := hF
  have hx := hF.1
  have hb := hF.2.1
  unfold f_X3_hasPlace at h
  refine lv_iload_n hx hb dX3_hasPlace_0 rfl (lv_at hl 1 rfl) ?_
  refine lv_if_lt (tgt := 16) hx hb dX3_hasPlace_1 (by decide) (fun c1 => ?_) (fun c1 => ?_)
  · replace h := (if_pos c1).symm.trans h
    refine lv_iconst (v := 0) hx hb dX3_hasPlace_16 (by decide) ?_
    rw [← (Option.some.inj h)]
    exact g_iret hF hM rfl rfl dX3_hasPlace_17 (Nat.le_of_ble_eq_true rfl) (Nat.le_of_ble_eq_true rfl)
  · replace h := (if_neg c1).symm.trans h
    refine lv_iload_n hx hb dX3_hasPlace_4 rfl (lv_at hl 1 rfl) ?_
    refine g_aload_n hx hb dX3_hasPlace_5 rfl (lv_at hl 0 rfl) ?_
    have g := gbind h
    clear h
    obtain ⟨v2, e3, h⟩ := g
    refine g_getI hF hM fdX3 e3 (by decide) rfl u107 dX3_hasPlace_6 ?_
    refine lv_icmp_ge (tgt := 16) hx hb dX3_hasPlace_9 (by decide) (fun c4 => ?_) (fun c4 => ?_)
    · replace h := (if_pos c4).symm.trans h
      refine lv_iconst (v := 0) hx hb dX3_hasPlace_16 (by decide) ?_
      rw [← (Option.some.inj h)]
      exact g_iret hF hM rfl rfl dX3_hasPlace_17 (Nat.le_of_ble_eq_true rfl) (Nat.le_of_ble_eq_true rfl)
    · replace h := (if_neg c4).symm.trans h
      refine lv_iconst (v := 1) hx hb dX3_hasPlace_12 (by decide) ?_
      refine lv_goto (tgt := 17) hx hb dX3_hasPlace_13 (by decide) ?_
      rw [← (Option.some.inj h)]
      exact g_iret hF hM rfl rfl dX3_hasPlace_17 (Nat.le_of_ble_eq_true rfl) (Nat.le_of_ble_eq_true rfl)
abbrev rm_X3_move : Room := { frames := 1, cells := 0, slots := 0, locals := 21 }
theorem k_X3_move : gKc yX3_move cX3_move 3 none 2 := ⟨u286, u65, by decide +kernel, by decide +kernel, by decide +kernel⟩
set_option maxHeartbeats 4000000 in
set_option maxRecDepth 100000 in
theorem c_X3_move {l : Launch} {D : va_G} {Y : Nat → ClassId} {S : GS} {hs : Nat} {a0 : Nat} {x1 : Int32} {x2 : Int32} {S' : GS} (h : f_X3_move S a0 x1 x2 = some S') : gMet l yX3_move (gWs yX3_move cX3_move 3 none) rm_X3_move [va_rf (some a0), .int x1, .int x2] D Y S hs none S' hs := by
  refine g_ofW (by decide +kernel) (Or.inl ⟨(Nat.le_of_ble_eq_true rfl), (List.forall_mem_cons.mpr ⟨rf_cat _, (List.forall_mem_cons.mpr ⟨rfl, (List.forall_mem_cons.mpr ⟨rfl, (fun _ h => absurd h List.not_mem_nil)⟩)⟩)⟩)⟩) ?_
  intro p e s m args below meth c ls hsz hname hF hM hl
  have hl : lv_has ls 3 [(0, va_rf (some a0)), (1, .int x1), (2, .int x2)] := by rw [g_args [va_rf (some a0), .int x1, .int x2] 0 (List.forall_mem_cons.mpr ⟨rf_cat _, (List.forall_mem_cons.mpr ⟨rfl, (List.forall_mem_cons.mpr ⟨rfl, (fun _ h => absurd h List.not_mem_nil)⟩)⟩)⟩)] at hl; exact hl
  have hF : gF p s m args meth c RX3 cX3_move 3 none D Y (gA S hs) := hF
  have hx := hF.1
  have hb := hF.2.1
  unfold f_X3_move at h
  refine g_aload_n hx hb dX3_move_0 rfl (lv_at hl 0 rfl) ?_
  refine lv_iload_n hx hb dX3_move_1 rfl (lv_at hl 1 rfl) ?_
  have g := gckE h
  clear h
  obtain ⟨t1, h⟩ := g
  have t1 := eq_of_beq t1
  have g := gbind h
  clear h
  obtain ⟨v3, e2, h⟩ := g
  refine g_callV (As := [.int x1]) (rest := []) hF hM (c_X3_hasPlace e2) k_X3_hasPlace u287 u288 u289 rfl rfl t1 rfl hl.1 rfl (Nat.le_of_ble_eq_true rfl) dX3_move_2 ⟨(Nat.le_of_ble_eq_true rfl), (Nat.le_of_ble_eq_true rfl)⟩ ⟨(Nat.le_of_ble_eq_true rfl), (Nat.le_of_ble_eq_true rfl)⟩ (fun H locs hM => ?_)
  refine lv_if_eq (tgt := 52) hx hb dX3_move_5 (by decide) (fun c4 => ?_) (fun c4 => ?_)
  · replace h := (if_pos c4).symm.trans h
    rw [← (Option.some.inj h)]
    exact g_vret hF hM rfl dX3_move_52 (Nat.le_of_ble_eq_true rfl) (Nat.le_of_ble_eq_true rfl)
  · replace h := (if_neg c4).symm.trans h
    refine g_aload_n hx hb dX3_move_8 rfl (lv_at hl 0 rfl) ?_
    refine lv_iload_n hx hb dX3_move_9 rfl (lv_at hl 2 rfl) ?_
    have g := gckE h
    clear h
    obtain ⟨t5, h⟩ := g
    have t5 := eq_of_beq t5
    have g := gbind h
    clear h
    obtain ⟨v7, e6, h⟩ := g
    refine g_callV (As := [.int x2]) (rest := []) hF hM (c_X3_hasPlace e6) k_X3_hasPlace u287 u288 u289 rfl rfl t5 rfl hl.1 rfl (Nat.le_of_ble_eq_true rfl) dX3_move_10 ⟨(Nat.le_of_ble_eq_true rfl), (Nat.le_of_ble_eq_true rfl)⟩ ⟨(Nat.le_of_ble_eq_true rfl), (Nat.le_of_ble_eq_true rfl)⟩ (fun H locs hM => ?_)
    refine lv_if_eq (tgt := 52) hx hb dX3_move_13 (by decide) (fun c8 => ?_) (fun c8 => ?_)
    · replace h := (if_pos c8).symm.trans h
      rw [← (Option.some.inj h)]
      exact g_vret hF hM rfl dX3_move_52 (Nat.le_of_ble_eq_true rfl) (Nat.le_of_ble_eq_true rfl)
    · replace h := (if_neg c8).symm.trans h
      refine g_aload_n hx hb dX3_move_16 rfl (lv_at hl 0 rfl) ?_
      have g := gbind h
      clear h
      obtain ⟨v9, e10, h⟩ := g
      refine g_getR hF hM fdX3 e10 (by decide) rfl u102 dX3_move_17 ?_
      refine lv_iload_n hx hb dX3_move_20 rfl (lv_at hl 2 rfl) ?_
      refine g_aload_n hx hb dX3_move_21 rfl (lv_at hl 0 rfl) ?_
      have g := gbind h
      clear h
      obtain ⟨v11, e12, h⟩ := g
      refine g_getR hF hM fdX3 e12 (by decide) rfl u102 dX3_move_22 ?_
      refine lv_iload_n hx hb dX3_move_25 rfl (lv_at hl 1 rfl) ?_
      have g := gbind h
      clear h
      obtain ⟨v13, e14, h⟩ := g
      refine g_iald hF hM e14 dX3_move_26 ?_
      have g := gbind h
      clear h
      obtain ⟨S15, e16, h⟩ := g
      refine g_iast hF hM e16 dX3_move_27 (fun H locs hM => ?_)
      refine g_aload_n hx hb dX3_move_28 rfl (lv_at hl 0 rfl) ?_
      have g := gbind h
      clear h
      obtain ⟨v17, e18, h⟩ := g
      refine g_getR hF hM fdX3 e18 (by decide) rfl u103 dX3_move_29 ?_
      refine lv_iload_n hx hb dX3_move_32 rfl (lv_at hl 2 rfl) ?_
      refine g_aload_n hx hb dX3_move_33 rfl (lv_at hl 0 rfl) ?_
      have g := gbind h
      clear h
      obtain ⟨v19, e20, h⟩ := g
      refine g_getR hF hM fdX3 e20 (by decide) rfl u103 dX3_move_34 ?_
      refine lv_iload_n hx hb dX3_move_37 rfl (lv_at hl 1 rfl) ?_
      have g := gbind h
      clear h
      obtain ⟨v21, e22, h⟩ := g
      refine g_iald hF hM e22 dX3_move_38 ?_
      have g := gbind h
      clear h
      obtain ⟨S23, e24, h⟩ := g
      refine g_iast hF hM e24 dX3_move_39 (fun H locs hM => ?_)
      refine g_aload_n hx hb dX3_move_40 rfl (lv_at hl 0 rfl) ?_
      have g := gbind h
      clear h
      obtain ⟨v25, e26, h⟩ := g
      refine g_getR hF hM fdX3 e26 (by decide) rfl u104 dX3_move_41 ?_
      refine lv_iload_n hx hb dX3_move_44 rfl (lv_at hl 2 rfl) ?_
      refine g_aload_n hx hb dX3_move_45 rfl (lv_at hl 0 rfl) ?_
      have g := gbind h
      clear h
      obtain ⟨v27, e28, h⟩ := g
      refine g_getR hF hM fdX3 e28 (by decide) rfl u104 dX3_move_46 ?_
      refine lv_iload_n hx hb dX3_move_49 rfl (lv_at hl 1 rfl) ?_
      have g := gbind h
      clear h
      obtain ⟨v29, e30, h⟩ := g
      refine g_iald hF hM e30 dX3_move_50 ?_
      have g := gbind h
      clear h
      obtain ⟨S31, e32, h⟩ := g
      refine g_iast hF hM e32 dX3_move_51 (fun H locs hM => ?_)
      rw [← (Option.some.inj h)]
      exact g_vret hF hM rfl dX3_move_52 (Nat.le_of_ble_eq_true rfl) (Nat.le_of_ble_eq_true rfl)
abbrev rm_X3_lay : Room := { frames := 1, cells := 0, slots := 0, locals := 21 }
theorem k_X3_lay : gKc yX3_lay cX3_lay 4 none 3 := ⟨u294, u65, by decide +kernel, by decide +kernel, by decide +kernel⟩
set_option maxHeartbeats 4000000 in
set_option maxRecDepth 100000 in
theorem c_X3_lay {l : Launch} {D : va_G} {Y : Nat → ClassId} {S : GS} {hs : Nat} {a0 : Nat} {x1 : Int32} {x2 : Int32} {x3 : Int32} {S' : GS} (h : f_X3_lay S a0 x1 x2 x3 = some S') : gMet l yX3_lay (gWs yX3_lay cX3_lay 4 none) rm_X3_lay [va_rf (some a0), .int x1, .int x2, .int x3] D Y S hs none S' hs := by
  refine g_ofW (by decide +kernel) (Or.inl ⟨(Nat.le_of_ble_eq_true rfl), (List.forall_mem_cons.mpr ⟨rf_cat _, (List.forall_mem_cons.mpr ⟨rfl, (List.forall_mem_cons.mpr ⟨rfl, (List.forall_mem_cons.mpr ⟨rfl, (fun _ h => absurd h List.not_mem_nil)⟩)⟩)⟩)⟩)⟩) ?_
  intro p e s m args below meth c ls hsz hname hF hM hl
  have hl : lv_has ls 4 [(0, va_rf (some a0)), (1, .int x1), (2, .int x2), (3, .int x3)] := by rw [g_args [va_rf (some a0), .int x1, .int x2, .int x3] 0 (List.forall_mem_cons.mpr ⟨rf_cat _, (List.forall_mem_cons.mpr ⟨rfl, (List.forall_mem_cons.mpr ⟨rfl, (List.forall_mem_cons.mpr ⟨rfl, (fun _ h => absurd h List.not_mem_nil)⟩)⟩)⟩)⟩)] at hl; exact hl
  have hF : gF p s m args meth c RX3 cX3_lay 4 none D Y (gA S hs) := hF
  have hx := hF.1
  have hb := hF.2.1
  unfold f_X3_lay at h
  refine g_aload_n hx hb dX3_lay_0 rfl (lv_at hl 0 rfl) ?_
  refine lv_iload_n hx hb dX3_lay_1 rfl (lv_at hl 1 rfl) ?_
  have g := gckE h
  clear h
  obtain ⟨t1, h⟩ := g
  have t1 := eq_of_beq t1
  have g := gbind h
  clear h
  obtain ⟨v3, e2, h⟩ := g
  refine g_callV (As := [.int x1]) (rest := []) hF hM (c_X3_hasPlace e2) k_X3_hasPlace u287 u288 u289 rfl rfl t1 rfl hl.1 rfl (Nat.le_of_ble_eq_true rfl) dX3_lay_2 ⟨(Nat.le_of_ble_eq_true rfl), (Nat.le_of_ble_eq_true rfl)⟩ ⟨(Nat.le_of_ble_eq_true rfl), (Nat.le_of_ble_eq_true rfl)⟩ (fun H locs hM => ?_)
  refine lv_if_eq (tgt := 22) hx hb dX3_lay_5 (by decide) (fun c4 => ?_) (fun c4 => ?_)
  · replace h := (if_pos c4).symm.trans h
    rw [← (Option.some.inj h)]
    exact g_vret hF hM rfl dX3_lay_22 (Nat.le_of_ble_eq_true rfl) (Nat.le_of_ble_eq_true rfl)
  · replace h := (if_neg c4).symm.trans h
    refine g_aload_n hx hb dX3_lay_8 rfl (lv_at hl 0 rfl) ?_
    have g := gbind h
    clear h
    obtain ⟨v5, e6, h⟩ := g
    refine g_getR hF hM fdX3 e6 (by decide) rfl u103 dX3_lay_9 ?_
    refine lv_iload_n hx hb dX3_lay_12 rfl (lv_at hl 1 rfl) ?_
    refine lv_iload_n hx hb dX3_lay_13 rfl (lv_at hl 2 rfl) ?_
    have g := gbind h
    clear h
    obtain ⟨S7, e8, h⟩ := g
    refine g_iast hF hM e8 dX3_lay_14 (fun H locs hM => ?_)
    refine g_aload_n hx hb dX3_lay_15 rfl (lv_at hl 0 rfl) ?_
    have g := gbind h
    clear h
    obtain ⟨v9, e10, h⟩ := g
    refine g_getR hF hM fdX3 e10 (by decide) rfl u104 dX3_lay_16 ?_
    refine lv_iload_n hx hb dX3_lay_19 rfl (lv_at hl 1 rfl) ?_
    refine lv_iload_n hx hb dX3_lay_20 rfl (lv_at hl 3 rfl) ?_
    have g := gbind h
    clear h
    obtain ⟨S11, e12, h⟩ := g
    refine g_iast hF hM e12 dX3_lay_21 (fun H locs hM => ?_)
    rw [← (Option.some.inj h)]
    exact g_vret hF hM rfl dX3_lay_22 (Nat.le_of_ble_eq_true rfl) (Nat.le_of_ble_eq_true rfl)
abbrev rm_X3_insert : Room := { frames := 2, cells := 0, slots := 0, locals := 44 }
theorem k_X3_insert : gKc yX3_insert cX3_insert 6 none 4 := ⟨u282, u65, by decide +kernel, by decide +kernel, by decide +kernel⟩
set_option maxHeartbeats 4000000 in
set_option maxRecDepth 100000 in
theorem c_X3_insert {l : Launch} {D : va_G} {Y : Nat → ClassId} {S : GS} {hs : Nat} {a0 : Nat} {x1 : Int32} {x2 : Int32} {x3 : Int32} {x4 : Int32} {S' : GS} (h : f_X3_insert S a0 x1 x2 x3 x4 = some S') : gMet l yX3_insert (gWs yX3_insert cX3_insert 6 none) rm_X3_insert [va_rf (some a0), .int x1, .int x2, .int x3, .int x4] D Y S hs none S' hs := by
  refine g_ofW (by decide +kernel) (Or.inl ⟨(Nat.le_of_ble_eq_true rfl), (List.forall_mem_cons.mpr ⟨rf_cat _, (List.forall_mem_cons.mpr ⟨rfl, (List.forall_mem_cons.mpr ⟨rfl, (List.forall_mem_cons.mpr ⟨rfl, (List.forall_mem_cons.mpr ⟨rfl, (fun _ h => absurd h List.not_mem_nil)⟩)⟩)⟩)⟩)⟩)⟩) ?_
  intro p e s m args below meth c ls hsz hname hF hM hl
  have hl : lv_has ls 6 [(0, va_rf (some a0)), (1, .int x1), (2, .int x2), (3, .int x3), (4, .int x4)] := by rw [g_args [va_rf (some a0), .int x1, .int x2, .int x3, .int x4] 0 (List.forall_mem_cons.mpr ⟨rf_cat _, (List.forall_mem_cons.mpr ⟨rfl, (List.forall_mem_cons.mpr ⟨rfl, (List.forall_mem_cons.mpr ⟨rfl, (List.forall_mem_cons.mpr ⟨rfl, (fun _ h => absurd h List.not_mem_nil)⟩)⟩)⟩)⟩)⟩)] at hl; exact hl
  have hF : gF p s m args meth c RX3 cX3_insert 6 none D Y (gA S hs) := hF
  have hx := hF.1
  have hb := hF.2.1
  have JL40 : ∀ (n : Nat) (T40 : GS) (x1 : Int32) (x2 : Int32) (x3 : Int32) (x4 : Int32) (x5 : Int32), f_X3_insert_L40 a0 n T40 x1 x2 x3 x4 x5 = some S' → ∀ (H : Heap) (locs : List Loc) (ls : Array Slot), gM D Y (gA S hs) s.heap T40 hs H locs → lv_has ls 6 [(0, va_rf (some a0)), (1, .int x1), (2, .int x2), (3, .int x3), (4, .int x4), (5, .int x5)] → W p l e rm_X3_insert s m args below meth c H locs 0 0 (MQ below (gQ none D Y S' hs (gA S hs)) args s rm_X3_insert.cells rm_X3_insert.slots (gA S hs)) (F0 m 40 ls []) := by
    intro n
    induction n with
    | zero => intro T40 x1 x2 x3 x4 x5 h; unfold f_X3_insert_L40 at h; exact nomatch h
    | succ n ih =>
      intro T40 x1 x2 x3 x4 x5 h H locs ls hM hl
      unfold f_X3_insert_L40 at h
      refine lv_iload hx hb dX3_insert_40 (lv_at hl 5 rfl) ?_
      refine lv_iload_n hx hb dX3_insert_42 rfl (lv_at hl 1 rfl) ?_
      refine lv_icmp_le (tgt := 62) hx hb dX3_insert_43 (by decide) (fun c14 => ?_) (fun c14 => ?_)
      · replace h := (if_pos c14).symm.trans h
        refine g_aload_n hx hb dX3_insert_62 rfl (lv_at hl 0 rfl) ?_
        have g := gbind h
        clear h
        obtain ⟨v15, e16, h⟩ := g
        refine g_getR hF hM fdX3 e16 (by decide) rfl u102 dX3_insert_63 ?_
        refine lv_iload_n hx hb dX3_insert_66 rfl (lv_at hl 1 rfl) ?_
        refine lv_iload_n hx hb dX3_insert_67 rfl (lv_at hl 2 rfl) ?_
        have g := gbind h
        clear h
        obtain ⟨S17, e18, h⟩ := g
        refine g_iast hF hM e18 dX3_insert_68 (fun H locs hM => ?_)
        refine g_aload_n hx hb dX3_insert_69 rfl (lv_at hl 0 rfl) ?_
        refine lv_iload_n hx hb dX3_insert_70 rfl (lv_at hl 1 rfl) ?_
        refine lv_iload_n hx hb dX3_insert_71 rfl (lv_at hl 3 rfl) ?_
        refine lv_iload hx hb dX3_insert_72 (lv_at hl 4 rfl) ?_
        have g := gckE h
        clear h
        obtain ⟨t19, h⟩ := g
        have t19 := eq_of_beq t19
        have g := gbind h
        clear h
        obtain ⟨S21, e20, h⟩ := g
        refine g_callV (As := [.int x1, .int x3, .int x4]) (rest := []) hF hM (c_X3_lay e20) k_X3_lay u291 u292 u293 rfl rfl t19 rfl hl.1 rfl (Nat.le_of_ble_eq_true rfl) dX3_insert_74 ⟨(Nat.le_of_ble_eq_true rfl), (Nat.le_of_ble_eq_true rfl)⟩ ⟨(Nat.le_of_ble_eq_true rfl), (Nat.le_of_ble_eq_true rfl)⟩ (fun H locs hM => ?_)
        rw [← (Option.some.inj h)]
        exact g_vret hF hM rfl dX3_insert_77 (Nat.le_of_ble_eq_true rfl) (Nat.le_of_ble_eq_true rfl)
      · replace h := (if_neg c14).symm.trans h
        refine g_aload_n hx hb dX3_insert_46 rfl (lv_at hl 0 rfl) ?_
        refine lv_iload hx hb dX3_insert_47 (lv_at hl 5 rfl) ?_
        refine lv_iconst (v := 1) hx hb dX3_insert_49 (by decide) ?_
        refine lv_isub hx hb dX3_insert_50 ?_
        refine lv_iload hx hb dX3_insert_51 (lv_at hl 5 rfl) ?_
        have g := gckE h
        clear h
        obtain ⟨t22, h⟩ := g
        have t22 := eq_of_beq t22
        have g := gbind h
        clear h
        obtain ⟨S24, e23, h⟩ := g
        refine g_callV (As := [.int (x5 - 1), .int x5]) (rest := []) hF hM (c_X3_move e23) k_X3_move u283 u285 u2 rfl rfl t22 rfl hl.1 rfl (Nat.le_of_ble_eq_true rfl) dX3_insert_53 ⟨(Nat.le_of_ble_eq_true rfl), (Nat.le_of_ble_eq_true rfl)⟩ ⟨(Nat.le_of_ble_eq_true rfl), (Nat.le_of_ble_eq_true rfl)⟩ (fun H locs hM => ?_)
        refine lv_iinc (v := (x5 + (-1))) (lv' := [(5, .int (x5 + (-1))), (0, va_rf (some a0)), (1, .int x1), (2, .int x2), (3, .int x3), (4, .int x4)]) hx hb dX3_insert_56 hl (k := 5) rfl rfl (by decide) rfl (fun ls hl => ?_)
        refine lv_goto (tgt := 40) hx hb dX3_insert_59 (by decide) ?_
        refine W.widen (k := 0) (n := 0) (Nat.le_of_ble_eq_true rfl) (Nat.le_of_ble_eq_true rfl) ?_
        exact ih _ _ _ _ _ _ h _ _ _ hM (lv_sub hl [1, 2, 3, 4, 5, 0] rfl)
  unfold f_X3_insert at h
  refine lv_iload_n hx hb dX3_insert_0 rfl (lv_at hl 1 rfl) ?_
  refine lv_if_lt (tgt := 21) hx hb dX3_insert_1 (by decide) (fun c1 => ?_) (fun c1 => ?_)
  · replace h := (if_pos c1).symm.trans h
    rw [← (Option.some.inj h)]
    exact g_vret hF hM rfl dX3_insert_21 (Nat.le_of_ble_eq_true rfl) (Nat.le_of_ble_eq_true rfl)
  · replace h := (if_neg c1).symm.trans h
    refine lv_iload_n hx hb dX3_insert_4 rfl (lv_at hl 1 rfl) ?_
    refine g_aload_n hx hb dX3_insert_5 rfl (lv_at hl 0 rfl) ?_
    have g := gbind h
    clear h
    obtain ⟨v2, e3, h⟩ := g
    refine g_getI hF hM fdX3 e3 (by decide) rfl u107 dX3_insert_6 ?_
    refine lv_icmp_gt (tgt := 21) hx hb dX3_insert_9 (by decide) (fun c4 => ?_) (fun c4 => ?_)
    · replace h := (if_pos c4).symm.trans h
      rw [← (Option.some.inj h)]
      exact g_vret hF hM rfl dX3_insert_21 (Nat.le_of_ble_eq_true rfl) (Nat.le_of_ble_eq_true rfl)
    · replace h := (if_neg c4).symm.trans h
      refine g_aload_n hx hb dX3_insert_12 rfl (lv_at hl 0 rfl) ?_
      have g := gbind h
      clear h
      obtain ⟨v5, e6, h⟩ := g
      refine g_getI hF hM fdX3 e6 (by decide) rfl u107 dX3_insert_13 ?_
      refine lv_bipush (v := 24) hx hb dX3_insert_16 (by decide) ?_
      refine lv_icmp_lt (tgt := 22) hx hb dX3_insert_18 (by decide) (fun c7 => ?_) (fun c7 => ?_)
      · replace h := (if_pos c7).symm.trans h
        refine g_aload_n hx hb dX3_insert_22 rfl (lv_at hl 0 rfl) ?_
        refine lv_dup hx hb dX3_insert_23 (rf_cat _) ?_
        have g := gbind h
        clear h
        obtain ⟨v8, e9, h⟩ := g
        refine g_getI hF hM fdX3 e9 (by decide) rfl u107 dX3_insert_24 ?_
        refine lv_iconst (v := 1) hx hb dX3_insert_27 (by decide) ?_
        refine lv_iadd hx hb dX3_insert_28 ?_
        have g := gbind h
        clear h
        obtain ⟨S10, e11, h⟩ := g
        refine g_putI hF hM fdX3 e11 (by decide) rfl (Or.inl rfl) ⟨rfl, rfl⟩ u107 dX3_insert_29 (fun H locs hM => ?_)
        refine g_aload_n hx hb dX3_insert_32 rfl (lv_at hl 0 rfl) ?_
        have g := gbind h
        clear h
        obtain ⟨v12, e13, h⟩ := g
        refine g_getI hF hM fdX3 e13 (by decide) rfl u107 dX3_insert_33 ?_
        refine lv_iconst (v := 1) hx hb dX3_insert_36 (by decide) ?_
        refine lv_isub hx hb dX3_insert_37 ?_
        refine lv_istore (i := 5) (lv' := [(5, .int (v12 - 1)), (0, va_rf (some a0)), (1, .int x1), (2, .int x2), (3, .int x3), (4, .int x4)]) hx hb dX3_insert_38 hl (by decide) rfl (fun ls hl => ?_)
        refine W.widen (k := 0) (n := 0) (Nat.le_of_ble_eq_true rfl) (Nat.le_of_ble_eq_true rfl) ?_
        exact JL40 gN _ _ _ _ _ _ h _ _ _ hM (lv_sub hl [1, 2, 3, 4, 5, 0] rfl)
      · replace h := (if_neg c7).symm.trans h
        rw [← (Option.some.inj h)]
        exact g_vret hF hM rfl dX3_insert_21 (Nat.le_of_ble_eq_true rfl) (Nat.le_of_ble_eq_true rfl)
abbrev rm_X3_copyThings : Room := { frames := 3, cells := 0, slots := 0, locals := 69 }
theorem k_X3_copyThings : gKc yX3_copyThings cX3_copyThings 3 none 1 := ⟨u275, u65, by decide +kernel, by decide +kernel, by decide +kernel⟩
set_option maxHeartbeats 4000000 in
set_option maxRecDepth 100000 in
theorem c_X3_copyThings {l : Launch} {D : va_G} {Y : Nat → ClassId} {S : GS} {hs : Nat} {a0 : Nat} {x1 : Option Nat} {S' : GS} (h : f_X3_copyThings S a0 x1 = some S') : gMet l yX3_copyThings (gWs yX3_copyThings cX3_copyThings 3 none) rm_X3_copyThings [va_rf (some a0), va_rf x1] D Y S hs none S' hs := by
  refine g_ofW (by decide +kernel) (Or.inl ⟨(Nat.le_of_ble_eq_true rfl), (List.forall_mem_cons.mpr ⟨rf_cat _, (List.forall_mem_cons.mpr ⟨rf_cat _, (fun _ h => absurd h List.not_mem_nil)⟩)⟩)⟩) ?_
  intro p e s m args below meth c ls hsz hname hF hM hl
  have hl : lv_has ls 3 [(0, va_rf (some a0)), (1, va_rf x1)] := by rw [g_args [va_rf (some a0), va_rf x1] 0 (List.forall_mem_cons.mpr ⟨rf_cat _, (List.forall_mem_cons.mpr ⟨rf_cat _, (fun _ h => absurd h List.not_mem_nil)⟩)⟩)] at hl; exact hl
  have hF : gF p s m args meth c RX3 cX3_copyThings 3 none D Y (gA S hs) := hF
  have hx := hF.1
  have hb := hF.2.1
  have JL7 : ∀ (n : Nat) (T7 : GS) (x1 : Option Nat) (x2 : Int32), f_X3_copyThings_L7 a0 n T7 x1 x2 = some S' → ∀ (H : Heap) (locs : List Loc) (ls : Array Slot), gM D Y (gA S hs) s.heap T7 hs H locs → lv_has ls 3 [(0, va_rf (some a0)), (1, va_rf x1), (2, .int x2)] → W p l e rm_X3_copyThings s m args below meth c H locs 0 0 (MQ below (gQ none D Y S' hs (gA S hs)) args s rm_X3_copyThings.cells rm_X3_copyThings.slots (gA S hs)) (F0 m 7 ls []) := by
    intro n
    induction n with
    | zero => intro T7 x1 x2 h; unfold f_X3_copyThings_L7 at h; exact nomatch h
    | succ n ih =>
      intro T7 x1 x2 h H locs ls hM hl
      unfold f_X3_copyThings_L7 at h
      refine lv_iload_n hx hb dX3_copyThings_7 rfl (lv_at hl 2 rfl) ?_
      refine g_aload_n hx hb dX3_copyThings_8 rfl (lv_at hl 1 rfl) ?_
      have g := gbind h
      clear h
      obtain ⟨a3, e4, h⟩ := g
      have t5 := (gtk_of e4).2
      rw [(gtk_of e4).1]
      have g := gbind h
      clear h
      obtain ⟨v7, e6, h⟩ := g
      refine g_callV (As := []) (rest := [.int x2]) hF hM (c_X1_count e6) k_X1_count u276 u196 u197 rfl rfl t5 rfl hl.1 rfl (Nat.le_of_ble_eq_true rfl) dX3_copyThings_9 ⟨(Nat.le_of_ble_eq_true rfl), (Nat.le_of_ble_eq_true rfl)⟩ ⟨(Nat.le_of_ble_eq_true rfl), (Nat.le_of_ble_eq_true rfl)⟩ (fun H locs hM => ?_)
      refine lv_icmp_ge (tgt := 37) hx hb dX3_copyThings_12 (by decide) (fun c8 => ?_) (fun c8 => ?_)
      · replace h := (if_pos c8).symm.trans h
        rw [← (Option.some.inj h)]
        exact g_vret hF hM rfl dX3_copyThings_37 (Nat.le_of_ble_eq_true rfl) (Nat.le_of_ble_eq_true rfl)
      · replace h := (if_neg c8).symm.trans h
        refine g_aload_n hx hb dX3_copyThings_15 rfl (lv_at hl 0 rfl) ?_
        refine lv_iload_n hx hb dX3_copyThings_16 rfl (lv_at hl 2 rfl) ?_
        refine lv_iload_n hx hb dX3_copyThings_17 rfl (lv_at hl 2 rfl) ?_
        refine g_aload_n hx hb dX3_copyThings_18 rfl (lv_at hl 1 rfl) ?_
        refine lv_iload_n hx hb dX3_copyThings_19 rfl (lv_at hl 2 rfl) ?_
        have g := gbind h
        clear h
        obtain ⟨a9, e10, h⟩ := g
        have t11 := (gtk_of e10).2
        rw [(gtk_of e10).1]
        have g := gbind h
        clear h
        obtain ⟨v13, e12, h⟩ := g
        refine g_callV (As := [.int x2]) (rest := [.int x2, .int x2, va_rf (some a0)]) hF hM (c_X1_keyOf e12) k_X1_keyOf u277 u226 u227 rfl rfl t11 rfl hl.1 rfl (Nat.le_of_ble_eq_true rfl) dX3_copyThings_20 ⟨(Nat.le_of_ble_eq_true rfl), (Nat.le_of_ble_eq_true rfl)⟩ ⟨(Nat.le_of_ble_eq_true rfl), (Nat.le_of_ble_eq_true rfl)⟩ (fun H locs hM => ?_)
        refine g_aload_n hx hb dX3_copyThings_23 rfl (lv_at hl 1 rfl) ?_
        refine lv_iload_n hx hb dX3_copyThings_24 rfl (lv_at hl 2 rfl) ?_
        have g := gbind h
        clear h
        obtain ⟨a14, e15, h⟩ := g
        have t16 := (gtk_of e15).2
        rw [(gtk_of e15).1]
        have g := gbind h
        clear h
        obtain ⟨v18, e17, h⟩ := g
        refine g_callV (As := [.int x2]) (rest := [.int v13, .int x2, .int x2, va_rf (some a0)]) hF hM (c_X1_markOf e17) k_X1_markOf u278 u234 u235 rfl rfl t16 rfl hl.1 rfl (Nat.le_of_ble_eq_true rfl) dX3_copyThings_25 ⟨(Nat.le_of_ble_eq_true rfl), (Nat.le_of_ble_eq_true rfl)⟩ ⟨(Nat.le_of_ble_eq_true rfl), (Nat.le_of_ble_eq_true rfl)⟩ (fun H locs hM => ?_)
        have g := gckE h
        clear h
        obtain ⟨t19, h⟩ := g
        have t19 := eq_of_beq t19
        have g := gbind h
        clear h
        obtain ⟨S21, e20, h⟩ := g
        refine g_callV (As := [.int x2, .int x2, .int v13, .int v18]) (rest := []) hF hM (c_X3_insert e20) k_X3_insert u279 u280 u281 rfl rfl t19 rfl hl.1 rfl (Nat.le_of_ble_eq_true rfl) dX3_copyThings_28 ⟨(Nat.le_of_ble_eq_true rfl), (Nat.le_of_ble_eq_true rfl)⟩ ⟨(Nat.le_of_ble_eq_true rfl), (Nat.le_of_ble_eq_true rfl)⟩ (fun H locs hM => ?_)
        refine lv_iinc (v := (x2 + 1)) (lv' := [(2, .int (x2 + 1)), (0, va_rf (some a0)), (1, va_rf x1)]) hx hb dX3_copyThings_31 hl (k := 2) rfl rfl (by decide) (by simp [rf_cat, ic_cat, lc_cat]) (fun ls hl => ?_)
        refine lv_goto (tgt := 7) hx hb dX3_copyThings_34 (by decide) ?_
        refine W.widen (k := 0) (n := 0) (Nat.le_of_ble_eq_true rfl) (Nat.le_of_ble_eq_true rfl) ?_
        exact ih _ _ _ h _ _ _ hM (lv_sub hl [1, 2, 0] rfl)
  unfold f_X3_copyThings at h
  refine g_aload_n hx hb dX3_copyThings_0 rfl (lv_at hl 0 rfl) ?_
  refine lv_iconst (v := 0) hx hb dX3_copyThings_1 (by decide) ?_
  have g := gbind h
  clear h
  obtain ⟨S1, e2, h⟩ := g
  refine g_putI hF hM fdX3 e2 (by decide) rfl (Or.inl rfl) ⟨rfl, rfl⟩ u107 dX3_copyThings_2 (fun H locs hM => ?_)
  refine lv_iconst (v := 0) hx hb dX3_copyThings_5 (by decide) ?_
  refine lv_istore_n (i := 2) (lv' := [(2, .int 0), (0, va_rf (some a0)), (1, va_rf x1)]) hx hb dX3_copyThings_6 rfl hl (by decide) (by simp [rf_cat, ic_cat, lc_cat]) (fun ls hl => ?_)
  refine W.widen (k := 0) (n := 0) (Nat.le_of_ble_eq_true rfl) (Nat.le_of_ble_eq_true rfl) ?_
  exact JL7 gN _ _ _ h _ _ _ hM (lv_sub hl [1, 2, 0] rfl)
abbrev rm_X3_rank : Room := { frames := 1, cells := 0, slots := 0, locals := 21 }
theorem k_X3_rank : gKc yX3_rank cX3_rank 4 (some .int) 2 := ⟨u302, u65, by decide +kernel, by decide +kernel, by decide +kernel⟩
set_option maxHeartbeats 4000000 in
set_option maxRecDepth 100000 in
theorem c_X3_rank {l : Launch} {D : va_G} {Y : Nat → ClassId} {S : GS} {hs : Nat} {a0 : Nat} {x1 : Int32} {x2 : Int32} {r : Int32} (h : f_X3_rank S a0 x1 x2 = some r) : gMet l yX3_rank (gWs yX3_rank cX3_rank 4 (some .int)) rm_X3_rank [va_rf (some a0), .int x1, .int x2] D Y S hs (some (.int r)) S hs := by
  refine g_ofW (by decide +kernel) (Or.inl ⟨(Nat.le_of_ble_eq_true rfl), (List.forall_mem_cons.mpr ⟨rf_cat _, (List.forall_mem_cons.mpr ⟨rfl, (List.forall_mem_cons.mpr ⟨rfl, (fun _ h => absurd h List.not_mem_nil)⟩)⟩)⟩)⟩) ?_
  intro p e s m args below meth c ls hsz hname hF hM hl
  have hl : lv_has ls 4 [(0, va_rf (some a0)), (1, .int x1), (2, .int x2)] := by rw [g_args [va_rf (some a0), .int x1, .int x2] 0 (List.forall_mem_cons.mpr ⟨rf_cat _, (List.forall_mem_cons.mpr ⟨rfl, (List.forall_mem_cons.mpr ⟨rfl, (fun _ h => absurd h List.not_mem_nil)⟩)⟩)⟩)] at hl; exact hl
  have hF : gF p s m args meth c RX3 cX3_rank 4 (some .int) D Y (gA S hs) := hF
  have hx := hF.1
  have hb := hF.2.1
  have Jb38 : ∀ (x3 : Int32), f_X3_rank_b38 S a0 x3 = some r → ∀ (H : Heap) (locs : List Loc) (ls : Array Slot), gM D Y (gA S hs) s.heap S hs H locs → lv_has ls 4 [(3, .int x3)] → W p l e rm_X3_rank s m args below meth c H locs 0 0 (MQ below (gQ (some (.int r)) D Y S hs (gA S hs)) args s rm_X3_rank.cells rm_X3_rank.slots (gA S hs)) (F0 m 38 ls []) := by
    intro x3 h H locs ls hM hl
    unfold f_X3_rank_b38 at h
    refine lv_iload_n hx hb dX3_rank_38 rfl (lv_at hl 0 rfl) ?_
    refine lv_ineg hx hb dX3_rank_39 ?_
    refine lv_goto (tgt := 44) hx hb dX3_rank_40 (by decide) ?_
    rw [← (Option.some.inj h)]
    exact g_iret hF hM rfl rfl dX3_rank_44 (Nat.le_of_ble_eq_true rfl) (Nat.le_of_ble_eq_true rfl)
  have Jb25 : ∀ (x2 : Int32) (s0 : Int32), f_X3_rank_b25 S a0 x2 s0 = some r → ∀ (H : Heap) (locs : List Loc) (ls : Array Slot), gM D Y (gA S hs) s.heap S hs H locs → lv_has ls 4 [(2, .int x2)] → W p l e rm_X3_rank s m args below meth c H locs 0 0 (MQ below (gQ (some (.int r)) D Y S hs (gA S hs)) args s rm_X3_rank.cells rm_X3_rank.slots (gA S hs)) (F0 m 25 ls [.int s0]) := by
    intro x2 s0 h H locs ls hM hl
    unfold f_X3_rank_b25 at h
    refine lv_istore_n (i := 3) (lv' := [(3, .int s0), (2, .int x2)]) hx hb dX3_rank_25 rfl hl (by decide) rfl (fun ls hl => ?_)
    refine lv_iload_n hx hb dX3_rank_26 rfl (lv_at hl 1 rfl) ?_
    refine lv_bipush (v := 75) hx hb dX3_rank_27 (by decide) ?_
    refine lv_icmp_eq (tgt := 38) hx hb dX3_rank_29 (by decide) (fun c5 => ?_) (fun c5 => ?_)
    · replace h := (if_pos c5).symm.trans h
      refine W.widen (k := 0) (n := 0) (Nat.le_of_ble_eq_true rfl) (Nat.le_of_ble_eq_true rfl) ?_
      exact Jb38 _ h _ _ _ hM (lv_sub hl [0] rfl)
    · replace h := (if_neg c5).symm.trans h
      refine lv_iload_n hx hb dX3_rank_32 rfl (lv_at hl 1 rfl) ?_
      refine lv_bipush (v := 77) hx hb dX3_rank_33 (by decide) ?_
      refine lv_icmp_ne (tgt := 43) hx hb dX3_rank_35 (by decide) (fun c6 => ?_) (fun c6 => ?_)
      · replace h := (if_neg c6).symm.trans h
        refine lv_iload_n hx hb dX3_rank_43 rfl (lv_at hl 0 rfl) ?_
        rw [← (Option.some.inj h)]
        exact g_iret hF hM rfl rfl dX3_rank_44 (Nat.le_of_ble_eq_true rfl) (Nat.le_of_ble_eq_true rfl)
      · replace h := (if_pos c6).symm.trans h
        refine W.widen (k := 0) (n := 0) (Nat.le_of_ble_eq_true rfl) (Nat.le_of_ble_eq_true rfl) ?_
        exact Jb38 _ h _ _ _ hM (lv_sub hl [0] rfl)
  have Jb12 : ∀ (x1 : Int32) (x2 : Int32), f_X3_rank_b12 S a0 x1 x2 = some r → ∀ (H : Heap) (locs : List Loc) (ls : Array Slot), gM D Y (gA S hs) s.heap S hs H locs → lv_has ls 4 [(0, va_rf (some a0)), (1, .int x1), (2, .int x2)] → W p l e rm_X3_rank s m args below meth c H locs 0 0 (MQ below (gQ (some (.int r)) D Y S hs (gA S hs)) args s rm_X3_rank.cells rm_X3_rank.slots (gA S hs)) (F0 m 12 ls []) := by
    intro x1 x2 h H locs ls hM hl
    unfold f_X3_rank_b12 at h
    refine g_aload_n hx hb dX3_rank_12 rfl (lv_at hl 0 rfl) ?_
    refine lv_iload_n hx hb dX3_rank_13 rfl (lv_at hl 1 rfl) ?_
    have g := gckE h
    clear h
    obtain ⟨t2, h⟩ := g
    have t2 := eq_of_beq t2
    have g := gbind h
    clear h
    obtain ⟨v4, e3, h⟩ := g
    refine g_callV (As := [.int x1]) (rest := []) hF hM (c_X3_keyIn e3) k_X3_keyIn u303 u230 u231 rfl rfl t2 rfl hl.1 rfl (Nat.le_of_ble_eq_true rfl) dX3_rank_14 ⟨(Nat.le_of_ble_eq_true rfl), (Nat.le_of_ble_eq_true rfl)⟩ ⟨(Nat.le_of_ble_eq_true rfl), (Nat.le_of_ble_eq_true rfl)⟩ (fun H locs hM => ?_)
    refine lv_goto (tgt := 25) hx hb dX3_rank_17 (by decide) ?_
    refine W.widen (k := 0) (n := 0) (Nat.le_of_ble_eq_true rfl) (Nat.le_of_ble_eq_true rfl) ?_
    exact Jb25 _ _ h _ _ _ hM (lv_sub hl [2] rfl)
  unfold f_X3_rank at h
  refine lv_iload_n hx hb dX3_rank_0 rfl (lv_at hl 2 rfl) ?_
  refine lv_bipush (v := 107) hx hb dX3_rank_1 (by decide) ?_
  refine lv_icmp_eq (tgt := 12) hx hb dX3_rank_3 (by decide) (fun c1 => ?_) (fun c1 => ?_)
  · replace h := (if_pos c1).symm.trans h
    refine W.widen (k := 0) (n := 0) (Nat.le_of_ble_eq_true rfl) (Nat.le_of_ble_eq_true rfl) ?_
    exact Jb12 _ _ h _ _ _ hM (lv_sub hl [0, 1, 2] rfl)
  · replace h := (if_neg c1).symm.trans h
    refine lv_iload_n hx hb dX3_rank_6 rfl (lv_at hl 2 rfl) ?_
    refine lv_bipush (v := 75) hx hb dX3_rank_7 (by decide) ?_
    refine lv_icmp_ne (tgt := 20) hx hb dX3_rank_9 (by decide) (fun c7 => ?_) (fun c7 => ?_)
    · replace h := (if_neg c7).symm.trans h
      refine g_aload_n hx hb dX3_rank_20 rfl (lv_at hl 0 rfl) ?_
      refine lv_iload_n hx hb dX3_rank_21 rfl (lv_at hl 1 rfl) ?_
      have g := gckE h
      clear h
      obtain ⟨t8, h⟩ := g
      have t8 := eq_of_beq t8
      have g := gbind h
      clear h
      obtain ⟨v10, e9, h⟩ := g
      refine g_callV (As := [.int x1]) (rest := []) hF hM (c_X3_markIn e9) k_X3_markIn u304 u238 u239 rfl rfl t8 rfl hl.1 rfl (Nat.le_of_ble_eq_true rfl) dX3_rank_22 ⟨(Nat.le_of_ble_eq_true rfl), (Nat.le_of_ble_eq_true rfl)⟩ ⟨(Nat.le_of_ble_eq_true rfl), (Nat.le_of_ble_eq_true rfl)⟩ (fun H locs hM => ?_)
      refine W.widen (k := 0) (n := 0) (Nat.le_of_ble_eq_true rfl) (Nat.le_of_ble_eq_true rfl) ?_
      exact Jb25 _ _ h _ _ _ hM (lv_sub hl [2] rfl)
    · replace h := (if_pos c7).symm.trans h
      refine W.widen (k := 0) (n := 0) (Nat.le_of_ble_eq_true rfl) (Nat.le_of_ble_eq_true rfl) ?_
      exact Jb12 _ _ h _ _ _ hM (lv_sub hl [0, 1, 2] rfl)
abbrev rm_X3_exchange : Room := { frames := 1, cells := 0, slots := 0, locals := 21 }
theorem k_X3_exchange : gKc yX3_exchange cX3_exchange 6 none 2 := ⟨u308, u65, by decide +kernel, by decide +kernel, by decide +kernel⟩
set_option maxHeartbeats 4000000 in
set_option maxRecDepth 100000 in
theorem c_X3_exchange {l : Launch} {D : va_G} {Y : Nat → ClassId} {S : GS} {hs : Nat} {a0 : Nat} {x1 : Int32} {x2 : Int32} {S' : GS} (h : f_X3_exchange S a0 x1 x2 = some S') : gMet l yX3_exchange (gWs yX3_exchange cX3_exchange 6 none) rm_X3_exchange [va_rf (some a0), .int x1, .int x2] D Y S hs none S' hs := by
  refine g_ofW (by decide +kernel) (Or.inl ⟨(Nat.le_of_ble_eq_true rfl), (List.forall_mem_cons.mpr ⟨rf_cat _, (List.forall_mem_cons.mpr ⟨rfl, (List.forall_mem_cons.mpr ⟨rfl, (fun _ h => absurd h List.not_mem_nil)⟩)⟩)⟩)⟩) ?_
  intro p e s m args below meth c ls hsz hname hF hM hl
  have hl : lv_has ls 6 [(0, va_rf (some a0)), (1, .int x1), (2, .int x2)] := by rw [g_args [va_rf (some a0), .int x1, .int x2] 0 (List.forall_mem_cons.mpr ⟨rf_cat _, (List.forall_mem_cons.mpr ⟨rfl, (List.forall_mem_cons.mpr ⟨rfl, (fun _ h => absurd h List.not_mem_nil)⟩)⟩)⟩)] at hl; exact hl
  have hF : gF p s m args meth c RX3 cX3_exchange 6 none D Y (gA S hs) := hF
  have hx := hF.1
  have hb := hF.2.1
  unfold f_X3_exchange at h
  refine g_aload_n hx hb dX3_exchange_0 rfl (lv_at hl 0 rfl) ?_
  refine lv_iload_n hx hb dX3_exchange_1 rfl (lv_at hl 1 rfl) ?_
  have g := gckE h
  clear h
  obtain ⟨t1, h⟩ := g
  have t1 := eq_of_beq t1
  have g := gbind h
  clear h
  obtain ⟨v3, e2, h⟩ := g
  refine g_callV (As := [.int x1]) (rest := []) hF hM (c_X3_hasPlace e2) k_X3_hasPlace u287 u288 u289 rfl rfl t1 rfl hl.1 rfl (Nat.le_of_ble_eq_true rfl) dX3_exchange_2 ⟨(Nat.le_of_ble_eq_true rfl), (Nat.le_of_ble_eq_true rfl)⟩ ⟨(Nat.le_of_ble_eq_true rfl), (Nat.le_of_ble_eq_true rfl)⟩ (fun H locs hM => ?_)
  refine lv_if_eq (tgt := 16) hx hb dX3_exchange_5 (by decide) (fun c4 => ?_) (fun c4 => ?_)
  · replace h := (if_pos c4).symm.trans h
    rw [← (Option.some.inj h)]
    exact g_vret hF hM rfl dX3_exchange_16 (Nat.le_of_ble_eq_true rfl) (Nat.le_of_ble_eq_true rfl)
  · replace h := (if_neg c4).symm.trans h
    refine g_aload_n hx hb dX3_exchange_8 rfl (lv_at hl 0 rfl) ?_
    refine lv_iload_n hx hb dX3_exchange_9 rfl (lv_at hl 2 rfl) ?_
    have g := gckE h
    clear h
    obtain ⟨t5, h⟩ := g
    have t5 := eq_of_beq t5
    have g := gbind h
    clear h
    obtain ⟨v7, e6, h⟩ := g
    refine g_callV (As := [.int x2]) (rest := []) hF hM (c_X3_hasPlace e6) k_X3_hasPlace u287 u288 u289 rfl rfl t5 rfl hl.1 rfl (Nat.le_of_ble_eq_true rfl) dX3_exchange_10 ⟨(Nat.le_of_ble_eq_true rfl), (Nat.le_of_ble_eq_true rfl)⟩ ⟨(Nat.le_of_ble_eq_true rfl), (Nat.le_of_ble_eq_true rfl)⟩ (fun H locs hM => ?_)
    refine lv_if_ne (tgt := 17) hx hb dX3_exchange_13 (by decide) (fun c8 => ?_) (fun c8 => ?_)
    · replace h := (if_neg c8).symm.trans h
      refine g_aload_n hx hb dX3_exchange_17 rfl (lv_at hl 0 rfl) ?_
      have g := gbind h
      clear h
      obtain ⟨v9, e10, h⟩ := g
      refine g_getR hF hM fdX3 e10 (by decide) rfl u102 dX3_exchange_18 ?_
      refine lv_iload_n hx hb dX3_exchange_21 rfl (lv_at hl 1 rfl) ?_
      have g := gbind h
      clear h
      obtain ⟨v11, e12, h⟩ := g
      refine g_iald hF hM e12 dX3_exchange_22 ?_
      refine lv_istore_n (i := 3) (lv' := [(3, .int v11), (0, va_rf (some a0)), (1, .int x1), (2, .int x2)]) hx hb dX3_exchange_23 rfl hl (by decide) rfl (fun ls hl => ?_)
      refine g_aload_n hx hb dX3_exchange_24 rfl (lv_at hl 1 rfl) ?_
      have g := gbind h
      clear h
      obtain ⟨v13, e14, h⟩ := g
      refine g_getR hF hM fdX3 e14 (by decide) rfl u103 dX3_exchange_25 ?_
      refine lv_iload_n hx hb dX3_exchange_28 rfl (lv_at hl 2 rfl) ?_
      have g := gbind h
      clear h
      obtain ⟨v15, e16, h⟩ := g
      refine g_iald hF hM e16 dX3_exchange_29 ?_
      refine lv_istore (i := 4) (lv' := [(4, .int v15), (3, .int v11), (0, va_rf (some a0)), (1, .int x1), (2, .int x2)]) hx hb dX3_exchange_30 hl (by decide) rfl (fun ls hl => ?_)
      refine g_aload_n hx hb dX3_exchange_32 rfl (lv_at hl 2 rfl) ?_
      have g := gbind h
      clear h
      obtain ⟨v17, e18, h⟩ := g
      refine g_getR hF hM fdX3 e18 (by decide) rfl u104 dX3_exchange_33 ?_
      refine lv_iload_n hx hb dX3_exchange_36 rfl (lv_at hl 3 rfl) ?_
      have g := gbind h
      clear h
      obtain ⟨v19, e20, h⟩ := g
      refine g_iald hF hM e20 dX3_exchange_37 ?_
      refine lv_istore (i := 5) (lv' := [(5, .int v19), (4, .int v15), (3, .int v11), (0, va_rf (some a0)), (1, .int x1), (2, .int x2)]) hx hb dX3_exchange_38 hl (by decide) rfl (fun ls hl => ?_)
      refine g_aload_n hx hb dX3_exchange_40 rfl (lv_at hl 3 rfl) ?_
      have g := gbind h
      clear h
      obtain ⟨v21, e22, h⟩ := g
      refine g_getR hF hM fdX3 e22 (by decide) rfl u102 dX3_exchange_41 ?_
      refine lv_iload_n hx hb dX3_exchange_44 rfl (lv_at hl 4 rfl) ?_
      refine g_aload_n hx hb dX3_exchange_45 rfl (lv_at hl 3 rfl) ?_
      have g := gbind h
      clear h
      obtain ⟨v23, e24, h⟩ := g
      refine g_getR hF hM fdX3 e24 (by decide) rfl u102 dX3_exchange_46 ?_
      refine lv_iload_n hx hb dX3_exchange_49 rfl (lv_at hl 5 rfl) ?_
      have g := gbind h
      clear h
      obtain ⟨v25, e26, h⟩ := g
      refine g_iald hF hM e26 dX3_exchange_50 ?_
      have g := gbind h
      clear h
      obtain ⟨S27, e28, h⟩ := g
      refine g_iast hF hM e28 dX3_exchange_51 (fun H locs hM => ?_)
      refine g_aload_n hx hb dX3_exchange_52 rfl (lv_at hl 3 rfl) ?_
      have g := gbind h
      clear h
      obtain ⟨v29, e30, h⟩ := g
      refine g_getR hF hM fdX3 e30 (by decide) rfl u103 dX3_exchange_53 ?_
      refine lv_iload_n hx hb dX3_exchange_56 rfl (lv_at hl 4 rfl) ?_
      refine g_aload_n hx hb dX3_exchange_57 rfl (lv_at hl 3 rfl) ?_
      have g := gbind h
      clear h
      obtain ⟨v31, e32, h⟩ := g
      refine g_getR hF hM fdX3 e32 (by decide) rfl u103 dX3_exchange_58 ?_
      refine lv_iload_n hx hb dX3_exchange_61 rfl (lv_at hl 5 rfl) ?_
      have g := gbind h
      clear h
      obtain ⟨v33, e34, h⟩ := g
      refine g_iald hF hM e34 dX3_exchange_62 ?_
      have g := gbind h
      clear h
      obtain ⟨S35, e36, h⟩ := g
      refine g_iast hF hM e36 dX3_exchange_63 (fun H locs hM => ?_)
      refine g_aload_n hx hb dX3_exchange_64 rfl (lv_at hl 3 rfl) ?_
      have g := gbind h
      clear h
      obtain ⟨v37, e38, h⟩ := g
      refine g_getR hF hM fdX3 e38 (by decide) rfl u104 dX3_exchange_65 ?_
      refine lv_iload_n hx hb dX3_exchange_68 rfl (lv_at hl 4 rfl) ?_
      refine g_aload_n hx hb dX3_exchange_69 rfl (lv_at hl 3 rfl) ?_
      have g := gbind h
      clear h
      obtain ⟨v39, e40, h⟩ := g
      refine g_getR hF hM fdX3 e40 (by decide) rfl u104 dX3_exchange_70 ?_
      refine lv_iload_n hx hb dX3_exchange_73 rfl (lv_at hl 5 rfl) ?_
      have g := gbind h
      clear h
      obtain ⟨v41, e42, h⟩ := g
      refine g_iald hF hM e42 dX3_exchange_74 ?_
      have g := gbind h
      clear h
      obtain ⟨S43, e44, h⟩ := g
      refine g_iast hF hM e44 dX3_exchange_75 (fun H locs hM => ?_)
      refine g_aload_n hx hb dX3_exchange_76 rfl (lv_at hl 3 rfl) ?_
      have g := gbind h
      clear h
      obtain ⟨v45, e46, h⟩ := g
      refine g_getR hF hM fdX3 e46 (by decide) rfl u102 dX3_exchange_77 ?_
      refine lv_iload_n hx hb dX3_exchange_80 rfl (lv_at hl 5 rfl) ?_
      refine lv_iload_n hx hb dX3_exchange_81 rfl (lv_at hl 2 rfl) ?_
      have g := gbind h
      clear h
      obtain ⟨S47, e48, h⟩ := g
      refine g_iast hF hM e48 dX3_exchange_82 (fun H locs hM => ?_)
      refine g_aload_n hx hb dX3_exchange_83 rfl (lv_at hl 3 rfl) ?_
      have g := gbind h
      clear h
      obtain ⟨v49, e50, h⟩ := g
      refine g_getR hF hM fdX3 e50 (by decide) rfl u103 dX3_exchange_84 ?_
      refine lv_iload_n hx hb dX3_exchange_87 rfl (lv_at hl 5 rfl) ?_
      refine lv_iload hx hb dX3_exchange_88 (lv_at hl 1 rfl) ?_
      have g := gbind h
      clear h
      obtain ⟨S51, e52, h⟩ := g
      refine g_iast hF hM e52 dX3_exchange_90 (fun H locs hM => ?_)
      refine g_aload_n hx hb dX3_exchange_91 rfl (lv_at hl 3 rfl) ?_
      have g := gbind h
      clear h
      obtain ⟨v53, e54, h⟩ := g
      refine g_getR hF hM fdX3 e54 (by decide) rfl u104 dX3_exchange_92 ?_
      refine lv_iload_n hx hb dX3_exchange_95 rfl (lv_at hl 5 rfl) ?_
      refine lv_iload hx hb dX3_exchange_96 (lv_at hl 0 rfl) ?_
      have g := gbind h
      clear h
      obtain ⟨S55, e56, h⟩ := g
      refine g_iast hF hM e56 dX3_exchange_98 (fun H locs hM => ?_)
      rw [← (Option.some.inj h)]
      exact g_vret hF hM rfl dX3_exchange_99 (Nat.le_of_ble_eq_true rfl) (Nat.le_of_ble_eq_true rfl)
    · replace h := (if_pos c8).symm.trans h
      rw [← (Option.some.inj h)]
      exact g_vret hF hM rfl dX3_exchange_16 (Nat.le_of_ble_eq_true rfl) (Nat.le_of_ble_eq_true rfl)
abbrev rm_X3_order : Room := { frames := 2, cells := 0, slots := 0, locals := 46 }
theorem k_X3_order : gKc yX3_order cX3_order 6 none 3 := ⟨u298, u65, by decide +kernel, by decide +kernel, by decide +kernel⟩
set_option maxHeartbeats 4000000 in
set_option maxRecDepth 100000 in
theorem c_X3_order {l : Launch} {D : va_G} {Y : Nat → ClassId} {S : GS} {hs : Nat} {a0 : Nat} {x1 : Int32} {x2 : Int32} {x3 : Int32} {S' : GS} (h : f_X3_order S a0 x1 x2 x3 = some S') : gMet l yX3_order (gWs yX3_order cX3_order 6 none) rm_X3_order [va_rf (some a0), .int x1, .int x2, .int x3] D Y S hs none S' hs := by
  refine g_ofW (by decide +kernel) (Or.inl ⟨(Nat.le_of_ble_eq_true rfl), (List.forall_mem_cons.mpr ⟨rf_cat _, (List.forall_mem_cons.mpr ⟨rfl, (List.forall_mem_cons.mpr ⟨rfl, (List.forall_mem_cons.mpr ⟨rfl, (fun _ h => absurd h List.not_mem_nil)⟩)⟩)⟩)⟩)⟩) ?_
  intro p e s m args below meth c ls hsz hname hF hM hl
  have hl : lv_has ls 6 [(0, va_rf (some a0)), (1, .int x1), (2, .int x2), (3, .int x3)] := by rw [g_args [va_rf (some a0), .int x1, .int x2, .int x3] 0 (List.forall_mem_cons.mpr ⟨rf_cat _, (List.forall_mem_cons.mpr ⟨rfl, (List.forall_mem_cons.mpr ⟨rfl, (List.forall_mem_cons.mpr ⟨rfl, (fun _ h => absurd h List.not_mem_nil)⟩)⟩)⟩)⟩)] at hl; exact hl
  have hF : gF p s m args meth c RX3 cX3_order 6 none D Y (gA S hs) := hF
  have hx := hF.1
  have hb := hF.2.1
  have Jb58 : ∀ (k5 : GS → Int32 → Int32 → Int32 → Int32 → Option (GS)) (hk5 : ∀ (T5 : GS) (x1 : Int32) (x2 : Int32) (x3 : Int32) (x4 : Int32), k5 T5 x1 x2 x3 x4 = some S' → ∀ (H : Heap) (locs : List Loc) (ls : Array Slot), gM D Y (gA S hs) s.heap T5 hs H locs → lv_has ls 6 [(0, va_rf (some a0)), (1, .int x1), (2, .int x2), (3, .int x3), (4, .int x4)] → W p l e rm_X3_order s m args below meth c H locs 0 0 (MQ below (gQ none D Y S' hs (gA S hs)) args s rm_X3_order.cells rm_X3_order.slots (gA S hs)) (F0 m 5 ls [])) (T58 : GS) (x1 : Int32) (x2 : Int32) (x3 : Int32) (x4 : Int32), f_X3_order_b58 k5 a0 T58 x1 x2 x3 x4 = some S' → ∀ (H : Heap) (locs : List Loc) (ls : Array Slot), gM D Y (gA S hs) s.heap T58 hs H locs → lv_has ls 6 [(0, va_rf (some a0)), (1, .int x1), (2, .int x2), (3, .int x3), (4, .int x4)] → W p l e rm_X3_order s m args below meth c H locs 0 0 (MQ below (gQ none D Y S' hs (gA S hs)) args s rm_X3_order.cells rm_X3_order.slots (gA S hs)) (F0 m 58 ls []) := by
    intro k5 hk5 T58 x1 x2 x3 x4 h H locs ls hM hl
    unfold f_X3_order_b58 at h
    refine lv_iinc (v := (x4 + 1)) (lv' := [(4, .int (x4 + 1)), (0, va_rf (some a0)), (1, .int x1), (2, .int x2), (3, .int x3)]) hx hb dX3_order_58 hl (k := 4) rfl rfl (by decide) rfl (fun ls hl => ?_)
    refine lv_goto (tgt := 5) hx hb dX3_order_61 (by decide) ?_
    refine W.widen (k := 0) (n := 0) (Nat.le_of_ble_eq_true rfl) (Nat.le_of_ble_eq_true rfl) ?_
    exact hk5 _ _ _ _ _ h _ _ _ hM (lv_sub hl [1, 2, 3, 4, 0] rfl)
  have JL17 : ∀ (k5 : GS → Int32 → Int32 → Int32 → Int32 → Option (GS)) (hk5 : ∀ (T5 : GS) (x1 : Int32) (x2 : Int32) (x3 : Int32) (x4 : Int32), k5 T5 x1 x2 x3 x4 = some S' → ∀ (H : Heap) (locs : List Loc) (ls : Array Slot), gM D Y (gA S hs) s.heap T5 hs H locs → lv_has ls 6 [(0, va_rf (some a0)), (1, .int x1), (2, .int x2), (3, .int x3), (4, .int x4)] → W p l e rm_X3_order s m args below meth c H locs 0 0 (MQ below (gQ none D Y S' hs (gA S hs)) args s rm_X3_order.cells rm_X3_order.slots (gA S hs)) (F0 m 5 ls [])) (n : Nat) (T17 : GS) (x1 : Int32) (x2 : Int32) (x3 : Int32) (x4 : Int32) (x5 : Int32), f_X3_order_L17 k5 a0 n T17 x1 x2 x3 x4 x5 = some S' → ∀ (H : Heap) (locs : List Loc) (ls : Array Slot), gM D Y (gA S hs) s.heap T17 hs H locs → lv_has ls 6 [(0, va_rf (some a0)), (1, .int x1), (2, .int x2), (3, .int x3), (4, .int x4), (5, .int x5)] → W p l e rm_X3_order s m args below meth c H locs 0 0 (MQ below (gQ none D Y S' hs (gA S hs)) args s rm_X3_order.cells rm_X3_order.slots (gA S hs)) (F0 m 17 ls []) := by
    intro k5 hk5
    intro n
    induction n with
    | zero => intro T17 x1 x2 x3 x4 x5 h; unfold f_X3_order_L17 at h; exact nomatch h
    | succ n ih =>
      intro T17 x1 x2 x3 x4 x5 h H locs ls hM hl
      unfold f_X3_order_L17 at h
      refine lv_iload hx hb dX3_order_17 (lv_at hl 5 rfl) ?_
      refine lv_iload_n hx hb dX3_order_19 rfl (lv_at hl 1 rfl) ?_
      refine lv_icmp_le (tgt := 58) hx hb dX3_order_20 (by decide) (fun c2 => ?_) (fun c2 => ?_)
      · replace h := (if_pos c2).symm.trans h
        refine W.widen (k := 0) (n := 0) (Nat.le_of_ble_eq_true rfl) (Nat.le_of_ble_eq_true rfl) ?_
        exact Jb58 _ hk5 _ _ _ _ _ h _ _ _ hM (lv_sub hl [0, 1, 2, 3, 4] rfl)
      · replace h := (if_neg c2).symm.trans h
        refine g_aload_n hx hb dX3_order_23 rfl (lv_at hl 0 rfl) ?_
        refine lv_iload hx hb dX3_order_24 (lv_at hl 5 rfl) ?_
        refine lv_iconst (v := 1) hx hb dX3_order_26 (by decide) ?_
        refine lv_isub hx hb dX3_order_27 ?_
        refine lv_iload_n hx hb dX3_order_28 rfl (lv_at hl 3 rfl) ?_
        have g := gckE h
        clear h
        obtain ⟨t3, h⟩ := g
        have t3 := eq_of_beq t3
        have g := gbind h
        clear h
        obtain ⟨v5, e4, h⟩ := g
        refine g_callV (As := [.int (x5 - 1), .int x3]) (rest := []) hF hM (c_X3_rank e4) k_X3_rank u299 u301 u3 rfl rfl t3 rfl hl.1 rfl (Nat.le_of_ble_eq_true rfl) dX3_order_29 ⟨(Nat.le_of_ble_eq_true rfl), (Nat.le_of_ble_eq_true rfl)⟩ ⟨(Nat.le_of_ble_eq_true rfl), (Nat.le_of_ble_eq_true rfl)⟩ (fun H locs hM => ?_)
        refine g_aload_n hx hb dX3_order_32 rfl (lv_at hl 0 rfl) ?_
        refine lv_iload hx hb dX3_order_33 (lv_at hl 5 rfl) ?_
        refine lv_iload_n hx hb dX3_order_35 rfl (lv_at hl 3 rfl) ?_
        have g := gckE h
        clear h
        obtain ⟨t6, h⟩ := g
        have t6 := eq_of_beq t6
        have g := gbind h
        clear h
        obtain ⟨v8, e7, h⟩ := g
        refine g_callV (As := [.int x5, .int x3]) (rest := [.int v5]) hF hM (c_X3_rank e7) k_X3_rank u299 u301 u3 rfl rfl t6 rfl hl.1 rfl (Nat.le_of_ble_eq_true rfl) dX3_order_36 ⟨(Nat.le_of_ble_eq_true rfl), (Nat.le_of_ble_eq_true rfl)⟩ ⟨(Nat.le_of_ble_eq_true rfl), (Nat.le_of_ble_eq_true rfl)⟩ (fun H locs hM => ?_)
        refine lv_icmp_le (tgt := 58) hx hb dX3_order_39 (by decide) (fun c9 => ?_) (fun c9 => ?_)
        · replace h := (if_pos c9).symm.trans h
          refine W.widen (k := 0) (n := 0) (Nat.le_of_ble_eq_true rfl) (Nat.le_of_ble_eq_true rfl) ?_
          exact Jb58 _ hk5 _ _ _ _ _ h _ _ _ hM (lv_sub hl [0, 1, 2, 3, 4] rfl)
        · replace h := (if_neg c9).symm.trans h
          refine g_aload_n hx hb dX3_order_42 rfl (lv_at hl 0 rfl) ?_
          refine lv_iload hx hb dX3_order_43 (lv_at hl 5 rfl) ?_
          refine lv_iconst (v := 1) hx hb dX3_order_45 (by decide) ?_
          refine lv_isub hx hb dX3_order_46 ?_
          refine lv_iload hx hb dX3_order_47 (lv_at hl 5 rfl) ?_
          have g := gckE h
          clear h
          obtain ⟨t10, h⟩ := g
          have t10 := eq_of_beq t10
          have g := gbind h
          clear h
          obtain ⟨S12, e11, h⟩ := g
          refine g_callV (As := [.int (x5 - 1), .int x5]) (rest := []) hF hM (c_X3_exchange e11) k_X3_exchange u305 u306 u307 rfl rfl t10 rfl hl.1 rfl (Nat.le_of_ble_eq_true rfl) dX3_order_49 ⟨(Nat.le_of_ble_eq_true rfl), (Nat.le_of_ble_eq_true rfl)⟩ ⟨(Nat.le_of_ble_eq_true rfl), (Nat.le_of_ble_eq_true rfl)⟩ (fun H locs hM => ?_)
          refine lv_iinc (v := (x5 + (-1))) (lv' := [(5, .int (x5 + (-1))), (0, va_rf (some a0)), (1, .int x1), (2, .int x2), (3, .int x3), (4, .int x4)]) hx hb dX3_order_52 hl (k := 5) rfl rfl (by decide) rfl (fun ls hl => ?_)
          refine lv_goto (tgt := 17) hx hb dX3_order_55 (by decide) ?_
          refine W.widen (k := 0) (n := 0) (Nat.le_of_ble_eq_true rfl) (Nat.le_of_ble_eq_true rfl) ?_
          exact ih _ _ _ _ _ _ h _ _ _ hM (lv_sub hl [1, 2, 3, 4, 5, 0] rfl)
  have JL5 : ∀ (n : Nat) (T5 : GS) (x1 : Int32) (x2 : Int32) (x3 : Int32) (x4 : Int32), f_X3_order_L5 a0 n T5 x1 x2 x3 x4 = some S' → ∀ (H : Heap) (locs : List Loc) (ls : Array Slot), gM D Y (gA S hs) s.heap T5 hs H locs → lv_has ls 6 [(0, va_rf (some a0)), (1, .int x1), (2, .int x2), (3, .int x3), (4, .int x4)] → W p l e rm_X3_order s m args below meth c H locs 0 0 (MQ below (gQ none D Y S' hs (gA S hs)) args s rm_X3_order.cells rm_X3_order.slots (gA S hs)) (F0 m 5 ls []) := by
    intro n
    induction n with
    | zero => intro T5 x1 x2 x3 x4 h; unfold f_X3_order_L5 at h; exact nomatch h
    | succ n ih =>
      intro T5 x1 x2 x3 x4 h H locs ls hM hl
      unfold f_X3_order_L5 at h
      refine lv_iload hx hb dX3_order_5 (lv_at hl 4 rfl) ?_
      refine lv_iload_n hx hb dX3_order_7 rfl (lv_at hl 1 rfl) ?_
      refine lv_iload_n hx hb dX3_order_8 rfl (lv_at hl 2 rfl) ?_
      refine lv_iadd hx hb dX3_order_9 ?_
      refine lv_icmp_ge (tgt := 64) hx hb dX3_order_10 (by decide) (fun c1 => ?_) (fun c1 => ?_)
      · replace h := (if_pos c1).symm.trans h
        rw [← (Option.some.inj h)]
        exact g_vret hF hM rfl dX3_order_64 (Nat.le_of_ble_eq_true rfl) (Nat.le_of_ble_eq_true rfl)
      · replace h := (if_neg c1).symm.trans h
        refine lv_iload hx hb dX3_order_13 (lv_at hl 4 rfl) ?_
        refine lv_istore (i := 5) (lv' := [(5, .int x4), (0, va_rf (some a0)), (1, .int x1), (2, .int x2), (3, .int x3), (4, .int x4)]) hx hb dX3_order_15 hl (by decide) rfl (fun ls hl => ?_)
        refine W.widen (k := 0) (n := 0) (Nat.le_of_ble_eq_true rfl) (Nat.le_of_ble_eq_true rfl) ?_
        exact JL17 _ ih gN _ _ _ _ _ _ h _ _ _ hM (lv_sub hl [1, 2, 3, 4, 5, 0] rfl)
  unfold f_X3_order at h
  refine lv_iload_n hx hb dX3_order_0 rfl (lv_at hl 1 rfl) ?_
  refine lv_iconst (v := 1) hx hb dX3_order_1 (by decide) ?_
  refine lv_iadd hx hb dX3_order_2 ?_
  refine lv_istore (i := 4) (lv' := [(4, .int (x1 + 1)), (0, va_rf (some a0)), (1, .int x1), (2, .int x2), (3, .int x3)]) hx hb dX3_order_3 hl (by decide) rfl (fun ls hl => ?_)
  refine W.widen (k := 0) (n := 0) (Nat.le_of_ble_eq_true rfl) (Nat.le_of_ble_eq_true rfl) ?_
  exact JL5 gN _ _ _ _ _ h _ _ _ hM (lv_sub hl [1, 2, 3, 4, 0] rfl)
abbrev rm_X1_isAlike : Room := { frames := 2, cells := 0, slots := 0, locals := 42 }
theorem k_X1_isAlike : gKc yX1_isAlike cX1_isAlike 4 (some .boolean) 3 := ⟨u313, u64, by decide +kernel, by decide +kernel, by decide +kernel⟩
set_option maxHeartbeats 4000000 in
set_option maxRecDepth 100000 in
theorem c_X1_isAlike {l : Launch} {D : va_G} {Y : Nat → ClassId} {S : GS} {hs : Nat} {a0 : Nat} {x1 : Int32} {x2 : Option Nat} {x3 : Int32} {r : Int32} (h : f_X1_isAlike S a0 x1 x2 x3 = some r) : gMet l yX1_isAlike (gWs yX1_isAlike cX1_isAlike 4 (some .boolean)) rm_X1_isAlike [va_rf (some a0), .int x1, va_rf x2, .int x3] D Y S hs (some (.int r)) S hs := by
  refine g_ofW (by decide +kernel) (Or.inl ⟨(Nat.le_of_ble_eq_true rfl), (List.forall_mem_cons.mpr ⟨rf_cat _, (List.forall_mem_cons.mpr ⟨rfl, (List.forall_mem_cons.mpr ⟨rf_cat _, (List.forall_mem_cons.mpr ⟨rfl, (fun _ h => absurd h List.not_mem_nil)⟩)⟩)⟩)⟩)⟩) ?_
  intro p e s m args below meth c ls hsz hname hF hM hl
  have hl : lv_has ls 4 [(0, va_rf (some a0)), (1, .int x1), (2, va_rf x2), (3, .int x3)] := by rw [g_args [va_rf (some a0), .int x1, va_rf x2, .int x3] 0 (List.forall_mem_cons.mpr ⟨rf_cat _, (List.forall_mem_cons.mpr ⟨rfl, (List.forall_mem_cons.mpr ⟨rf_cat _, (List.forall_mem_cons.mpr ⟨rfl, (fun _ h => absurd h List.not_mem_nil)⟩)⟩)⟩)⟩)] at hl; exact hl
  have hF : gF p s m args meth c RX1 cX1_isAlike 4 (some .boolean) D Y (gA S hs) := hF
  have hx := hF.1
  have hb := hF.2.1
  unfold f_X1_isAlike at h
  refine g_aload_n hx hb dX1_isAlike_0 rfl (lv_at hl 0 rfl) ?_
  refine lv_iload_n hx hb dX1_isAlike_1 rfl (lv_at hl 1 rfl) ?_
  have g := gckE h
  clear h
  obtain ⟨t1, h⟩ := g
  have t1 := eq_of_beq t1
  have g := gbind h
  clear h
  obtain ⟨v3, e2, h⟩ := g
  refine g_callV (As := [.int x1]) (rest := []) hF hM (c_X1_keyOf e2) k_X1_keyOf u225 u226 u227 rfl rfl t1 rfl hl.1 rfl (Nat.le_of_ble_eq_true rfl) dX1_isAlike_2 ⟨(Nat.le_of_ble_eq_true rfl), (Nat.le_of_ble_eq_true rfl)⟩ ⟨(Nat.le_of_ble_eq_true rfl), (Nat.le_of_ble_eq_true rfl)⟩ (fun H locs hM => ?_)
  refine g_aload_n hx hb dX1_isAlike_5 rfl (lv_at hl 2 rfl) ?_
  refine lv_iload_n hx hb dX1_isAlike_6 rfl (lv_at hl 3 rfl) ?_
  have g := gbind h
  clear h
  obtain ⟨a4, e5, h⟩ := g
  have t6 := (gtk_of e5).2
  rw [(gtk_of e5).1]
  have g := gbind h
  clear h
  obtain ⟨v8, e7, h⟩ := g
  refine g_callV (As := [.int x3]) (rest := [.int v3]) hF hM (c_X1_keyOf e7) k_X1_keyOf u225 u226 u227 rfl rfl t6 rfl hl.1 rfl (Nat.le_of_ble_eq_true rfl) dX1_isAlike_7 ⟨(Nat.le_of_ble_eq_true rfl), (Nat.le_of_ble_eq_true rfl)⟩ ⟨(Nat.le_of_ble_eq_true rfl), (Nat.le_of_ble_eq_true rfl)⟩ (fun H locs hM => ?_)
  refine lv_icmp_ne (tgt := 30) hx hb dX1_isAlike_10 (by decide) (fun c9 => ?_) (fun c9 => ?_)
  · replace h := (if_neg c9).symm.trans h
    refine lv_iconst (v := 0) hx hb dX1_isAlike_30 (by decide) ?_
    rw [← (Option.some.inj h)]
    exact g_iret hF hM rfl rfl dX1_isAlike_31 (Nat.le_of_ble_eq_true rfl) (Nat.le_of_ble_eq_true rfl)
  · replace h := (if_pos c9).symm.trans h
    refine g_aload_n hx hb dX1_isAlike_13 rfl (lv_at hl 0 rfl) ?_
    refine lv_iload_n hx hb dX1_isAlike_14 rfl (lv_at hl 1 rfl) ?_
    have g := gckE h
    clear h
    obtain ⟨t10, h⟩ := g
    have t10 := eq_of_beq t10
    have g := gbind h
    clear h
    obtain ⟨v12, e11, h⟩ := g
    refine g_callV (As := [.int x1]) (rest := []) hF hM (c_X1_markOf e11) k_X1_markOf u233 u234 u235 rfl rfl t10 rfl hl.1 rfl (Nat.le_of_ble_eq_true rfl) dX1_isAlike_15 ⟨(Nat.le_of_ble_eq_true rfl), (Nat.le_of_ble_eq_true rfl)⟩ ⟨(Nat.le_of_ble_eq_true rfl), (Nat.le_of_ble_eq_true rfl)⟩ (fun H locs hM => ?_)
    refine g_aload_n hx hb dX1_isAlike_18 rfl (lv_at hl 2 rfl) ?_
    refine lv_iload_n hx hb dX1_isAlike_19 rfl (lv_at hl 3 rfl) ?_
    have g := gbind h
    clear h
    obtain ⟨a13, e14, h⟩ := g
    have t15 := (gtk_of e14).2
    rw [(gtk_of e14).1]
    have g := gbind h
    clear h
    obtain ⟨v17, e16, h⟩ := g
    refine g_callV (As := [.int x3]) (rest := [.int v12]) hF hM (c_X1_markOf e16) k_X1_markOf u233 u234 u235 rfl rfl t15 rfl hl.1 rfl (Nat.le_of_ble_eq_true rfl) dX1_isAlike_20 ⟨(Nat.le_of_ble_eq_true rfl), (Nat.le_of_ble_eq_true rfl)⟩ ⟨(Nat.le_of_ble_eq_true rfl), (Nat.le_of_ble_eq_true rfl)⟩ (fun H locs hM => ?_)
    refine lv_icmp_ne (tgt := 30) hx hb dX1_isAlike_23 (by decide) (fun c18 => ?_) (fun c18 => ?_)
    · replace h := (if_neg c18).symm.trans h
      refine lv_iconst (v := 0) hx hb dX1_isAlike_30 (by decide) ?_
      rw [← (Option.some.inj h)]
      exact g_iret hF hM rfl rfl dX1_isAlike_31 (Nat.le_of_ble_eq_true rfl) (Nat.le_of_ble_eq_true rfl)
    · replace h := (if_pos c18).symm.trans h
      refine lv_iconst (v := 1) hx hb dX1_isAlike_26 (by decide) ?_
      refine lv_goto (tgt := 31) hx hb dX1_isAlike_27 (by decide) ?_
      rw [← (Option.some.inj h)]
      exact g_iret hF hM rfl rfl dX1_isAlike_31 (Nat.le_of_ble_eq_true rfl) (Nat.le_of_ble_eq_true rfl)
abbrev rm_X3_reverse : Room := { frames := 2, cells := 0, slots := 0, locals := 46 }
theorem k_X3_reverse : gKc yX3_reverse cX3_reverse 4 none 2 := ⟨u327, u65, by decide +kernel, by decide +kernel, by decide +kernel⟩
set_option maxHeartbeats 4000000 in
set_option maxRecDepth 100000 in
theorem c_X3_reverse {l : Launch} {D : va_G} {Y : Nat → ClassId} {S : GS} {hs : Nat} {a0 : Nat} {x1 : Int32} {x2 : Int32} {S' : GS} (h : f_X3_reverse S a0 x1 x2 = some S') : gMet l yX3_reverse (gWs yX3_reverse cX3_reverse 4 none) rm_X3_reverse [va_rf (some a0), .int x1, .int x2] D Y S hs none S' hs := by
  refine g_ofW (by decide +kernel) (Or.inl ⟨(Nat.le_of_ble_eq_true rfl), (List.forall_mem_cons.mpr ⟨rf_cat _, (List.forall_mem_cons.mpr ⟨rfl, (List.forall_mem_cons.mpr ⟨rfl, (fun _ h => absurd h List.not_mem_nil)⟩)⟩)⟩)⟩) ?_
  intro p e s m args below meth c ls hsz hname hF hM hl
  have hl : lv_has ls 4 [(0, va_rf (some a0)), (1, .int x1), (2, .int x2)] := by rw [g_args [va_rf (some a0), .int x1, .int x2] 0 (List.forall_mem_cons.mpr ⟨rf_cat _, (List.forall_mem_cons.mpr ⟨rfl, (List.forall_mem_cons.mpr ⟨rfl, (fun _ h => absurd h List.not_mem_nil)⟩)⟩)⟩)] at hl; exact hl
  have hF : gF p s m args meth c RX3 cX3_reverse 4 none D Y (gA S hs) := hF
  have hx := hF.1
  have hb := hF.2.1
  have JL2 : ∀ (n : Nat) (T2 : GS) (x1 : Int32) (x2 : Int32) (x3 : Int32), f_X3_reverse_L2 a0 n T2 x1 x2 x3 = some S' → ∀ (H : Heap) (locs : List Loc) (ls : Array Slot), gM D Y (gA S hs) s.heap T2 hs H locs → lv_has ls 4 [(0, va_rf (some a0)), (1, .int x1), (2, .int x2), (3, .int x3)] → W p l e rm_X3_reverse s m args below meth c H locs 0 0 (MQ below (gQ none D Y S' hs (gA S hs)) args s rm_X3_reverse.cells rm_X3_reverse.slots (gA S hs)) (F0 m 2 ls []) := by
    intro n
    induction n with
    | zero => intro T2 x1 x2 x3 h; unfold f_X3_reverse_L2 at h; exact nomatch h
    | succ n ih =>
      intro T2 x1 x2 x3 h H locs ls hM hl
      unfold f_X3_reverse_L2 at h
      refine lv_iload_n hx hb dX3_reverse_2 rfl (lv_at hl 3 rfl) ?_
      refine lv_iload_n hx hb dX3_reverse_3 rfl (lv_at hl 2 rfl) ?_
      refine lv_iconst (v := 2) hx hb dX3_reverse_4 (by decide) ?_
      refine lv_idiv hx hb dX3_reverse_5 (by decide) ?_
      refine lv_icmp_ge (tgt := 29) hx hb dX3_reverse_6 (by decide) (fun c1 => ?_) (fun c1 => ?_)
      · replace h := (if_pos c1).symm.trans h
        rw [← (Option.some.inj h)]
        exact g_vret hF hM rfl dX3_reverse_29 (Nat.le_of_ble_eq_true rfl) (Nat.le_of_ble_eq_true rfl)
      · replace h := (if_neg c1).symm.trans h
        refine g_aload_n hx hb dX3_reverse_9 rfl (lv_at hl 0 rfl) ?_
        refine lv_iload_n hx hb dX3_reverse_10 rfl (lv_at hl 1 rfl) ?_
        refine lv_iload_n hx hb dX3_reverse_11 rfl (lv_at hl 3 rfl) ?_
        refine lv_iadd hx hb dX3_reverse_12 ?_
        refine lv_iload_n hx hb dX3_reverse_13 rfl (lv_at hl 1 rfl) ?_
        refine lv_iload_n hx hb dX3_reverse_14 rfl (lv_at hl 2 rfl) ?_
        refine lv_iadd hx hb dX3_reverse_15 ?_
        refine lv_iconst (v := 1) hx hb dX3_reverse_16 (by decide) ?_
        refine lv_isub hx hb dX3_reverse_17 ?_
        refine lv_iload_n hx hb dX3_reverse_18 rfl (lv_at hl 3 rfl) ?_
        refine lv_isub hx hb dX3_reverse_19 ?_
        have g := gckE h
        clear h
        obtain ⟨t2, h⟩ := g
        have t2 := eq_of_beq t2
        have g := gbind h
        clear h
        obtain ⟨S4, e3, h⟩ := g
        refine g_callV (As := [.int (x1 + x3), .int (((x1 + x2) - 1) - x3)]) (rest := []) hF hM (c_X3_exchange e3) k_X3_exchange u305 u306 u307 rfl rfl t2 rfl hl.1 rfl (Nat.le_of_ble_eq_true rfl) dX3_reverse_20 ⟨(Nat.le_of_ble_eq_true rfl), (Nat.le_of_ble_eq_true rfl)⟩ ⟨(Nat.le_of_ble_eq_true rfl), (Nat.le_of_ble_eq_true rfl)⟩ (fun H locs hM => ?_)
        refine lv_iinc (v := (x3 + 1)) (lv' := [(3, .int (x3 + 1)), (0, va_rf (some a0)), (1, .int x1), (2, .int x2)]) hx hb dX3_reverse_23 hl (k := 3) rfl rfl (by decide) rfl (fun ls hl => ?_)
        refine lv_goto (tgt := 2) hx hb dX3_reverse_26 (by decide) ?_
        refine W.widen (k := 0) (n := 0) (Nat.le_of_ble_eq_true rfl) (Nat.le_of_ble_eq_true rfl) ?_
        exact ih _ _ _ _ h _ _ _ hM (lv_sub hl [1, 2, 3, 0] rfl)
  unfold f_X3_reverse at h
  refine lv_iconst (v := 0) hx hb dX3_reverse_0 (by decide) ?_
  refine lv_istore_n (i := 3) (lv' := [(3, .int 0), (0, va_rf (some a0)), (1, .int x1), (2, .int x2)]) hx hb dX3_reverse_1 rfl hl (by decide) rfl (fun ls hl => ?_)
  refine W.widen (k := 0) (n := 0) (Nat.le_of_ble_eq_true rfl) (Nat.le_of_ble_eq_true rfl) ?_
  exact JL2 gN _ _ _ _ h _ _ _ hM (lv_sub hl [1, 2, 3, 0] rfl)
abbrev rm_X1_standsAt : Room := { frames := 3, cells := 0, slots := 0, locals := 65 }
theorem k_X1_standsAt : gKc yX1_standsAt cX1_standsAt 4 (some .boolean) 2 := ⟨u331, u64, by decide +kernel, by decide +kernel, by decide +kernel⟩
set_option maxHeartbeats 4000000 in
set_option maxRecDepth 100000 in
theorem c_X1_standsAt {l : Launch} {D : va_G} {Y : Nat → ClassId} {S : GS} {hs : Nat} {a0 : Nat} {x1 : Int32} {x2 : Option Nat} {r : Int32} (h : f_X1_standsAt S a0 x1 x2 = some r) : gMet l yX1_standsAt (gWs yX1_standsAt cX1_standsAt 4 (some .boolean)) rm_X1_standsAt [va_rf (some a0), .int x1, va_rf x2] D Y S hs (some (.int r)) S hs := by
  refine g_ofW (by decide +kernel) (Or.inl ⟨(Nat.le_of_ble_eq_true rfl), (List.forall_mem_cons.mpr ⟨rf_cat _, (List.forall_mem_cons.mpr ⟨rfl, (List.forall_mem_cons.mpr ⟨rf_cat _, (fun _ h => absurd h List.not_mem_nil)⟩)⟩)⟩)⟩) ?_
  intro p e s m args below meth c ls hsz hname hF hM hl
  have hl : lv_has ls 4 [(0, va_rf (some a0)), (1, .int x1), (2, va_rf x2)] := by rw [g_args [va_rf (some a0), .int x1, va_rf x2] 0 (List.forall_mem_cons.mpr ⟨rf_cat _, (List.forall_mem_cons.mpr ⟨rfl, (List.forall_mem_cons.mpr ⟨rf_cat _, (fun _ h => absurd h List.not_mem_nil)⟩)⟩)⟩)] at hl; exact hl
  have hF : gF p s m args meth c RX1 cX1_standsAt 4 (some .boolean) D Y (gA S hs) := hF
  have hx := hF.1
  have hb := hF.2.1
  have JL2 : ∀ (n : Nat) (x1 : Int32) (x2 : Option Nat) (x3 : Int32), f_X1_standsAt_L2 S a0 n x1 x2 x3 = some r → ∀ (H : Heap) (locs : List Loc) (ls : Array Slot), gM D Y (gA S hs) s.heap S hs H locs → lv_has ls 4 [(0, va_rf (some a0)), (1, .int x1), (2, va_rf x2), (3, .int x3)] → W p l e rm_X1_standsAt s m args below meth c H locs 0 0 (MQ below (gQ (some (.int r)) D Y S hs (gA S hs)) args s rm_X1_standsAt.cells rm_X1_standsAt.slots (gA S hs)) (F0 m 2 ls []) := by
    intro n
    induction n with
    | zero => intro x1 x2 x3 h; unfold f_X1_standsAt_L2 at h; exact nomatch h
    | succ n ih =>
      intro x1 x2 x3 h H locs ls hM hl
      unfold f_X1_standsAt_L2 at h
      refine lv_iload_n hx hb dX1_standsAt_2 rfl (lv_at hl 3 rfl) ?_
      refine g_aload_n hx hb dX1_standsAt_3 rfl (lv_at hl 2 rfl) ?_
      have g := gbind h
      clear h
      obtain ⟨a1, e2, h⟩ := g
      have t3 := (gtk_of e2).2
      rw [(gtk_of e2).1]
      have g := gbind h
      clear h
      obtain ⟨v5, e4, h⟩ := g
      refine g_callV (As := []) (rest := [.int x3]) hF hM (c_X1_count e4) k_X1_count u203 u196 u197 rfl rfl t3 rfl hl.1 rfl (Nat.le_of_ble_eq_true rfl) dX1_standsAt_4 ⟨(Nat.le_of_ble_eq_true rfl), (Nat.le_of_ble_eq_true rfl)⟩ ⟨(Nat.le_of_ble_eq_true rfl), (Nat.le_of_ble_eq_true rfl)⟩ (fun H locs hM => ?_)
      refine lv_icmp_ge (tgt := 30) hx hb dX1_standsAt_7 (by decide) (fun c6 => ?_) (fun c6 => ?_)
      · replace h := (if_pos c6).symm.trans h
        refine lv_iconst (v := 1) hx hb dX1_standsAt_30 (by decide) ?_
        rw [← (Option.some.inj h)]
        exact g_iret hF hM rfl rfl dX1_standsAt_31 (Nat.le_of_ble_eq_true rfl) (Nat.le_of_ble_eq_true rfl)
      · replace h := (if_neg c6).symm.trans h
        refine g_aload_n hx hb dX1_standsAt_10 rfl (lv_at hl 0 rfl) ?_
        refine lv_iload_n hx hb dX1_standsAt_11 rfl (lv_at hl 1 rfl) ?_
        refine lv_iload_n hx hb dX1_standsAt_12 rfl (lv_at hl 3 rfl) ?_
        refine lv_iadd hx hb dX1_standsAt_13 ?_
        refine g_aload_n hx hb dX1_standsAt_14 rfl (lv_at hl 2 rfl) ?_
        refine lv_iload_n hx hb dX1_standsAt_15 rfl (lv_at hl 3 rfl) ?_
        have g := gckE h
        clear h
        obtain ⟨t7, h⟩ := g
        have t7 := eq_of_beq t7
        have g := gbind h
        clear h
        obtain ⟨v9, e8, h⟩ := g
        refine g_callV (As := [.int (x1 + x3), va_rf x2, .int x3]) (rest := []) hF hM (c_X1_isAlike e8) k_X1_isAlike u332 u311 u312 rfl rfl t7 rfl hl.1 rfl (Nat.le_of_ble_eq_true rfl) dX1_standsAt_16 ⟨(Nat.le_of_ble_eq_true rfl), (Nat.le_of_ble_eq_true rfl)⟩ ⟨(Nat.le_of_ble_eq_true rfl), (Nat.le_of_ble_eq_true rfl)⟩ (fun H locs hM => ?_)
        refine lv_if_ne (tgt := 24) hx hb dX1_standsAt_19 (by decide) (fun c10 => ?_) (fun c10 => ?_)
        · replace h := (if_neg c10).symm.trans h
          refine lv_iinc (v := (x3 + 1)) (lv' := [(3, .int (x3 + 1)), (0, va_rf (some a0)), (1, .int x1), (2, va_rf x2)]) hx hb dX1_standsAt_24 hl (k := 3) rfl rfl (by decide) (by simp [rf_cat, ic_cat, lc_cat]) (fun ls hl => ?_)
          refine lv_goto (tgt := 2) hx hb dX1_standsAt_27 (by decide) ?_
          refine W.widen (k := 0) (n := 0) (Nat.le_of_ble_eq_true rfl) (Nat.le_of_ble_eq_true rfl) ?_
          exact ih _ _ _ h _ _ _ hM (lv_sub hl [1, 2, 3, 0] rfl)
        · replace h := (if_pos c10).symm.trans h
          refine lv_iconst (v := 0) hx hb dX1_standsAt_22 (by decide) ?_
          rw [← (Option.some.inj h)]
          exact g_iret hF hM rfl rfl dX1_standsAt_23 (Nat.le_of_ble_eq_true rfl) (Nat.le_of_ble_eq_true rfl)
  unfold f_X1_standsAt at h
  refine lv_iconst (v := 0) hx hb dX1_standsAt_0 (by decide) ?_
  refine lv_istore_n (i := 3) (lv' := [(3, .int 0), (0, va_rf (some a0)), (1, .int x1), (2, va_rf x2)]) hx hb dX1_standsAt_1 rfl hl (by decide) (by simp [rf_cat, ic_cat, lc_cat]) (fun ls hl => ?_)
  refine W.widen (k := 0) (n := 0) (Nat.le_of_ble_eq_true rfl) (Nat.le_of_ble_eq_true rfl) ?_
  exact JL2 gN _ _ _ h _ _ _ hM (lv_sub hl [1, 2, 3, 0] rfl)
abbrev rm_J9_floorMod_7cf53 : Room := { frames := 0, cells := 0, slots := 0, locals := 0 }
theorem k_J9_floorMod_7cf53 : gKc yJ9_floorMod_7cf53 cJ9_floorMod_7cf53 3 (some .int) 2 := ⟨u343, u78, by decide +kernel, by decide +kernel, by decide +kernel⟩
set_option maxHeartbeats 4000000 in
set_option maxRecDepth 100000 in
theorem c_J9_floorMod_7cf53 {l : Launch} {D : va_G} {Y : Nat → ClassId} {S : GS} {hs : Nat} {x0 : Int32} {x1 : Int32} {r : Int32} (h : f_J9_floorMod_7cf53 S x0 x1 = some r) : gMet l yJ9_floorMod_7cf53 (gWs yJ9_floorMod_7cf53 cJ9_floorMod_7cf53 3 (some .int)) rm_J9_floorMod_7cf53 [.int x0, .int x1] D Y S hs (some (.int r)) S hs := by
  refine g_ofW (by decide +kernel) (Or.inl ⟨(Nat.le_of_ble_eq_true rfl), (List.forall_mem_cons.mpr ⟨rfl, (List.forall_mem_cons.mpr ⟨rfl, (fun _ h => absurd h List.not_mem_nil)⟩)⟩)⟩) ?_
  intro p e s m args below meth c ls hsz hname hF hM hl
  have hl : lv_has ls 3 [(0, .int x0), (1, .int x1)] := by rw [g_args [.int x0, .int x1] 0 (List.forall_mem_cons.mpr ⟨rfl, (List.forall_mem_cons.mpr ⟨rfl, (fun _ h => absurd h List.not_mem_nil)⟩)⟩)] at hl; exact hl
  have hF : gF p s m args meth c RJ9 cJ9_floorMod_7cf53 3 (some .int) D Y (gA S hs) := hF
  have hx := hF.1
  have hb := hF.2.1
  have Jb18 : ∀ (x2 : Int32), f_J9_floorMod_7cf53_b18 S x2 = some r → ∀ (H : Heap) (locs : List Loc) (ls : Array Slot), gM D Y (gA S hs) s.heap S hs H locs → lv_has ls 3 [(2, .int x2)] → W p l e rm_J9_floorMod_7cf53 s m args below meth c H locs 0 0 (MQ below (gQ (some (.int r)) D Y S hs (gA S hs)) args s rm_J9_floorMod_7cf53.cells rm_J9_floorMod_7cf53.slots (gA S hs)) (F0 m 18 ls []) := by
    intro x2 h H locs ls hM hl
    unfold f_J9_floorMod_7cf53_b18 at h
    refine lv_iload_n hx hb dJ9_floorMod_7cf53_18 rfl (lv_at hl 0 rfl) ?_
    rw [← (Option.some.inj h)]
    exact g_iret hF hM rfl rfl dJ9_floorMod_7cf53_19 (Nat.le_of_ble_eq_true rfl) (Nat.le_of_ble_eq_true rfl)
  unfold f_J9_floorMod_7cf53 at h
  refine lv_iload_n hx hb dJ9_floorMod_7cf53_0 rfl (lv_at hl 0 rfl) ?_
  refine lv_iload_n hx hb dJ9_floorMod_7cf53_1 rfl (lv_at hl 1 rfl) ?_
  have g := gckE h
  clear h
  obtain ⟨q1, h⟩ := g
  refine lv_irem hx hb dJ9_floorMod_7cf53_2 (of_decide_eq_true q1) ?_
  refine lv_istore_n (i := 2) (lv' := [(2, .int (x0 - x0 / x1 * x1)), (0, .int x0), (1, .int x1)]) hx hb dJ9_floorMod_7cf53_3 rfl hl (by decide) rfl (fun ls hl => ?_)
  refine lv_iload_n hx hb dJ9_floorMod_7cf53_4 rfl (lv_at hl 1 rfl) ?_
  refine lv_iload_n hx hb dJ9_floorMod_7cf53_5 rfl (lv_at hl 2 rfl) ?_
  refine lv_ixor hx hb dJ9_floorMod_7cf53_6 ?_
  refine lv_if_ge (tgt := 18) hx hb dJ9_floorMod_7cf53_7 (by decide) (fun c2 => ?_) (fun c2 => ?_)
  · replace h := (if_pos c2).symm.trans h
    refine W.widen (k := 0) (n := 0) (Nat.le_of_ble_eq_true rfl) (Nat.le_of_ble_eq_true rfl) ?_
    exact Jb18 _ h _ _ _ hM (lv_sub hl [0] rfl)
  · replace h := (if_neg c2).symm.trans h
    refine lv_iload_n hx hb dJ9_floorMod_7cf53_10 rfl (lv_at hl 0 rfl) ?_
    refine lv_if_eq (tgt := 18) hx hb dJ9_floorMod_7cf53_11 (by decide) (fun c3 => ?_) (fun c3 => ?_)
    · replace h := (if_pos c3).symm.trans h
      refine W.widen (k := 0) (n := 0) (Nat.le_of_ble_eq_true rfl) (Nat.le_of_ble_eq_true rfl) ?_
      exact Jb18 _ h _ _ _ hM (lv_sub hl [0] rfl)
    · replace h := (if_neg c3).symm.trans h
      refine lv_iload_n hx hb dJ9_floorMod_7cf53_14 rfl (lv_at hl 0 rfl) ?_
      refine lv_iload_n hx hb dJ9_floorMod_7cf53_15 rfl (lv_at hl 2 rfl) ?_
      refine lv_iadd hx hb dJ9_floorMod_7cf53_16 ?_
      rw [← (Option.some.inj h)]
      exact g_iret hF hM rfl rfl dJ9_floorMod_7cf53_17 (Nat.le_of_ble_eq_true rfl) (Nat.le_of_ble_eq_true rfl)
abbrev rm_X3_moveRound : Room := { frames := 3, cells := 0, slots := 0, locals := 69 }
theorem k_X3_moveRound : gKc yX3_moveRound cX3_moveRound 5 none 3 := ⟨u340, u65, by decide +kernel, by decide +kernel, by decide +kernel⟩
set_option maxHeartbeats 4000000 in
set_option maxRecDepth 100000 in
theorem c_X3_moveRound {l : Launch} {D : va_G} {Y : Nat → ClassId} {S : GS} {hs : Nat} {a0 : Nat} {x1 : Int32} {x2 : Int32} {x3 : Int32} {S' : GS} (h : f_X3_moveRound S a0 x1 x2 x3 = some S') : gMet l yX3_moveRound (gWs yX3_moveRound cX3_moveRound 5 none) rm_X3_moveRound [va_rf (some a0), .int x1, .int x2, .int x3] D Y S hs none S' hs := by
  refine g_ofW (by decide +kernel) (Or.inl ⟨(Nat.le_of_ble_eq_true rfl), (List.forall_mem_cons.mpr ⟨rf_cat _, (List.forall_mem_cons.mpr ⟨rfl, (List.forall_mem_cons.mpr ⟨rfl, (List.forall_mem_cons.mpr ⟨rfl, (fun _ h => absurd h List.not_mem_nil)⟩)⟩)⟩)⟩)⟩) ?_
  intro p e s m args below meth c ls hsz hname hF hM hl
  have hl : lv_has ls 5 [(0, va_rf (some a0)), (1, .int x1), (2, .int x2), (3, .int x3)] := by rw [g_args [va_rf (some a0), .int x1, .int x2, .int x3] 0 (List.forall_mem_cons.mpr ⟨rf_cat _, (List.forall_mem_cons.mpr ⟨rfl, (List.forall_mem_cons.mpr ⟨rfl, (List.forall_mem_cons.mpr ⟨rfl, (fun _ h => absurd h List.not_mem_nil)⟩)⟩)⟩)⟩)] at hl; exact hl
  have hF : gF p s m args meth c RX3 cX3_moveRound 5 none D Y (gA S hs) := hF
  have hx := hF.1
  have hb := hF.2.1
  unfold f_X3_moveRound at h
  refine lv_iload_n hx hb dX3_moveRound_0 rfl (lv_at hl 2 rfl) ?_
  refine lv_if_gt (tgt := 5) hx hb dX3_moveRound_1 (by decide) (fun c1 => ?_) (fun c1 => ?_)
  · replace h := (if_pos c1).symm.trans h
    refine lv_iload_n hx hb dX3_moveRound_5 rfl (lv_at hl 3 rfl) ?_
    refine lv_iload_n hx hb dX3_moveRound_6 rfl (lv_at hl 2 rfl) ?_
    have g := gbind h
    clear h
    obtain ⟨v3, e2, h⟩ := g
    refine g_callS (As := [.int x3, .int x2]) (rest := []) hF hM (c_J9_floorMod_7cf53 e2) k_J9_floorMod_7cf53 u341 u342 rfl hl.1 rfl (Nat.le_of_ble_eq_true rfl) dX3_moveRound_7 ⟨(Nat.le_of_ble_eq_true rfl), (Nat.le_of_ble_eq_true rfl)⟩ ⟨(Nat.le_of_ble_eq_true rfl), (Nat.le_of_ble_eq_true rfl)⟩ (fun H locs hM => ?_)
    refine lv_istore (i := 4) (lv' := [(4, .int v3), (0, va_rf (some a0)), (1, .int x1), (2, .int x2), (3, .int x3)]) hx hb dX3_moveRound_10 hl (by decide) rfl (fun ls hl => ?_)
    refine g_aload_n hx hb dX3_moveRound_12 rfl (lv_at hl 1 rfl) ?_
    refine lv_iload_n hx hb dX3_moveRound_13 rfl (lv_at hl 2 rfl) ?_
    refine lv_iload_n hx hb dX3_moveRound_14 rfl (lv_at hl 3 rfl) ?_
    have g := gckE h
    clear h
    obtain ⟨t4, h⟩ := g
    have t4 := eq_of_beq t4
    have g := gbind h
    clear h
    obtain ⟨S6, e5, h⟩ := g
    refine g_callV (As := [.int x1, .int x2]) (rest := []) hF hM (c_X3_reverse e5) k_X3_reverse u344 u325 u326 rfl rfl t4 rfl hl.1 rfl (Nat.le_of_ble_eq_true rfl) dX3_moveRound_15 ⟨(Nat.le_of_ble_eq_true rfl), (Nat.le_of_ble_eq_true rfl)⟩ ⟨(Nat.le_of_ble_eq_true rfl), (Nat.le_of_ble_eq_true rfl)⟩ (fun H locs hM => ?_)
    refine g_aload_n hx hb dX3_moveRound_18 rfl (lv_at hl 1 rfl) ?_
    refine lv_iload_n hx hb dX3_moveRound_19 rfl (lv_at hl 2 rfl) ?_
    refine lv_iload hx hb dX3_moveRound_20 (lv_at hl 0 rfl) ?_
    have g := gckE h
    clear h
    obtain ⟨t7, h⟩ := g
    have t7 := eq_of_beq t7
    have g := gbind h
    clear h
    obtain ⟨S9, e8, h⟩ := g
    refine g_callV (As := [.int x1, .int v3]) (rest := []) hF hM (c_X3_reverse e8) k_X3_reverse u344 u325 u326 rfl rfl t7 rfl hl.1 rfl (Nat.le_of_ble_eq_true rfl) dX3_moveRound_22 ⟨(Nat.le_of_ble_eq_true rfl), (Nat.le_of_ble_eq_true rfl)⟩ ⟨(Nat.le_of_ble_eq_true rfl), (Nat.le_of_ble_eq_true rfl)⟩ (fun H locs hM => ?_)
    refine g_aload_n hx hb dX3_moveRound_25 rfl (lv_at hl 1 rfl) ?_
    refine lv_iload_n hx hb dX3_moveRound_26 rfl (lv_at hl 2 rfl) ?_
    refine lv_iload hx hb dX3_moveRound_27 (lv_at hl 0 rfl) ?_
    refine lv_iadd hx hb dX3_moveRound_29 ?_
    refine lv_iload_n hx hb dX3_moveRound_30 rfl (lv_at hl 3 rfl) ?_
    refine lv_iload hx hb dX3_moveRound_31 (lv_at hl 0 rfl) ?_
    refine lv_isub hx hb dX3_moveRound_33 ?_
    have g := gckE h
    clear h
    obtain ⟨t10, h⟩ := g
    have t10 := eq_of_beq t10
    have g := gbind h
    clear h
    obtain ⟨S12, e11, h⟩ := g
    refine g_callV (As := [.int (x1 + v3), .int (x2 - v3)]) (rest := []) hF hM (c_X3_reverse e11) k_X3_reverse u344 u325 u326 rfl rfl t10 rfl hl.1 rfl (Nat.le_of_ble_eq_true rfl) dX3_moveRound_34 ⟨(Nat.le_of_ble_eq_true rfl), (Nat.le_of_ble_eq_true rfl)⟩ ⟨(Nat.le_of_ble_eq_true rfl), (Nat.le_of_ble_eq_true rfl)⟩ (fun H locs hM => ?_)
    rw [← (Option.some.inj h)]
    exact g_vret hF hM rfl dX3_moveRound_37 (Nat.le_of_ble_eq_true rfl) (Nat.le_of_ble_eq_true rfl)
  · replace h := (if_neg c1).symm.trans h
    rw [← (Option.some.inj h)]
    exact g_vret hF hM rfl dX3_moveRound_4 (Nat.le_of_ble_eq_true rfl) (Nat.le_of_ble_eq_true rfl)
abbrev rm_X1_searchKey : Room := { frames := 2, cells := 0, slots := 0, locals := 42 }
theorem k_X1_searchKey : gKc yX1_searchKey cX1_searchKey 4 (some .int) 1 := ⟨u353, u64, by decide +kernel, by decide +kernel, by decide +kernel⟩
set_option maxHeartbeats 4000000 in
set_option maxRecDepth 100000 in
theorem c_X1_searchKey {l : Launch} {D : va_G} {Y : Nat → ClassId} {S : GS} {hs : Nat} {a0 : Nat} {x1 : Int32} {r : Int32} (h : f_X1_searchKey S a0 x1 = some r) : gMet l yX1_searchKey (gWs yX1_searchKey cX1_searchKey 4 (some .int)) rm_X1_searchKey [va_rf (some a0), .int x1] D Y S hs (some (.int r)) S hs := by
  refine g_ofW (by decide +kernel) (Or.inl ⟨(Nat.le_of_ble_eq_true rfl), (List.forall_mem_cons.mpr ⟨rf_cat _, (List.forall_mem_cons.mpr ⟨rfl, (fun _ h => absurd h List.not_mem_nil)⟩)⟩)⟩) ?_
  intro p e s m args below meth c ls hsz hname hF hM hl
  have hl : lv_has ls 4 [(0, va_rf (some a0)), (1, .int x1)] := by rw [g_args [va_rf (some a0), .int x1] 0 (List.forall_mem_cons.mpr ⟨rf_cat _, (List.forall_mem_cons.mpr ⟨rfl, (fun _ h => absurd h List.not_mem_nil)⟩)⟩)] at hl; exact hl
  have hF : gF p s m args meth c RX1 cX1_searchKey 4 (some .int) D Y (gA S hs) := hF
  have hx := hF.1
  have hb := hF.2.1
  have Jb47 : ∀ (x2 : Int32) (s0 : Int32), f_X1_searchKey_b47 S a0 x2 s0 = some r → ∀ (H : Heap) (locs : List Loc) (ls : Array Slot), gM D Y (gA S hs) s.heap S hs H locs → lv_has ls 4 [(2, .int x2)] → W p l e rm_X1_searchKey s m args below meth c H locs 0 0 (MQ below (gQ (some (.int r)) D Y S hs (gA S hs)) args s rm_X1_searchKey.cells rm_X1_searchKey.slots (gA S hs)) (F0 m 47 ls [.int s0]) := by
    intro x2 s0 h H locs ls hM hl
    unfold f_X1_searchKey_b47 at h
    refine lv_istore_n (i := 3) (lv' := [(3, .int s0), (2, .int x2)]) hx hb dX1_searchKey_47 rfl hl (by decide) rfl (fun ls hl => ?_)
    refine lv_iload_n hx hb dX1_searchKey_48 rfl (lv_at hl 0 rfl) ?_
    refine lv_if_eq (tgt := 57) hx hb dX1_searchKey_49 (by decide) (fun c9 => ?_) (fun c9 => ?_)
    · replace h := (if_pos c9).symm.trans h
      refine lv_iconst (v := (-1)) hx hb dX1_searchKey_57 (by decide) ?_
      refine lv_iload_n hx hb dX1_searchKey_58 rfl (lv_at hl 1 rfl) ?_
      refine lv_isub hx hb dX1_searchKey_59 ?_
      rw [← (Option.some.inj h)]
      exact g_iret hF hM rfl rfl dX1_searchKey_60 (Nat.le_of_ble_eq_true rfl) (Nat.le_of_ble_eq_true rfl)
    · replace h := (if_neg c9).symm.trans h
      refine lv_bipush (v := 100) hx hb dX1_searchKey_52 (by decide) ?_
      refine lv_goto (tgt := 60) hx hb dX1_searchKey_54 (by decide) ?_
      rw [← (Option.some.inj h)]
      exact g_iret hF hM rfl rfl dX1_searchKey_60 (Nat.le_of_ble_eq_true rfl) (Nat.le_of_ble_eq_true rfl)
  have Jb46 : ∀ (x2 : Int32), f_X1_searchKey_b46 S a0 x2 = some r → ∀ (H : Heap) (locs : List Loc) (ls : Array Slot), gM D Y (gA S hs) s.heap S hs H locs → lv_has ls 4 [(2, .int x2)] → W p l e rm_X1_searchKey s m args below meth c H locs 0 0 (MQ below (gQ (some (.int r)) D Y S hs (gA S hs)) args s rm_X1_searchKey.cells rm_X1_searchKey.slots (gA S hs)) (F0 m 46 ls []) := by
    intro x2 h H locs ls hM hl
    unfold f_X1_searchKey_b46 at h
    refine lv_iconst (v := 0) hx hb dX1_searchKey_46 (by decide) ?_
    refine W.widen (k := 0) (n := 0) (Nat.le_of_ble_eq_true rfl) (Nat.le_of_ble_eq_true rfl) ?_
    exact Jb47 _ _ h _ _ _ hM (lv_sub hl [0] rfl)
  have Jb25 : ∀ (x1 : Int32) (x2 : Int32), f_X1_searchKey_b25 S a0 x1 x2 = some r → ∀ (H : Heap) (locs : List Loc) (ls : Array Slot), gM D Y (gA S hs) s.heap S hs H locs → lv_has ls 4 [(0, va_rf (some a0)), (1, .int x1), (2, .int x2)] → W p l e rm_X1_searchKey s m args below meth c H locs 0 0 (MQ below (gQ (some (.int r)) D Y S hs (gA S hs)) args s rm_X1_searchKey.cells rm_X1_searchKey.slots (gA S hs)) (F0 m 25 ls []) := by
    intro x1 x2 h H locs ls hM hl
    unfold f_X1_searchKey_b25 at h
    refine lv_iload_n hx hb dX1_searchKey_25 rfl (lv_at hl 2 rfl) ?_
    refine g_aload_n hx hb dX1_searchKey_26 rfl (lv_at hl 0 rfl) ?_
    have g := gckE h
    clear h
    obtain ⟨t5, h⟩ := g
    have t5 := eq_of_beq t5
    have g := gbind h
    clear h
    obtain ⟨v7, e6, h⟩ := g
    refine g_callV (As := []) (rest := [.int x2]) hF hM (c_X1_count e6) k_X1_count u203 u196 u197 rfl rfl t5 rfl hl.1 rfl (Nat.le_of_ble_eq_true rfl) dX1_searchKey_27 ⟨(Nat.le_of_ble_eq_true rfl), (Nat.le_of_ble_eq_true rfl)⟩ ⟨(Nat.le_of_ble_eq_true rfl), (Nat.le_of_ble_eq_true rfl)⟩ (fun H locs hM => ?_)
    refine lv_icmp_ge (tgt := 46) hx hb dX1_searchKey_30 (by decide) (fun c8 => ?_) (fun c8 => ?_)
    · replace h := (if_pos c8).symm.trans h
      refine W.widen (k := 0) (n := 0) (Nat.le_of_ble_eq_true rfl) (Nat.le_of_ble_eq_true rfl) ?_
      exact Jb46 _ h _ _ _ hM (lv_sub hl [2] rfl)
    · replace h := (if_neg c8).symm.trans h
      refine g_aload_n hx hb dX1_searchKey_33 rfl (lv_at hl 0 rfl) ?_
      refine lv_iload_n hx hb dX1_searchKey_34 rfl (lv_at hl 2 rfl) ?_
      have g := gckE h
      clear h
      obtain ⟨t10, h⟩ := g
      have t10 := eq_of_beq t10
      have g := gbind h
      clear h
      obtain ⟨v12, e11, h⟩ := g
      refine g_callV (As := [.int x2]) (rest := []) hF hM (c_X1_keyOf e11) k_X1_keyOf u225 u226 u227 rfl rfl t10 rfl hl.1 rfl (Nat.le_of_ble_eq_true rfl) dX1_searchKey_35 ⟨(Nat.le_of_ble_eq_true rfl), (Nat.le_of_ble_eq_true rfl)⟩ ⟨(Nat.le_of_ble_eq_true rfl), (Nat.le_of_ble_eq_true rfl)⟩ (fun H locs hM => ?_)
      refine lv_iload_n hx hb dX1_searchKey_38 rfl (lv_at hl 1 rfl) ?_
      refine lv_icmp_ne (tgt := 46) hx hb dX1_searchKey_39 (by decide) (fun c13 => ?_) (fun c13 => ?_)
      · replace h := (if_neg c13).symm.trans h
        refine W.widen (k := 0) (n := 0) (Nat.le_of_ble_eq_true rfl) (Nat.le_of_ble_eq_true rfl) ?_
        exact Jb46 _ h _ _ _ hM (lv_sub hl [2] rfl)
      · replace h := (if_pos c13).symm.trans h
        refine lv_iconst (v := 1) hx hb dX1_searchKey_42 (by decide) ?_
        refine lv_goto (tgt := 47) hx hb dX1_searchKey_43 (by decide) ?_
        refine W.widen (k := 0) (n := 0) (Nat.le_of_ble_eq_true rfl) (Nat.le_of_ble_eq_true rfl) ?_
        exact Jb47 _ _ h _ _ _ hM (lv_sub hl [2] rfl)
  have JL2 : ∀ (n : Nat) (x1 : Int32) (x2 : Int32), f_X1_searchKey_L2 S a0 n x1 x2 = some r → ∀ (H : Heap) (locs : List Loc) (ls : Array Slot), gM D Y (gA S hs) s.heap S hs H locs → lv_has ls 4 [(0, va_rf (some a0)), (1, .int x1), (2, .int x2)] → W p l e rm_X1_searchKey s m args below meth c H locs 0 0 (MQ below (gQ (some (.int r)) D Y S hs (gA S hs)) args s rm_X1_searchKey.cells rm_X1_searchKey.slots (gA S hs)) (F0 m 2 ls []) := by
    intro n
    induction n with
    | zero => intro x1 x2 h; unfold f_X1_searchKey_L2 at h; exact nomatch h
    | succ n ih =>
      intro x1 x2 h H locs ls hM hl
      unfold f_X1_searchKey_L2 at h
      refine lv_iload_n hx hb dX1_searchKey_2 rfl (lv_at hl 2 rfl) ?_
      refine g_aload_n hx hb dX1_searchKey_3 rfl (lv_at hl 0 rfl) ?_
      have g := gckE h
      clear h
      obtain ⟨t1, h⟩ := g
      have t1 := eq_of_beq t1
      have g := gbind h
      clear h
      obtain ⟨v3, e2, h⟩ := g
      refine g_callV (As := []) (rest := [.int x2]) hF hM (c_X1_count e2) k_X1_count u203 u196 u197 rfl rfl t1 rfl hl.1 rfl (Nat.le_of_ble_eq_true rfl) dX1_searchKey_4 ⟨(Nat.le_of_ble_eq_true rfl), (Nat.le_of_ble_eq_true rfl)⟩ ⟨(Nat.le_of_ble_eq_true rfl), (Nat.le_of_ble_eq_true rfl)⟩ (fun H locs hM => ?_)
      refine lv_icmp_ge (tgt := 25) hx hb dX1_searchKey_7 (by decide) (fun c4 => ?_) (fun c4 => ?_)
      · replace h := (if_pos c4).symm.trans h
        refine W.widen (k := 0) (n := 0) (Nat.le_of_ble_eq_true rfl) (Nat.le_of_ble_eq_true rfl) ?_
        exact Jb25 _ _ h _ _ _ hM (lv_sub hl [0, 1, 2] rfl)
      · replace h := (if_neg c4).symm.trans h
        refine g_aload_n hx hb dX1_searchKey_10 rfl (lv_at hl 0 rfl) ?_
        refine lv_iload_n hx hb dX1_searchKey_11 rfl (lv_at hl 2 rfl) ?_
        have g := gckE h
        clear h
        obtain ⟨t14, h⟩ := g
        have t14 := eq_of_beq t14
        have g := gbind h
        clear h
        obtain ⟨v16, e15, h⟩ := g
        refine g_callV (As := [.int x2]) (rest := []) hF hM (c_X1_keyOf e15) k_X1_keyOf u225 u226 u227 rfl rfl t14 rfl hl.1 rfl (Nat.le_of_ble_eq_true rfl) dX1_searchKey_12 ⟨(Nat.le_of_ble_eq_true rfl), (Nat.le_of_ble_eq_true rfl)⟩ ⟨(Nat.le_of_ble_eq_true rfl), (Nat.le_of_ble_eq_true rfl)⟩ (fun H locs hM => ?_)
        refine lv_iload_n hx hb dX1_searchKey_15 rfl (lv_at hl 1 rfl) ?_
        refine lv_icmp_ge (tgt := 25) hx hb dX1_searchKey_16 (by decide) (fun c17 => ?_) (fun c17 => ?_)
        · replace h := (if_pos c17).symm.trans h
          refine W.widen (k := 0) (n := 0) (Nat.le_of_ble_eq_true rfl) (Nat.le_of_ble_eq_true rfl) ?_
          exact Jb25 _ _ h _ _ _ hM (lv_sub hl [0, 1, 2] rfl)
        · replace h := (if_neg c17).symm.trans h
          refine lv_iinc (v := (x2 + 1)) (lv' := [(2, .int (x2 + 1)), (0, va_rf (some a0)), (1, .int x1)]) hx hb dX1_searchKey_19 hl (k := 2) rfl rfl (by decide) rfl (fun ls hl => ?_)
          refine lv_goto (tgt := 2) hx hb dX1_searchKey_22 (by decide) ?_
          refine W.widen (k := 0) (n := 0) (Nat.le_of_ble_eq_true rfl) (Nat.le_of_ble_eq_true rfl) ?_
          exact ih _ _ h _ _ _ hM (lv_sub hl [1, 2, 0] rfl)
  unfold f_X1_searchKey at h
  refine lv_iconst (v := 0) hx hb dX1_searchKey_0 (by decide) ?_
  refine lv_istore_n (i := 2) (lv' := [(2, .int 0), (0, va_rf (some a0)), (1, .int x1)]) hx hb dX1_searchKey_1 rfl hl (by decide) rfl (fun ls hl => ?_)
  refine W.widen (k := 0) (n := 0) (Nat.le_of_ble_eq_true rfl) (Nat.le_of_ble_eq_true rfl) ?_
  exact JL2 gN _ _ h _ _ _ hM (lv_sub hl [1, 2, 0] rfl)
abbrev rm_X1_countKey : Room := { frames := 2, cells := 0, slots := 0, locals := 42 }
theorem k_X1_countKey : gKc yX1_countKey cX1_countKey 4 (some .int) 1 := ⟨u361, u64, by decide +kernel, by decide +kernel, by decide +kernel⟩
set_option maxHeartbeats 4000000 in
set_option maxRecDepth 100000 in
theorem c_X1_countKey {l : Launch} {D : va_G} {Y : Nat → ClassId} {S : GS} {hs : Nat} {a0 : Nat} {x1 : Int32} {r : Int32} (h : f_X1_countKey S a0 x1 = some r) : gMet l yX1_countKey (gWs yX1_countKey cX1_countKey 4 (some .int)) rm_X1_countKey [va_rf (some a0), .int x1] D Y S hs (some (.int r)) S hs := by
  refine g_ofW (by decide +kernel) (Or.inl ⟨(Nat.le_of_ble_eq_true rfl), (List.forall_mem_cons.mpr ⟨rf_cat _, (List.forall_mem_cons.mpr ⟨rfl, (fun _ h => absurd h List.not_mem_nil)⟩)⟩)⟩) ?_
  intro p e s m args below meth c ls hsz hname hF hM hl
  have hl : lv_has ls 4 [(0, va_rf (some a0)), (1, .int x1)] := by rw [g_args [va_rf (some a0), .int x1] 0 (List.forall_mem_cons.mpr ⟨rf_cat _, (List.forall_mem_cons.mpr ⟨rfl, (fun _ h => absurd h List.not_mem_nil)⟩)⟩)] at hl; exact hl
  have hF : gF p s m args meth c RX1 cX1_countKey 4 (some .int) D Y (gA S hs) := hF
  have hx := hF.1
  have hb := hF.2.1
  have Jb24 : ∀ (k4 : Int32 → Int32 → Int32 → Option (Int32)) (hk4 : ∀ (x1 : Int32) (x2 : Int32) (x3 : Int32), k4 x1 x2 x3 = some r → ∀ (H : Heap) (locs : List Loc) (ls : Array Slot), gM D Y (gA S hs) s.heap S hs H locs → lv_has ls 4 [(0, va_rf (some a0)), (1, .int x1), (2, .int x2), (3, .int x3)] → W p l e rm_X1_countKey s m args below meth c H locs 0 0 (MQ below (gQ (some (.int r)) D Y S hs (gA S hs)) args s rm_X1_countKey.cells rm_X1_countKey.slots (gA S hs)) (F0 m 4 ls [])) (x1 : Int32) (x2 : Int32) (x3 : Int32), f_X1_countKey_b24 k4 S a0 x1 x2 x3 = some r → ∀ (H : Heap) (locs : List Loc) (ls : Array Slot), gM D Y (gA S hs) s.heap S hs H locs → lv_has ls 4 [(0, va_rf (some a0)), (1, .int x1), (2, .int x2), (3, .int x3)] → W p l e rm_X1_countKey s m args below meth c H locs 0 0 (MQ below (gQ (some (.int r)) D Y S hs (gA S hs)) args s rm_X1_countKey.cells rm_X1_countKey.slots (gA S hs)) (F0 m 24 ls []) := by
    intro k4 hk4 x1 x2 x3 h H locs ls hM hl
    unfold f_X1_countKey_b24 at h
    refine lv_iinc (v := (x3 + 1)) (lv' := [(3, .int (x3 + 1)), (0, va_rf (some a0)), (1, .int x1), (2, .int x2)]) hx hb dX1_countKey_24 hl (k := 3) rfl rfl (by decide) rfl (fun ls hl => ?_)
    refine lv_goto (tgt := 4) hx hb dX1_countKey_27 (by decide) ?_
    refine W.widen (k := 0) (n := 0) (Nat.le_of_ble_eq_true rfl) (Nat.le_of_ble_eq_true rfl) ?_
    exact hk4 _ _ _ h _ _ _ hM (lv_sub hl [1, 2, 3, 0] rfl)
  have JL4 : ∀ (n : Nat) (x1 : Int32) (x2 : Int32) (x3 : Int32), f_X1_countKey_L4 S a0 n x1 x2 x3 = some r → ∀ (H : Heap) (locs : List Loc) (ls : Array Slot), gM D Y (gA S hs) s.heap S hs H locs → lv_has ls 4 [(0, va_rf (some a0)), (1, .int x1), (2, .int x2), (3, .int x3)] → W p l e rm_X1_countKey s m args below meth c H locs 0 0 (MQ below (gQ (some (.int r)) D Y S hs (gA S hs)) args s rm_X1_countKey.cells rm_X1_countKey.slots (gA S hs)) (F0 m 4 ls []) := by
    intro n
    induction n with
    | zero => intro x1 x2 x3 h; unfold f_X1_countKey_L4 at h; exact nomatch h
    | succ n ih =>
      intro x1 x2 x3 h H locs ls hM hl
      unfold f_X1_countKey_L4 at h
      refine lv_iload_n hx hb dX1_countKey_4 rfl (lv_at hl 3 rfl) ?_
      refine g_aload_n hx hb dX1_countKey_5 rfl (lv_at hl 0 rfl) ?_
      have g := gckE h
      clear h
      obtain ⟨t1, h⟩ := g
      have t1 := eq_of_beq t1
      have g := gbind h
      clear h
      obtain ⟨v3, e2, h⟩ := g
      refine g_callV (As := []) (rest := [.int x3]) hF hM (c_X1_count e2) k_X1_count u203 u196 u197 rfl rfl t1 rfl hl.1 rfl (Nat.le_of_ble_eq_true rfl) dX1_countKey_6 ⟨(Nat.le_of_ble_eq_true rfl), (Nat.le_of_ble_eq_true rfl)⟩ ⟨(Nat.le_of_ble_eq_true rfl), (Nat.le_of_ble_eq_true rfl)⟩ (fun H locs hM => ?_)
      refine lv_icmp_ge (tgt := 30) hx hb dX1_countKey_9 (by decide) (fun c4 => ?_) (fun c4 => ?_)
      · replace h := (if_pos c4).symm.trans h
        refine lv_iload_n hx hb dX1_countKey_30 rfl (lv_at hl 2 rfl) ?_
        rw [← (Option.some.inj h)]
        exact g_iret hF hM rfl rfl dX1_countKey_31 (Nat.le_of_ble_eq_true rfl) (Nat.le_of_ble_eq_true rfl)
      · replace h := (if_neg c4).symm.trans h
        refine g_aload_n hx hb dX1_countKey_12 rfl (lv_at hl 0 rfl) ?_
        refine lv_iload_n hx hb dX1_countKey_13 rfl (lv_at hl 3 rfl) ?_
        have g := gckE h
        clear h
        obtain ⟨t5, h⟩ := g
        have t5 := eq_of_beq t5
        have g := gbind h
        clear h
        obtain ⟨v7, e6, h⟩ := g
        refine g_callV (As := [.int x3]) (rest := []) hF hM (c_X1_keyOf e6) k_X1_keyOf u225 u226 u227 rfl rfl t5 rfl hl.1 rfl (Nat.le_of_ble_eq_true rfl) dX1_countKey_14 ⟨(Nat.le_of_ble_eq_true rfl), (Nat.le_of_ble_eq_true rfl)⟩ ⟨(Nat.le_of_ble_eq_true rfl), (Nat.le_of_ble_eq_true rfl)⟩ (fun H locs hM => ?_)
        refine lv_iload_n hx hb dX1_countKey_17 rfl (lv_at hl 1 rfl) ?_
        refine lv_icmp_ne (tgt := 24) hx hb dX1_countKey_18 (by decide) (fun c8 => ?_) (fun c8 => ?_)
        · replace h := (if_neg c8).symm.trans h
          refine W.widen (k := 0) (n := 0) (Nat.le_of_ble_eq_true rfl) (Nat.le_of_ble_eq_true rfl) ?_
          exact Jb24 _ ih _ _ _ h _ _ _ hM (lv_sub hl [0, 1, 2, 3] rfl)
        · replace h := (if_pos c8).symm.trans h
          refine lv_iinc (v := (x2 + 1)) (lv' := [(2, .int (x2 + 1)), (0, va_rf (some a0)), (1, .int x1), (3, .int x3)]) hx hb dX1_countKey_21 hl (k := 2) rfl rfl (by decide) rfl (fun ls hl => ?_)
          refine W.widen (k := 0) (n := 0) (Nat.le_of_ble_eq_true rfl) (Nat.le_of_ble_eq_true rfl) ?_
          exact Jb24 _ ih _ _ _ h _ _ _ hM (lv_sub hl [1, 2, 0, 3] rfl)
  unfold f_X1_countKey at h
  refine lv_iconst (v := 0) hx hb dX1_countKey_0 (by decide) ?_
  refine lv_istore_n (i := 2) (lv' := [(2, .int 0), (0, va_rf (some a0)), (1, .int x1)]) hx hb dX1_countKey_1 rfl hl (by decide) rfl (fun ls hl => ?_)
  refine lv_iconst (v := 0) hx hb dX1_countKey_2 (by decide) ?_
  refine lv_istore_n (i := 3) (lv' := [(3, .int 0), (2, .int 0), (0, va_rf (some a0)), (1, .int x1)]) hx hb dX1_countKey_3 rfl hl (by decide) rfl (fun ls hl => ?_)
  refine W.widen (k := 0) (n := 0) (Nat.le_of_ble_eq_true rfl) (Nat.le_of_ble_eq_true rfl) ?_
  exact JL4 gN _ _ _ h _ _ _ hM (lv_sub hl [2, 3, 1, 0] rfl)
abbrev rm_X1_isListLike : Room := { frames := 4, cells := 0, slots := 0, locals := 88 }
theorem k_X1_isListLike : gKc yX1_isListLike cX1_isListLike 2 (some .boolean) 1 := ⟨u381, u64, by decide +kernel, by decide +kernel, by decide +kernel⟩
set_option maxHeartbeats 4000000 in
set_option maxRecDepth 100000 in
theorem c_X1_isListLike {l : Launch} {D : va_G} {Y : Nat → ClassId} {S : GS} {hs : Nat} {a0 : Nat} {x1 : Option Nat} {r : Int32} (h : f_X1_isListLike S a0 x1 = some r) : gMet l yX1_isListLike (gWs yX1_isListLike cX1_isListLike 2 (some .boolean)) rm_X1_isListLike [va_rf (some a0), va_rf x1] D Y S hs (some (.int r)) S hs := by
  refine g_ofW (by decide +kernel) (Or.inl ⟨(Nat.le_of_ble_eq_true rfl), (List.forall_mem_cons.mpr ⟨rf_cat _, (List.forall_mem_cons.mpr ⟨rf_cat _, (fun _ h => absurd h List.not_mem_nil)⟩)⟩)⟩) ?_
  intro p e s m args below meth c ls hsz hname hF hM hl
  have hl : lv_has ls 2 [(0, va_rf (some a0)), (1, va_rf x1)] := by rw [g_args [va_rf (some a0), va_rf x1] 0 (List.forall_mem_cons.mpr ⟨rf_cat _, (List.forall_mem_cons.mpr ⟨rf_cat _, (fun _ h => absurd h List.not_mem_nil)⟩)⟩)] at hl; exact hl
  have hF : gF p s m args meth c RX1 cX1_isListLike 2 (some .boolean) D Y (gA S hs) := hF
  have hx := hF.1
  have hb := hF.2.1
  unfold f_X1_isListLike at h
  refine g_aload_n hx hb dX1_isListLike_0 rfl (lv_at hl 0 rfl) ?_
  have g := gckE h
  clear h
  obtain ⟨t1, h⟩ := g
  have t1 := eq_of_beq t1
  have g := gbind h
  clear h
  obtain ⟨v3, e2, h⟩ := g
  refine g_callV (As := []) (rest := []) hF hM (c_X1_count e2) k_X1_count u203 u196 u197 rfl rfl t1 rfl hl.1 rfl (Nat.le_of_ble_eq_true rfl) dX1_isListLike_1 ⟨(Nat.le_of_ble_eq_true rfl), (Nat.le_of_ble_eq_true rfl)⟩ ⟨(Nat.le_of_ble_eq_true rfl), (Nat.le_of_ble_eq_true rfl)⟩ (fun H locs hM => ?_)
  refine g_aload_n hx hb dX1_isListLike_4 rfl (lv_at hl 1 rfl) ?_
  have g := gbind h
  clear h
  obtain ⟨a4, e5, h⟩ := g
  have t6 := (gtk_of e5).2
  rw [(gtk_of e5).1]
  have g := gbind h
  clear h
  obtain ⟨v8, e7, h⟩ := g
  refine g_callV (As := []) (rest := [.int v3]) hF hM (c_X1_count e7) k_X1_count u203 u196 u197 rfl rfl t6 rfl hl.1 rfl (Nat.le_of_ble_eq_true rfl) dX1_isListLike_5 ⟨(Nat.le_of_ble_eq_true rfl), (Nat.le_of_ble_eq_true rfl)⟩ ⟨(Nat.le_of_ble_eq_true rfl), (Nat.le_of_ble_eq_true rfl)⟩ (fun H locs hM => ?_)
  refine lv_icmp_ne (tgt := 24) hx hb dX1_isListLike_8 (by decide) (fun c9 => ?_) (fun c9 => ?_)
  · replace h := (if_neg c9).symm.trans h
    refine lv_iconst (v := 0) hx hb dX1_isListLike_24 (by decide) ?_
    rw [← (Option.some.inj h)]
    exact g_iret hF hM rfl rfl dX1_isListLike_25 (Nat.le_of_ble_eq_true rfl) (Nat.le_of_ble_eq_true rfl)
  · replace h := (if_pos c9).symm.trans h
    refine g_aload_n hx hb dX1_isListLike_11 rfl (lv_at hl 0 rfl) ?_
    refine lv_iconst (v := 0) hx hb dX1_isListLike_12 (by decide) ?_
    refine g_aload_n hx hb dX1_isListLike_13 rfl (lv_at hl 1 rfl) ?_
    have g := gckE h
    clear h
    obtain ⟨t10, h⟩ := g
    have t10 := eq_of_beq t10
    have g := gbind h
    clear h
    obtain ⟨v12, e11, h⟩ := g
    refine g_callV (As := [.int 0, va_rf x1]) (rest := []) hF hM (c_X1_standsAt e11) k_X1_standsAt u382 u329 u330 rfl rfl t10 rfl hl.1 rfl (Nat.le_of_ble_eq_true rfl) dX1_isListLike_14 ⟨(Nat.le_of_ble_eq_true rfl), (Nat.le_of_ble_eq_true rfl)⟩ ⟨(Nat.le_of_ble_eq_true rfl), (Nat.le_of_ble_eq_true rfl)⟩ (fun H locs hM => ?_)
    refine lv_if_eq (tgt := 24) hx hb dX1_isListLike_17 (by decide) (fun c13 => ?_) (fun c13 => ?_)
    · replace h := (if_pos c13).symm.trans h
      refine lv_iconst (v := 0) hx hb dX1_isListLike_24 (by decide) ?_
      rw [← (Option.some.inj h)]
      exact g_iret hF hM rfl rfl dX1_isListLike_25 (Nat.le_of_ble_eq_true rfl) (Nat.le_of_ble_eq_true rfl)
    · replace h := (if_neg c13).symm.trans h
      refine lv_iconst (v := 1) hx hb dX1_isListLike_20 (by decide) ?_
      refine lv_goto (tgt := 25) hx hb dX1_isListLike_21 (by decide) ?_
      rw [← (Option.some.inj h)]
      exact g_iret hF hM rfl rfl dX1_isListLike_25 (Nat.le_of_ble_eq_true rfl) (Nat.le_of_ble_eq_true rfl)
abbrev rm_X1_hashOf : Room := { frames := 2, cells := 0, slots := 0, locals := 42 }
theorem k_X1_hashOf : gKc yX1_hashOf cX1_hashOf 2 (some .int) 1 := ⟨u224, u64, by decide +kernel, by decide +kernel, by decide +kernel⟩
set_option maxHeartbeats 4000000 in
set_option maxRecDepth 100000 in
theorem c_X1_hashOf {l : Launch} {D : va_G} {Y : Nat → ClassId} {S : GS} {hs : Nat} {a0 : Nat} {x1 : Int32} {r : Int32} (h : f_X1_hashOf S a0 x1 = some r) : gMet l yX1_hashOf (gWs yX1_hashOf cX1_hashOf 2 (some .int)) rm_X1_hashOf [va_rf (some a0), .int x1] D Y S hs (some (.int r)) S hs := by
  refine g_ofW (by decide +kernel) (Or.inl ⟨(Nat.le_of_ble_eq_true rfl), (List.forall_mem_cons.mpr ⟨rf_cat _, (List.forall_mem_cons.mpr ⟨rfl, (fun _ h => absurd h List.not_mem_nil)⟩)⟩)⟩) ?_
  intro p e s m args below meth c ls hsz hname hF hM hl
  have hl : lv_has ls 2 [(0, va_rf (some a0)), (1, .int x1)] := by rw [g_args [va_rf (some a0), .int x1] 0 (List.forall_mem_cons.mpr ⟨rf_cat _, (List.forall_mem_cons.mpr ⟨rfl, (fun _ h => absurd h List.not_mem_nil)⟩)⟩)] at hl; exact hl
  have hF : gF p s m args meth c RX1 cX1_hashOf 2 (some .int) D Y (gA S hs) := hF
  have hx := hF.1
  have hb := hF.2.1
  unfold f_X1_hashOf at h
  refine lv_bipush (v := 31) hx hb dX1_hashOf_0 (by decide) ?_
  refine g_aload_n hx hb dX1_hashOf_2 rfl (lv_at hl 0 rfl) ?_
  refine lv_iload_n hx hb dX1_hashOf_3 rfl (lv_at hl 1 rfl) ?_
  have g := gckE h
  clear h
  obtain ⟨t1, h⟩ := g
  have t1 := eq_of_beq t1
  have g := gbind h
  clear h
  obtain ⟨v3, e2, h⟩ := g
  refine g_callV (As := [.int x1]) (rest := [.int 31]) hF hM (c_X1_keyOf e2) k_X1_keyOf u225 u226 u227 rfl rfl t1 rfl hl.1 rfl (Nat.le_of_ble_eq_true rfl) dX1_hashOf_4 ⟨(Nat.le_of_ble_eq_true rfl), (Nat.le_of_ble_eq_true rfl)⟩ ⟨(Nat.le_of_ble_eq_true rfl), (Nat.le_of_ble_eq_true rfl)⟩ (fun H locs hM => ?_)
  refine lv_imul hx hb dX1_hashOf_7 ?_
  refine g_aload_n hx hb dX1_hashOf_8 rfl (lv_at hl 0 rfl) ?_
  refine lv_iload_n hx hb dX1_hashOf_9 rfl (lv_at hl 1 rfl) ?_
  have g := gckE h
  clear h
  obtain ⟨t4, h⟩ := g
  have t4 := eq_of_beq t4
  have g := gbind h
  clear h
  obtain ⟨v6, e5, h⟩ := g
  refine g_callV (As := [.int x1]) (rest := [.int (31 * v3)]) hF hM (c_X1_markOf e5) k_X1_markOf u233 u234 u235 rfl rfl t4 rfl hl.1 rfl (Nat.le_of_ble_eq_true rfl) dX1_hashOf_10 ⟨(Nat.le_of_ble_eq_true rfl), (Nat.le_of_ble_eq_true rfl)⟩ ⟨(Nat.le_of_ble_eq_true rfl), (Nat.le_of_ble_eq_true rfl)⟩ (fun H locs hM => ?_)
  refine lv_iadd hx hb dX1_hashOf_13 ?_
  rw [← (Option.some.inj h)]
  exact g_iret hF hM rfl rfl dX1_hashOf_14 (Nat.le_of_ble_eq_true rfl) (Nat.le_of_ble_eq_true rfl)
abbrev rm_X1_listHash : Room := { frames := 3, cells := 0, slots := 0, locals := 63 }
theorem k_X1_listHash : gKc yX1_listHash cX1_listHash 3 (some .int) 0 := ⟨u393, u64, by decide +kernel, by decide +kernel, by decide +kernel⟩
set_option maxHeartbeats 4000000 in
set_option maxRecDepth 100000 in
theorem c_X1_listHash {l : Launch} {D : va_G} {Y : Nat → ClassId} {S : GS} {hs : Nat} {a0 : Nat} {r : Int32} (h : f_X1_listHash S a0 = some r) : gMet l yX1_listHash (gWs yX1_listHash cX1_listHash 3 (some .int)) rm_X1_listHash [va_rf (some a0)] D Y S hs (some (.int r)) S hs := by
  refine g_ofW (by decide +kernel) (Or.inl ⟨(Nat.le_of_ble_eq_true rfl), (List.forall_mem_cons.mpr ⟨rf_cat _, (fun _ h => absurd h List.not_mem_nil)⟩)⟩) ?_
  intro p e s m args below meth c ls hsz hname hF hM hl
  have hl : lv_has ls 3 [(0, va_rf (some a0))] := by rw [g_args [va_rf (some a0)] 0 (List.forall_mem_cons.mpr ⟨rf_cat _, (fun _ h => absurd h List.not_mem_nil)⟩)] at hl; exact hl
  have hF : gF p s m args meth c RX1 cX1_listHash 3 (some .int) D Y (gA S hs) := hF
  have hx := hF.1
  have hb := hF.2.1
  have JL4 : ∀ (n : Nat) (x1 : Int32) (x2 : Int32), f_X1_listHash_L4 S a0 n x1 x2 = some r → ∀ (H : Heap) (locs : List Loc) (ls : Array Slot), gM D Y (gA S hs) s.heap S hs H locs → lv_has ls 3 [(0, va_rf (some a0)), (1, .int x1), (2, .int x2)] → W p l e rm_X1_listHash s m args below meth c H locs 0 0 (MQ below (gQ (some (.int r)) D Y S hs (gA S hs)) args s rm_X1_listHash.cells rm_X1_listHash.slots (gA S hs)) (F0 m 4 ls []) := by
    intro n
    induction n with
    | zero => intro x1 x2 h; unfold f_X1_listHash_L4 at h; exact nomatch h
    | succ n ih =>
      intro x1 x2 h H locs ls hM hl
      unfold f_X1_listHash_L4 at h
      refine lv_iload_n hx hb dX1_listHash_4 rfl (lv_at hl 2 rfl) ?_
      refine g_aload_n hx hb dX1_listHash_5 rfl (lv_at hl 0 rfl) ?_
      have g := gckE h
      clear h
      obtain ⟨t1, h⟩ := g
      have t1 := eq_of_beq t1
      have g := gbind h
      clear h
      obtain ⟨v3, e2, h⟩ := g
      refine g_callV (As := []) (rest := [.int x2]) hF hM (c_X1_count e2) k_X1_count u203 u196 u197 rfl rfl t1 rfl hl.1 rfl (Nat.le_of_ble_eq_true rfl) dX1_listHash_6 ⟨(Nat.le_of_ble_eq_true rfl), (Nat.le_of_ble_eq_true rfl)⟩ ⟨(Nat.le_of_ble_eq_true rfl), (Nat.le_of_ble_eq_true rfl)⟩ (fun H locs hM => ?_)
      refine lv_icmp_ge (tgt := 29) hx hb dX1_listHash_9 (by decide) (fun c4 => ?_) (fun c4 => ?_)
      · replace h := (if_pos c4).symm.trans h
        refine lv_iload_n hx hb dX1_listHash_29 rfl (lv_at hl 1 rfl) ?_
        rw [← (Option.some.inj h)]
        exact g_iret hF hM rfl rfl dX1_listHash_30 (Nat.le_of_ble_eq_true rfl) (Nat.le_of_ble_eq_true rfl)
      · replace h := (if_neg c4).symm.trans h
        refine lv_bipush (v := 31) hx hb dX1_listHash_12 (by decide) ?_
        refine lv_iload_n hx hb dX1_listHash_14 rfl (lv_at hl 1 rfl) ?_
        refine lv_imul hx hb dX1_listHash_15 ?_
        refine g_aload_n hx hb dX1_listHash_16 rfl (lv_at hl 0 rfl) ?_
        refine lv_iload_n hx hb dX1_listHash_17 rfl (lv_at hl 2 rfl) ?_
        have g := gckE h
        clear h
        obtain ⟨t5, h⟩ := g
        have t5 := eq_of_beq t5
        have g := gbind h
        clear h
        obtain ⟨v7, e6, h⟩ := g
        refine g_callV (As := [.int x2]) (rest := [.int (31 * x1)]) hF hM (c_X1_hashOf e6) k_X1_hashOf u221 u222 u223 rfl rfl t5 rfl hl.1 rfl (Nat.le_of_ble_eq_true rfl) dX1_listHash_18 ⟨(Nat.le_of_ble_eq_true rfl), (Nat.le_of_ble_eq_true rfl)⟩ ⟨(Nat.le_of_ble_eq_true rfl), (Nat.le_of_ble_eq_true rfl)⟩ (fun H locs hM => ?_)
        refine lv_iadd hx hb dX1_listHash_21 ?_
        refine lv_istore_n (i := 1) (lv' := [(1, .int ((31 * x1) + v7)), (0, va_rf (some a0)), (2, .int x2)]) hx hb dX1_listHash_22 rfl hl (by decide) rfl (fun ls hl => ?_)
        refine lv_iinc (v := (x2 + 1)) (lv' := [(2, .int (x2 + 1)), (1, .int ((31 * x1) + v7)), (0, va_rf (some a0))]) hx hb dX1_listHash_23 hl (k := 2) rfl rfl (by decide) rfl (fun ls hl => ?_)
        refine lv_goto (tgt := 4) hx hb dX1_listHash_26 (by decide) ?_
        refine W.widen (k := 0) (n := 0) (Nat.le_of_ble_eq_true rfl) (Nat.le_of_ble_eq_true rfl) ?_
        exact ih _ _ h _ _ _ hM (lv_sub hl [2, 1, 0] rfl)
  unfold f_X1_listHash at h
  refine lv_iconst (v := 1) hx hb dX1_listHash_0 (by decide) ?_
  refine lv_istore_n (i := 1) (lv' := [(1, .int 1), (0, va_rf (some a0))]) hx hb dX1_listHash_1 rfl hl (by decide) rfl (fun ls hl => ?_)
  refine lv_iconst (v := 0) hx hb dX1_listHash_2 (by decide) ?_
  refine lv_istore_n (i := 2) (lv' := [(2, .int 0), (1, .int 1), (0, va_rf (some a0))]) hx hb dX1_listHash_3 rfl hl (by decide) rfl (fun ls hl => ?_)
  refine W.widen (k := 0) (n := 0) (Nat.le_of_ble_eq_true rfl) (Nat.le_of_ble_eq_true rfl) ?_
  exact JL4 gN _ _ h _ _ _ hM (lv_sub hl [2, 1, 0] rfl)
abbrev rm_X1_isMap : Room := { frames := 0, cells := 0, slots := 0, locals := 0 }
theorem k_X1_isMap : gKc yX1_isMap cX1_isMap 1 (some .boolean) 0 := ⟨u207, u64, by decide +kernel, by decide +kernel, by decide +kernel⟩
set_option maxHeartbeats 4000000 in
set_option maxRecDepth 100000 in
theorem c_X1_isMap {l : Launch} {D : va_G} {Y : Nat → ClassId} {S : GS} {hs : Nat} {a0 : Nat} {r : Int32} (h : f_X1_isMap S a0 = some r) : gMet l yX1_isMap (gWs yX1_isMap cX1_isMap 1 (some .boolean)) rm_X1_isMap [va_rf (some a0)] D Y S hs (some (.int r)) S hs := by
  refine g_ofW (by decide +kernel) (Or.inl ⟨(Nat.le_of_ble_eq_true rfl), (List.forall_mem_cons.mpr ⟨rf_cat _, (fun _ h => absurd h List.not_mem_nil)⟩)⟩) ?_
  intro p e s m args below meth c ls hsz hname hF hM hl
  have hl : lv_has ls 1 [(0, va_rf (some a0))] := by rw [g_args [va_rf (some a0)] 0 (List.forall_mem_cons.mpr ⟨rf_cat _, (fun _ h => absurd h List.not_mem_nil)⟩)] at hl; exact hl
  have hF : gF p s m args meth c RX1 cX1_isMap 1 (some .boolean) D Y (gA S hs) := hF
  have hx := hF.1
  have hb := hF.2.1
  have Jb18 : f_X1_isMap_b18 S a0 = some r → ∀ (H : Heap) (locs : List Loc) (ls : Array Slot), gM D Y (gA S hs) s.heap S hs H locs → lv_has ls 1 [] → W p l e rm_X1_isMap s m args below meth c H locs 0 0 (MQ below (gQ (some (.int r)) D Y S hs (gA S hs)) args s rm_X1_isMap.cells rm_X1_isMap.slots (gA S hs)) (F0 m 18 ls []) := by
    intro  h H locs ls hM hl
    unfold f_X1_isMap_b18 at h
    refine lv_iconst (v := 1) hx hb dX1_isMap_18 (by decide) ?_
    refine lv_goto (tgt := 23) hx hb dX1_isMap_19 (by decide) ?_
    rw [← (Option.some.inj h)]
    exact g_iret hF hM rfl rfl dX1_isMap_23 (Nat.le_of_ble_eq_true rfl) (Nat.le_of_ble_eq_true rfl)
  unfold f_X1_isMap at h
  refine g_aload_n hx hb dX1_isMap_0 rfl (lv_at hl 0 rfl) ?_
  have g := gbind h
  clear h
  obtain ⟨v1, e2, h⟩ := g
  refine g_getI hF hM fdX1 e2 (by decide) rfl u130 dX1_isMap_1 ?_
  refine lv_bipush (v := 109) hx hb dX1_isMap_4 (by decide) ?_
  refine lv_icmp_eq (tgt := 18) hx hb dX1_isMap_6 (by decide) (fun c3 => ?_) (fun c3 => ?_)
  · replace h := (if_pos c3).symm.trans h
    refine W.widen (k := 0) (n := 0) (Nat.le_of_ble_eq_true rfl) (Nat.le_of_ble_eq_true rfl) ?_
    exact Jb18  h _ _ _ hM (lv_sub hl [] rfl)
  · replace h := (if_neg c3).symm.trans h
    refine g_aload_n hx hb dX1_isMap_9 rfl (lv_at hl 0 rfl) ?_
    have g := gbind h
    clear h
    obtain ⟨v4, e5, h⟩ := g
    refine g_getI hF hM fdX1 e5 (by decide) rfl u130 dX1_isMap_10 ?_
    refine lv_bipush (v := 70) hx hb dX1_isMap_13 (by decide) ?_
    refine lv_icmp_ne (tgt := 22) hx hb dX1_isMap_15 (by decide) (fun c6 => ?_) (fun c6 => ?_)
    · replace h := (if_neg c6).symm.trans h
      refine lv_iconst (v := 0) hx hb dX1_isMap_22 (by decide) ?_
      rw [← (Option.some.inj h)]
      exact g_iret hF hM rfl rfl dX1_isMap_23 (Nat.le_of_ble_eq_true rfl) (Nat.le_of_ble_eq_true rfl)
    · replace h := (if_pos c6).symm.trans h
      refine W.widen (k := 0) (n := 0) (Nat.le_of_ble_eq_true rfl) (Nat.le_of_ble_eq_true rfl) ?_
      exact Jb18  h _ _ _ hM (lv_sub hl [] rfl)
abbrev rm_X1_isMapLike : Room := { frames := 3, cells := 0, slots := 0, locals := 65 }
theorem k_X1_isMapLike : gKc yX1_isMapLike cX1_isMapLike 4 (some .boolean) 1 := ⟨u398, u64, by decide +kernel, by decide +kernel, by decide +kernel⟩
set_option maxHeartbeats 4000000 in
set_option maxRecDepth 100000 in
theorem c_X1_isMapLike {l : Launch} {D : va_G} {Y : Nat → ClassId} {S : GS} {hs : Nat} {a0 : Nat} {x1 : Option Nat} {r : Int32} (h : f_X1_isMapLike S a0 x1 = some r) : gMet l yX1_isMapLike (gWs yX1_isMapLike cX1_isMapLike 4 (some .boolean)) rm_X1_isMapLike [va_rf (some a0), va_rf x1] D Y S hs (some (.int r)) S hs := by
  refine g_ofW (by decide +kernel) (Or.inl ⟨(Nat.le_of_ble_eq_true rfl), (List.forall_mem_cons.mpr ⟨rf_cat _, (List.forall_mem_cons.mpr ⟨rf_cat _, (fun _ h => absurd h List.not_mem_nil)⟩)⟩)⟩) ?_
  intro p e s m args below meth c ls hsz hname hF hM hl
  have hl : lv_has ls 4 [(0, va_rf (some a0)), (1, va_rf x1)] := by rw [g_args [va_rf (some a0), va_rf x1] 0 (List.forall_mem_cons.mpr ⟨rf_cat _, (List.forall_mem_cons.mpr ⟨rf_cat _, (fun _ h => absurd h List.not_mem_nil)⟩)⟩)] at hl; exact hl
  have hF : gF p s m args meth c RX1 cX1_isMapLike 4 (some .boolean) D Y (gA S hs) := hF
  have hx := hF.1
  have hb := hF.2.1
  have JL2 : ∀ (n : Nat) (x1 : Option Nat) (x2 : Int32), f_X1_isMapLike_L2 S a0 n x1 x2 = some r → ∀ (H : Heap) (locs : List Loc) (ls : Array Slot), gM D Y (gA S hs) s.heap S hs H locs → lv_has ls 4 [(0, va_rf (some a0)), (1, va_rf x1), (2, .int x2)] → W p l e rm_X1_isMapLike s m args below meth c H locs 0 0 (MQ below (gQ (some (.int r)) D Y S hs (gA S hs)) args s rm_X1_isMapLike.cells rm_X1_isMapLike.slots (gA S hs)) (F0 m 2 ls []) := by
    intro n
    induction n with
    | zero => intro x1 x2 h; unfold f_X1_isMapLike_L2 at h; exact nomatch h
    | succ n ih =>
      intro x1 x2 h H locs ls hM hl
      unfold f_X1_isMapLike_L2 at h
      refine lv_iload_n hx hb dX1_isMapLike_2 rfl (lv_at hl 2 rfl) ?_
      refine g_aload_n hx hb dX1_isMapLike_3 rfl (lv_at hl 0 rfl) ?_
      have g := gckE h
      clear h
      obtain ⟨t1, h⟩ := g
      have t1 := eq_of_beq t1
      have g := gbind h
      clear h
      obtain ⟨v3, e2, h⟩ := g
      refine g_callV (As := []) (rest := [.int x2]) hF hM (c_X1_count e2) k_X1_count u203 u196 u197 rfl rfl t1 rfl hl.1 rfl (Nat.le_of_ble_eq_true rfl) dX1_isMapLike_4 ⟨(Nat.le_of_ble_eq_true rfl), (Nat.le_of_ble_eq_true rfl)⟩ ⟨(Nat.le_of_ble_eq_true rfl), (Nat.le_of_ble_eq_true rfl)⟩ (fun H locs hM => ?_)
      refine lv_icmp_ge (tgt := 42) hx hb dX1_isMapLike_7 (by decide) (fun c4 => ?_) (fun c4 => ?_)
      · replace h := (if_pos c4).symm.trans h
        refine g_aload_n hx hb dX1_isMapLike_42 rfl (lv_at hl 0 rfl) ?_
        have g := gckE h
        clear h
        obtain ⟨t5, h⟩ := g
        have t5 := eq_of_beq t5
        have g := gbind h
        clear h
        obtain ⟨v7, e6, h⟩ := g
        refine g_callV (As := []) (rest := []) hF hM (c_X1_count e6) k_X1_count u203 u196 u197 rfl rfl t5 rfl hl.1 rfl (Nat.le_of_ble_eq_true rfl) dX1_isMapLike_43 ⟨(Nat.le_of_ble_eq_true rfl), (Nat.le_of_ble_eq_true rfl)⟩ ⟨(Nat.le_of_ble_eq_true rfl), (Nat.le_of_ble_eq_true rfl)⟩ (fun H locs hM => ?_)
        refine g_aload_n hx hb dX1_isMapLike_46 rfl (lv_at hl 1 rfl) ?_
        have g := gbind h
        clear h
        obtain ⟨a8, e9, h⟩ := g
        have t10 := (gtk_of e9).2
        rw [(gtk_of e9).1]
        have g := gbind h
        clear h
        obtain ⟨v12, e11, h⟩ := g
        refine g_callV (As := []) (rest := [.int v7]) hF hM (c_X1_count e11) k_X1_count u203 u196 u197 rfl rfl t10 rfl hl.1 rfl (Nat.le_of_ble_eq_true rfl) dX1_isMapLike_47 ⟨(Nat.le_of_ble_eq_true rfl), (Nat.le_of_ble_eq_true rfl)⟩ ⟨(Nat.le_of_ble_eq_true rfl), (Nat.le_of_ble_eq_true rfl)⟩ (fun H locs hM => ?_)
        refine lv_icmp_ne (tgt := 57) hx hb dX1_isMapLike_50 (by decide) (fun c13 => ?_) (fun c13 => ?_)
        · replace h := (if_neg c13).symm.trans h
          refine lv_iconst (v := 0) hx hb dX1_isMapLike_57 (by decide) ?_
          rw [← (Option.some.inj h)]
          exact g_iret hF hM rfl rfl dX1_isMapLike_58 (Nat.le_of_ble_eq_true rfl) (Nat.le_of_ble_eq_true rfl)
        · replace h := (if_pos c13).symm.trans h
          refine lv_iconst (v := 1) hx hb dX1_isMapLike_53 (by decide) ?_
          refine lv_goto (tgt := 58) hx hb dX1_isMapLike_54 (by decide) ?_
          rw [← (Option.some.inj h)]
          exact g_iret hF hM rfl rfl dX1_isMapLike_58 (Nat.le_of_ble_eq_true rfl) (Nat.le_of_ble_eq_true rfl)
      · replace h := (if_neg c4).symm.trans h
        refine g_aload_n hx hb dX1_isMapLike_10 rfl (lv_at hl 1 rfl) ?_
        refine g_aload_n hx hb dX1_isMapLike_11 rfl (lv_at hl 0 rfl) ?_
        refine lv_iload_n hx hb dX1_isMapLike_12 rfl (lv_at hl 2 rfl) ?_
        have g := gckE h
        clear h
        obtain ⟨t14, h⟩ := g
        have t14 := eq_of_beq t14
        have g := gbind h
        clear h
        obtain ⟨v16, e15, h⟩ := g
        refine g_callV (As := [.int x2]) (rest := [va_rf x1]) hF hM (c_X1_numberOf e15) k_X1_numberOf u209 u210 u211 rfl rfl t14 rfl hl.1 rfl (by simp [rf_cat, ic_cat, lc_cat]) dX1_isMapLike_13 ⟨(Nat.le_of_ble_eq_true rfl), (Nat.le_of_ble_eq_true rfl)⟩ ⟨(Nat.le_of_ble_eq_true rfl), (Nat.le_of_ble_eq_true rfl)⟩ (fun H locs hM => ?_)
        have g := gbind h
        clear h
        obtain ⟨a17, e18, h⟩ := g
        have t19 := (gtk_of e18).2
        rw [(gtk_of e18).1]
        have g := gbind h
        clear h
        obtain ⟨v21, e20, h⟩ := g
        refine g_callV (As := [.int v16]) (rest := []) hF hM (c_X1_findNumber e20) k_X1_findNumber u399 u260 u261 rfl rfl t19 rfl hl.1 rfl (Nat.le_of_ble_eq_true rfl) dX1_isMapLike_16 ⟨(Nat.le_of_ble_eq_true rfl), (Nat.le_of_ble_eq_true rfl)⟩ ⟨(Nat.le_of_ble_eq_true rfl), (Nat.le_of_ble_eq_true rfl)⟩ (fun H locs hM => ?_)
        refine lv_istore_n (i := 3) (lv' := [(3, .int v21), (0, va_rf (some a0)), (1, va_rf x1), (2, .int x2)]) hx hb dX1_isMapLike_19 rfl hl (by decide) rfl (fun ls hl => ?_)
        refine lv_iload_n hx hb dX1_isMapLike_20 rfl (lv_at hl 0 rfl) ?_
        refine lv_if_lt (tgt := 34) hx hb dX1_isMapLike_21 (by decide) (fun c22 => ?_) (fun c22 => ?_)
        · replace h := (if_pos c22).symm.trans h
          refine lv_iconst (v := 0) hx hb dX1_isMapLike_34 (by decide) ?_
          rw [← (Option.some.inj h)]
          exact g_iret hF hM rfl rfl dX1_isMapLike_35 (Nat.le_of_ble_eq_true rfl) (Nat.le_of_ble_eq_true rfl)
        · replace h := (if_neg c22).symm.trans h
          refine g_aload_n hx hb dX1_isMapLike_24 rfl (lv_at hl 1 rfl) ?_
          refine lv_iload_n hx hb dX1_isMapLike_25 rfl (lv_at hl 3 rfl) ?_
          refine g_aload_n hx hb dX1_isMapLike_26 rfl (lv_at hl 2 rfl) ?_
          refine lv_iload_n hx hb dX1_isMapLike_27 rfl (lv_at hl 0 rfl) ?_
          have g := gckE h
          clear h
          obtain ⟨t23, h⟩ := g
          have t23 := eq_of_beq t23
          have g := gbind h
          clear h
          obtain ⟨v25, e24, h⟩ := g
          refine g_callV (As := [.int x2, va_rf x1, .int v21]) (rest := []) hF hM (c_X1_isAlike e24) k_X1_isAlike u332 u311 u312 rfl rfl t23 rfl hl.1 rfl (Nat.le_of_ble_eq_true rfl) dX1_isMapLike_28 ⟨(Nat.le_of_ble_eq_true rfl), (Nat.le_of_ble_eq_true rfl)⟩ ⟨(Nat.le_of_ble_eq_true rfl), (Nat.le_of_ble_eq_true rfl)⟩ (fun H locs hM => ?_)
          refine lv_if_ne (tgt := 36) hx hb dX1_isMapLike_31 (by decide) (fun c26 => ?_) (fun c26 => ?_)
          · replace h := (if_neg c26).symm.trans h
            refine lv_iinc (v := (x2 + 1)) (lv' := [(2, .int (x2 + 1)), (3, .int v21), (0, va_rf (some a0)), (1, va_rf x1)]) hx hb dX1_isMapLike_36 hl (k := 3) rfl rfl (by decide) (by simp [rf_cat, ic_cat, lc_cat]) (fun ls hl => ?_)
            refine lv_goto (tgt := 2) hx hb dX1_isMapLike_39 (by decide) ?_
            refine W.widen (k := 0) (n := 0) (Nat.le_of_ble_eq_true rfl) (Nat.le_of_ble_eq_true rfl) ?_
            exact ih _ _ h _ _ _ hM (lv_sub hl [2, 3, 0] rfl)
          · replace h := (if_pos c26).symm.trans h
            refine lv_iconst (v := 0) hx hb dX1_isMapLike_34 (by decide) ?_
            rw [← (Option.some.inj h)]
            exact g_iret hF hM rfl rfl dX1_isMapLike_35 (Nat.le_of_ble_eq_true rfl) (Nat.le_of_ble_eq_true rfl)
  unfold f_X1_isMapLike at h
  refine lv_iconst (v := 0) hx hb dX1_isMapLike_0 (by decide) ?_
  refine lv_istore_n (i := 2) (lv' := [(2, .int 0), (0, va_rf (some a0)), (1, va_rf x1)]) hx hb dX1_isMapLike_1 rfl hl (by decide) (by simp [rf_cat, ic_cat, lc_cat]) (fun ls hl => ?_)
  refine W.widen (k := 0) (n := 0) (Nat.le_of_ble_eq_true rfl) (Nat.le_of_ble_eq_true rfl) ?_
  exact JL2 gN _ _ h _ _ _ hM (lv_sub hl [1, 2, 0] rfl)
abbrev rm_X1_mapHash : Room := { frames := 3, cells := 0, slots := 0, locals := 63 }
theorem k_X1_mapHash : gKc yX1_mapHash cX1_mapHash 3 (some .int) 0 := ⟨u403, u64, by decide +kernel, by decide +kernel, by decide +kernel⟩
set_option maxHeartbeats 4000000 in
set_option maxRecDepth 100000 in
theorem c_X1_mapHash {l : Launch} {D : va_G} {Y : Nat → ClassId} {S : GS} {hs : Nat} {a0 : Nat} {r : Int32} (h : f_X1_mapHash S a0 = some r) : gMet l yX1_mapHash (gWs yX1_mapHash cX1_mapHash 3 (some .int)) rm_X1_mapHash [va_rf (some a0)] D Y S hs (some (.int r)) S hs := by
  refine g_ofW (by decide +kernel) (Or.inl ⟨(Nat.le_of_ble_eq_true rfl), (List.forall_mem_cons.mpr ⟨rf_cat _, (fun _ h => absurd h List.not_mem_nil)⟩)⟩) ?_
  intro p e s m args below meth c ls hsz hname hF hM hl
  have hl : lv_has ls 3 [(0, va_rf (some a0))] := by rw [g_args [va_rf (some a0)] 0 (List.forall_mem_cons.mpr ⟨rf_cat _, (fun _ h => absurd h List.not_mem_nil)⟩)] at hl; exact hl
  have hF : gF p s m args meth c RX1 cX1_mapHash 3 (some .int) D Y (gA S hs) := hF
  have hx := hF.1
  have hb := hF.2.1
  have JL4 : ∀ (n : Nat) (x1 : Int32) (x2 : Int32), f_X1_mapHash_L4 S a0 n x1 x2 = some r → ∀ (H : Heap) (locs : List Loc) (ls : Array Slot), gM D Y (gA S hs) s.heap S hs H locs → lv_has ls 3 [(0, va_rf (some a0)), (1, .int x1), (2, .int x2)] → W p l e rm_X1_mapHash s m args below meth c H locs 0 0 (MQ below (gQ (some (.int r)) D Y S hs (gA S hs)) args s rm_X1_mapHash.cells rm_X1_mapHash.slots (gA S hs)) (F0 m 4 ls []) := by
    intro n
    induction n with
    | zero => intro x1 x2 h; unfold f_X1_mapHash_L4 at h; exact nomatch h
    | succ n ih =>
      intro x1 x2 h H locs ls hM hl
      unfold f_X1_mapHash_L4 at h
      refine lv_iload_n hx hb dX1_mapHash_4 rfl (lv_at hl 2 rfl) ?_
      refine g_aload_n hx hb dX1_mapHash_5 rfl (lv_at hl 0 rfl) ?_
      have g := gckE h
      clear h
      obtain ⟨t1, h⟩ := g
      have t1 := eq_of_beq t1
      have g := gbind h
      clear h
      obtain ⟨v3, e2, h⟩ := g
      refine g_callV (As := []) (rest := [.int x2]) hF hM (c_X1_count e2) k_X1_count u203 u196 u197 rfl rfl t1 rfl hl.1 rfl (Nat.le_of_ble_eq_true rfl) dX1_mapHash_6 ⟨(Nat.le_of_ble_eq_true rfl), (Nat.le_of_ble_eq_true rfl)⟩ ⟨(Nat.le_of_ble_eq_true rfl), (Nat.le_of_ble_eq_true rfl)⟩ (fun H locs hM => ?_)
      refine lv_icmp_ge (tgt := 32) hx hb dX1_mapHash_9 (by decide) (fun c4 => ?_) (fun c4 => ?_)
      · replace h := (if_pos c4).symm.trans h
        refine lv_iload_n hx hb dX1_mapHash_32 rfl (lv_at hl 1 rfl) ?_
        rw [← (Option.some.inj h)]
        exact g_iret hF hM rfl rfl dX1_mapHash_33 (Nat.le_of_ble_eq_true rfl) (Nat.le_of_ble_eq_true rfl)
      · replace h := (if_neg c4).symm.trans h
        refine lv_iload_n hx hb dX1_mapHash_12 rfl (lv_at hl 1 rfl) ?_
        refine g_aload_n hx hb dX1_mapHash_13 rfl (lv_at hl 0 rfl) ?_
        refine lv_iload_n hx hb dX1_mapHash_14 rfl (lv_at hl 2 rfl) ?_
        have g := gckE h
        clear h
        obtain ⟨t5, h⟩ := g
        have t5 := eq_of_beq t5
        have g := gbind h
        clear h
        obtain ⟨v7, e6, h⟩ := g
        refine g_callV (As := [.int x2]) (rest := [.int x1]) hF hM (c_X1_numberOf e6) k_X1_numberOf u209 u210 u211 rfl rfl t5 rfl hl.1 rfl (Nat.le_of_ble_eq_true rfl) dX1_mapHash_15 ⟨(Nat.le_of_ble_eq_true rfl), (Nat.le_of_ble_eq_true rfl)⟩ ⟨(Nat.le_of_ble_eq_true rfl), (Nat.le_of_ble_eq_true rfl)⟩ (fun H locs hM => ?_)
        refine g_aload_n hx hb dX1_mapHash_18 rfl (lv_at hl 0 rfl) ?_
        refine lv_iload_n hx hb dX1_mapHash_19 rfl (lv_at hl 2 rfl) ?_
        have g := gckE h
        clear h
        obtain ⟨t8, h⟩ := g
        have t8 := eq_of_beq t8
        have g := gbind h
        clear h
        obtain ⟨v10, e9, h⟩ := g
        refine g_callV (As := [.int x2]) (rest := [.int v7, .int x1]) hF hM (c_X1_hashOf e9) k_X1_hashOf u221 u222 u223 rfl rfl t8 rfl hl.1 rfl (Nat.le_of_ble_eq_true rfl) dX1_mapHash_20 ⟨(Nat.le_of_ble_eq_true rfl), (Nat.le_of_ble_eq_true rfl)⟩ ⟨(Nat.le_of_ble_eq_true rfl), (Nat.le_of_ble_eq_true rfl)⟩ (fun H locs hM => ?_)
        refine lv_ixor hx hb dX1_mapHash_23 ?_
        refine lv_iadd hx hb dX1_mapHash_24 ?_
        refine lv_istore_n (i := 1) (lv' := [(1, .int (x1 + (v7 ^^^ v10))), (0, va_rf (some a0)), (2, .int x2)]) hx hb dX1_mapHash_25 rfl hl (by decide) rfl (fun ls hl => ?_)
        refine lv_iinc (v := (x2 + 1)) (lv' := [(2, .int (x2 + 1)), (1, .int (x1 + (v7 ^^^ v10))), (0, va_rf (some a0))]) hx hb dX1_mapHash_26 hl (k := 2) rfl rfl (by decide) rfl (fun ls hl => ?_)
        refine lv_goto (tgt := 4) hx hb dX1_mapHash_29 (by decide) ?_
        refine W.widen (k := 0) (n := 0) (Nat.le_of_ble_eq_true rfl) (Nat.le_of_ble_eq_true rfl) ?_
        exact ih _ _ h _ _ _ hM (lv_sub hl [2, 1, 0] rfl)
  unfold f_X1_mapHash at h
  refine lv_iconst (v := 0) hx hb dX1_mapHash_0 (by decide) ?_
  refine lv_istore_n (i := 1) (lv' := [(1, .int 0), (0, va_rf (some a0))]) hx hb dX1_mapHash_1 rfl hl (by decide) rfl (fun ls hl => ?_)
  refine lv_iconst (v := 0) hx hb dX1_mapHash_2 (by decide) ?_
  refine lv_istore_n (i := 2) (lv' := [(2, .int 0), (1, .int 0), (0, va_rf (some a0))]) hx hb dX1_mapHash_3 rfl hl (by decide) rfl (fun ls hl => ?_)
  refine W.widen (k := 0) (n := 0) (Nat.le_of_ble_eq_true rfl) (Nat.le_of_ble_eq_true rfl) ?_
  exact JL4 gN _ _ h _ _ _ hM (lv_sub hl [2, 1, 0] rfl)
abbrev rm_X1_init_ : Room := { frames := 1, cells := 0, slots := 0, locals := 20 }
theorem k_X1_init_ : gKc yX1_init_ cX1_init_ 5 none 4 := ⟨u595, u64, by decide +kernel, by decide +kernel, by decide +kernel⟩
set_option maxHeartbeats 4000000 in
set_option maxRecDepth 100000 in
theorem c_X1_init_ {l : Launch} {D : va_G} {Y : Nat → ClassId} {S : GS} {hs : Nat} {a0 : Nat} {x1 : Int32} {x2 : Int32} {x3 : Int32} {x4 : Int32} {S' : GS} (h : f_X1_init_ S a0 x1 x2 x3 x4 = some S') : gMet l yX1_init_ (gWs yX1_init_ cX1_init_ 5 none) rm_X1_init_ [va_rf (some a0), .int x1, .int x2, .int x3, .int x4] D Y S hs none S' hs := by
  refine g_ofW (by decide +kernel) (Or.inl ⟨(Nat.le_of_ble_eq_true rfl), (List.forall_mem_cons.mpr ⟨rf_cat _, (List.forall_mem_cons.mpr ⟨rfl, (List.forall_mem_cons.mpr ⟨rfl, (List.forall_mem_cons.mpr ⟨rfl, (List.forall_mem_cons.mpr ⟨rfl, (fun _ h => absurd h List.not_mem_nil)⟩)⟩)⟩)⟩)⟩)⟩) ?_
  intro p e s m args below meth c ls hsz hname hF hM hl
  have hl : lv_has ls 5 [(0, va_rf (some a0)), (1, .int x1), (2, .int x2), (3, .int x3), (4, .int x4)] := by rw [g_args [va_rf (some a0), .int x1, .int x2, .int x3, .int x4] 0 (List.forall_mem_cons.mpr ⟨rf_cat _, (List.forall_mem_cons.mpr ⟨rfl, (List.forall_mem_cons.mpr ⟨rfl, (List.forall_mem_cons.mpr ⟨rfl, (List.forall_mem_cons.mpr ⟨rfl, (fun _ h => absurd h List.not_mem_nil)⟩)⟩)⟩)⟩)⟩)] at hl; exact hl
  have hF : gF p s m args meth c RX1 cX1_init_ 5 none D Y (gA S hs) := hF
  have hx := hF.1
  have hb := hF.2.1
  unfold f_X1_init_ at h
  refine g_aload_n hx hb dX1_init__0 rfl (lv_at hl 0 rfl) ?_
  refine g_objInit hF u129 u91 u92 hl.1 dX1_init__1 ⟨(Nat.le_of_ble_eq_true rfl), (Nat.le_of_ble_eq_true rfl)⟩ (Nat.le_of_ble_eq_true rfl) ?_
  refine g_aload_n hx hb dX1_init__4 rfl (lv_at hl 0 rfl) ?_
  refine lv_iload_n hx hb dX1_init__5 rfl (lv_at hl 1 rfl) ?_
  have g := gckE h
  clear h
  obtain ⟨q3, h⟩ := g
  have g := gbind h
  clear h
  obtain ⟨S1, e2, h⟩ := g
  refine g_putI hF hM fdX1 e2 (by decide) rfl (Or.inr ⟨rfl, hname, rfl⟩) (gnr_of (Or.inr (Or.inr rfl)) q3) u130 dX1_init__6 (fun H locs hM => ?_)
  refine g_aload_n hx hb dX1_init__9 rfl (lv_at hl 0 rfl) ?_
  refine lv_iload_n hx hb dX1_init__10 rfl (lv_at hl 2 rfl) ?_
  have g := gbind h
  clear h
  obtain ⟨S4, e5, h⟩ := g
  refine g_putI hF hM fdX1 e5 (by decide) rfl (Or.inr ⟨rfl, hname, rfl⟩) ⟨rfl, rfl⟩ u139 dX1_init__11 (fun H locs hM => ?_)
  refine g_aload_n hx hb dX1_init__14 rfl (lv_at hl 0 rfl) ?_
  refine lv_iload_n hx hb dX1_init__15 rfl (lv_at hl 3 rfl) ?_
  have g := gbind h
  clear h
  obtain ⟨S6, e7, h⟩ := g
  refine g_putI hF hM fdX1 e7 (by decide) rfl (Or.inr ⟨rfl, hname, rfl⟩) ⟨rfl, rfl⟩ u140 dX1_init__16 (fun H locs hM => ?_)
  refine g_aload_n hx hb dX1_init__19 rfl (lv_at hl 0 rfl) ?_
  refine lv_iload hx hb dX1_init__20 (lv_at hl 4 rfl) ?_
  have g := gbind h
  clear h
  obtain ⟨S8, e9, h⟩ := g
  refine g_putI hF hM fdX1 e9 (by decide) rfl (Or.inr ⟨rfl, hname, rfl⟩) ⟨rfl, rfl⟩ u141 dX1_init__22 (fun H locs hM => ?_)
  refine g_aload_n hx hb dX1_init__25 rfl (lv_at hl 0 rfl) ?_
  refine lv_iconst (v := 0) hx hb dX1_init__26 (by decide) ?_
  have g := gbind h
  clear h
  obtain ⟨S10, e11, h⟩ := g
  refine g_putI hF hM fdX1 e11 (by decide) rfl (Or.inr ⟨rfl, hname, rfl⟩) ⟨rfl, rfl⟩ u132 dX1_init__27 (fun H locs hM => ?_)
  refine g_aload_n hx hb dX1_init__30 rfl (lv_at hl 0 rfl) ?_
  refine g_null hx hb dX1_init__31 ?_
  have g := gbind h
  clear h
  obtain ⟨S12, e13, h⟩ := g
  refine g_putR hF hM fdX1 e13 (by decide) rfl (Or.inr ⟨rfl, hname, rfl⟩) u134 dX1_init__32 (fun H locs hM => ?_)
  refine g_aload_n hx hb dX1_init__35 rfl (lv_at hl 0 rfl) ?_
  refine g_null hx hb dX1_init__36 ?_
  have g := gbind h
  clear h
  obtain ⟨S14, e15, h⟩ := g
  refine g_putR hF hM fdX1 e15 (by decide) rfl (Or.inr ⟨rfl, hname, rfl⟩) u137 dX1_init__37 (fun H locs hM => ?_)
  rw [← (Option.some.inj h)]
  exact g_vret hF hM rfl dX1_init__40 (Nat.le_of_ble_eq_true rfl) (Nat.le_of_ble_eq_true rfl)
abbrev rm_X1_isRow : Room := { frames := 1, cells := 0, slots := 0, locals := 20 }
theorem k_X1_isRow : gKc yX1_isRow cX1_isRow 1 (some .boolean) 0 := ⟨u814, u64, by decide +kernel, by decide +kernel, by decide +kernel⟩
set_option maxHeartbeats 4000000 in
set_option maxRecDepth 100000 in
theorem c_X1_isRow {l : Launch} {D : va_G} {Y : Nat → ClassId} {S : GS} {hs : Nat} {a0 : Nat} {r : Int32} (h : f_X1_isRow S a0 = some r) : gMet l yX1_isRow (gWs yX1_isRow cX1_isRow 1 (some .boolean)) rm_X1_isRow [va_rf (some a0)] D Y S hs (some (.int r)) S hs := by
  refine g_ofW (by decide +kernel) (Or.inl ⟨(Nat.le_of_ble_eq_true rfl), (List.forall_mem_cons.mpr ⟨rf_cat _, (fun _ h => absurd h List.not_mem_nil)⟩)⟩) ?_
  intro p e s m args below meth c ls hsz hname hF hM hl
  have hl : lv_has ls 1 [(0, va_rf (some a0))] := by rw [g_args [va_rf (some a0)] 0 (List.forall_mem_cons.mpr ⟨rf_cat _, (fun _ h => absurd h List.not_mem_nil)⟩)] at hl; exact hl
  have hF : gF p s m args meth c RX1 cX1_isRow 1 (some .boolean) D Y (gA S hs) := hF
  have hx := hF.1
  have hb := hF.2.1
  have Jb16 : f_X1_isRow_b16 S a0 = some r → ∀ (H : Heap) (locs : List Loc) (ls : Array Slot), gM D Y (gA S hs) s.heap S hs H locs → lv_has ls 1 [] → W p l e rm_X1_isRow s m args below meth c H locs 0 0 (MQ below (gQ (some (.int r)) D Y S hs (gA S hs)) args s rm_X1_isRow.cells rm_X1_isRow.slots (gA S hs)) (F0 m 16 ls []) := by
    intro  h H locs ls hM hl
    unfold f_X1_isRow_b16 at h
    refine lv_iconst (v := 1) hx hb dX1_isRow_16 (by decide) ?_
    refine lv_goto (tgt := 21) hx hb dX1_isRow_17 (by decide) ?_
    rw [← (Option.some.inj h)]
    exact g_iret hF hM rfl rfl dX1_isRow_21 (Nat.le_of_ble_eq_true rfl) (Nat.le_of_ble_eq_true rfl)
  unfold f_X1_isRow at h
  refine g_aload_n hx hb dX1_isRow_0 rfl (lv_at hl 0 rfl) ?_
  have g := gckE h
  clear h
  obtain ⟨t1, h⟩ := g
  have t1 := eq_of_beq t1
  have g := gbind h
  clear h
  obtain ⟨v3, e2, h⟩ := g
  refine g_callV (As := []) (rest := []) hF hM (c_X1_isList e2) k_X1_isList u815 u250 u251 rfl rfl t1 rfl hl.1 rfl (Nat.le_of_ble_eq_true rfl) dX1_isRow_1 ⟨(Nat.le_of_ble_eq_true rfl), (Nat.le_of_ble_eq_true rfl)⟩ ⟨(Nat.le_of_ble_eq_true rfl), (Nat.le_of_ble_eq_true rfl)⟩ (fun H locs hM => ?_)
  refine lv_if_ne (tgt := 16) hx hb dX1_isRow_4 (by decide) (fun c4 => ?_) (fun c4 => ?_)
  · replace h := (if_neg c4).symm.trans h
    refine W.widen (k := 0) (n := 0) (Nat.le_of_ble_eq_true rfl) (Nat.le_of_ble_eq_true rfl) ?_
    exact Jb16  h _ _ _ hM (lv_sub hl [] rfl)
  · replace h := (if_pos c4).symm.trans h
    refine g_aload_n hx hb dX1_isRow_7 rfl (lv_at hl 0 rfl) ?_
    have g := gbind h
    clear h
    obtain ⟨v5, e6, h⟩ := g
    refine g_getI hF hM fdX1 e6 (by decide) rfl u130 dX1_isRow_8 ?_
    refine lv_bipush (v := 118) hx hb dX1_isRow_11 (by decide) ?_
    refine lv_icmp_ne (tgt := 20) hx hb dX1_isRow_13 (by decide) (fun c7 => ?_) (fun c7 => ?_)
    · replace h := (if_neg c7).symm.trans h
      refine lv_iconst (v := 0) hx hb dX1_isRow_20 (by decide) ?_
      rw [← (Option.some.inj h)]
      exact g_iret hF hM rfl rfl dX1_isRow_21 (Nat.le_of_ble_eq_true rfl) (Nat.le_of_ble_eq_true rfl)
    · replace h := (if_pos c7).symm.trans h
      refine W.widen (k := 0) (n := 0) (Nat.le_of_ble_eq_true rfl) (Nat.le_of_ble_eq_true rfl) ?_
      exact Jb16  h _ _ _ hM (lv_sub hl [] rfl)
abbrev rm_X1_isThing : Room := { frames := 2, cells := 0, slots := 0, locals := 42 }
theorem k_X1_isThing : gKc yX1_isThing cX1_isThing 4 (some .boolean) 3 := ⟨u722, u64, by decide +kernel, by decide +kernel, by decide +kernel⟩
set_option maxHeartbeats 4000000 in
set_option maxRecDepth 100000 in
theorem c_X1_isThing {l : Launch} {D : va_G} {Y : Nat → ClassId} {S : GS} {hs : Nat} {a0 : Nat} {x1 : Int32} {x2 : Int32} {x3 : Int32} {r : Int32} (h : f_X1_isThing S a0 x1 x2 x3 = some r) : gMet l yX1_isThing (gWs yX1_isThing cX1_isThing 4 (some .boolean)) rm_X1_isThing [va_rf (some a0), .int x1, .int x2, .int x3] D Y S hs (some (.int r)) S hs := by
  refine g_ofW (by decide +kernel) (Or.inl ⟨(Nat.le_of_ble_eq_true rfl), (List.forall_mem_cons.mpr ⟨rf_cat _, (List.forall_mem_cons.mpr ⟨rfl, (List.forall_mem_cons.mpr ⟨rfl, (List.forall_mem_cons.mpr ⟨rfl, (fun _ h => absurd h List.not_mem_nil)⟩)⟩)⟩)⟩)⟩) ?_
  intro p e s m args below meth c ls hsz hname hF hM hl
  have hl : lv_has ls 4 [(0, va_rf (some a0)), (1, .int x1), (2, .int x2), (3, .int x3)] := by rw [g_args [va_rf (some a0), .int x1, .int x2, .int x3] 0 (List.forall_mem_cons.mpr ⟨rf_cat _, (List.forall_mem_cons.mpr ⟨rfl, (List.forall_mem_cons.mpr ⟨rfl, (List.forall_mem_cons.mpr ⟨rfl, (fun _ h => absurd h List.not_mem_nil)⟩)⟩)⟩)⟩)] at hl; exact hl
  have hF : gF p s m args meth c RX1 cX1_isThing 4 (some .boolean) D Y (gA S hs) := hF
  have hx := hF.1
  have hb := hF.2.1
  unfold f_X1_isThing at h
  refine g_aload_n hx hb dX1_isThing_0 rfl (lv_at hl 0 rfl) ?_
  refine lv_iload_n hx hb dX1_isThing_1 rfl (lv_at hl 1 rfl) ?_
  have g := gckE h
  clear h
  obtain ⟨t1, h⟩ := g
  have t1 := eq_of_beq t1
  have g := gbind h
  clear h
  obtain ⟨v3, e2, h⟩ := g
  refine g_callV (As := [.int x1]) (rest := []) hF hM (c_X1_keyOf e2) k_X1_keyOf u225 u226 u227 rfl rfl t1 rfl hl.1 rfl (Nat.le_of_ble_eq_true rfl) dX1_isThing_2 ⟨(Nat.le_of_ble_eq_true rfl), (Nat.le_of_ble_eq_true rfl)⟩ ⟨(Nat.le_of_ble_eq_true rfl), (Nat.le_of_ble_eq_true rfl)⟩ (fun H locs hM => ?_)
  refine lv_iload_n hx hb dX1_isThing_5 rfl (lv_at hl 2 rfl) ?_
  refine lv_icmp_ne (tgt := 22) hx hb dX1_isThing_6 (by decide) (fun c4 => ?_) (fun c4 => ?_)
  · replace h := (if_neg c4).symm.trans h
    refine lv_iconst (v := 0) hx hb dX1_isThing_22 (by decide) ?_
    rw [← (Option.some.inj h)]
    exact g_iret hF hM rfl rfl dX1_isThing_23 (Nat.le_of_ble_eq_true rfl) (Nat.le_of_ble_eq_true rfl)
  · replace h := (if_pos c4).symm.trans h
    refine g_aload_n hx hb dX1_isThing_9 rfl (lv_at hl 0 rfl) ?_
    refine lv_iload_n hx hb dX1_isThing_10 rfl (lv_at hl 1 rfl) ?_
    have g := gckE h
    clear h
    obtain ⟨t5, h⟩ := g
    have t5 := eq_of_beq t5
    have g := gbind h
    clear h
    obtain ⟨v7, e6, h⟩ := g
    refine g_callV (As := [.int x1]) (rest := []) hF hM (c_X1_markOf e6) k_X1_markOf u233 u234 u235 rfl rfl t5 rfl hl.1 rfl (Nat.le_of_ble_eq_true rfl) dX1_isThing_11 ⟨(Nat.le_of_ble_eq_true rfl), (Nat.le_of_ble_eq_true rfl)⟩ ⟨(Nat.le_of_ble_eq_true rfl), (Nat.le_of_ble_eq_true rfl)⟩ (fun H locs hM => ?_)
    refine lv_iload_n hx hb dX1_isThing_14 rfl (lv_at hl 3 rfl) ?_
    refine lv_icmp_ne (tgt := 22) hx hb dX1_isThing_15 (by decide) (fun c8 => ?_) (fun c8 => ?_)
    · replace h := (if_neg c8).symm.trans h
      refine lv_iconst (v := 0) hx hb dX1_isThing_22 (by decide) ?_
      rw [← (Option.some.inj h)]
      exact g_iret hF hM rfl rfl dX1_isThing_23 (Nat.le_of_ble_eq_true rfl) (Nat.le_of_ble_eq_true rfl)
    · replace h := (if_pos c8).symm.trans h
      refine lv_iconst (v := 1) hx hb dX1_isThing_18 (by decide) ?_
      refine lv_goto (tgt := 23) hx hb dX1_isThing_19 (by decide) ?_
      rw [← (Option.some.inj h)]
      exact g_iret hF hM rfl rfl dX1_isThing_23 (Nat.le_of_ble_eq_true rfl) (Nat.le_of_ble_eq_true rfl)
abbrev rm_X1_find : Room := { frames := 3, cells := 0, slots := 0, locals := 65 }
theorem k_X1_find : gKc yX1_find cX1_find 7 (some .int) 3 := ⟨u718, u64, by decide +kernel, by decide +kernel, by decide +kernel⟩
set_option maxHeartbeats 4000000 in
set_option maxRecDepth 100000 in
theorem c_X1_find {l : Launch} {D : va_G} {Y : Nat → ClassId} {S : GS} {hs : Nat} {a0 : Nat} {x1 : Int32} {x2 : Int32} {x3 : Int32} {r : Int32} (h : f_X1_find S a0 x1 x2 x3 = some r) : gMet l yX1_find (gWs yX1_find cX1_find 7 (some .int)) rm_X1_find [va_rf (some a0), .int x1, .int x2, .int x3] D Y S hs (some (.int r)) S hs := by
  refine g_ofW (by decide +kernel) (Or.inl ⟨(Nat.le_of_ble_eq_true rfl), (List.forall_mem_cons.mpr ⟨rf_cat _, (List.forall_mem_cons.mpr ⟨rfl, (List.forall_mem_cons.mpr ⟨rfl, (List.forall_mem_cons.mpr ⟨rfl, (fun _ h => absurd h List.not_mem_nil)⟩)⟩)⟩)⟩)⟩) ?_
  intro p e s m args below meth c ls hsz hname hF hM hl
  have hl : lv_has ls 7 [(0, va_rf (some a0)), (1, .int x1), (2, .int x2), (3, .int x3)] := by rw [g_args [va_rf (some a0), .int x1, .int x2, .int x3] 0 (List.forall_mem_cons.mpr ⟨rf_cat _, (List.forall_mem_cons.mpr ⟨rfl, (List.forall_mem_cons.mpr ⟨rfl, (List.forall_mem_cons.mpr ⟨rfl, (fun _ h => absurd h List.not_mem_nil)⟩)⟩)⟩)⟩)] at hl; exact hl
  have hF : gF p s m args meth c RX1 cX1_find 7 (some .int) D Y (gA S hs) := hF
  have hx := hF.1
  have hb := hF.2.1
  have Jb32 : ∀ (k9 : Int32 → Int32 → Int32 → Int32 → Int32 → Option (Int32)) (hk9 : ∀ (x1 : Int32) (x2 : Int32) (x3 : Int32) (x4 : Int32) (x5 : Int32), k9 x1 x2 x3 x4 x5 = some r → ∀ (H : Heap) (locs : List Loc) (ls : Array Slot), gM D Y (gA S hs) s.heap S hs H locs → lv_has ls 7 [(0, va_rf (some a0)), (1, .int x1), (2, .int x2), (3, .int x3), (4, .int x4), (5, .int x5)] → W p l e rm_X1_find s m args below meth c H locs 0 0 (MQ below (gQ (some (.int r)) D Y S hs (gA S hs)) args s rm_X1_find.cells rm_X1_find.slots (gA S hs)) (F0 m 9 ls [])) (x1 : Int32) (x2 : Int32) (x3 : Int32) (x4 : Int32) (x5 : Int32) (s0 : Int32), f_X1_find_b32 k9 S a0 x1 x2 x3 x4 x5 s0 = some r → ∀ (H : Heap) (locs : List Loc) (ls : Array Slot), gM D Y (gA S hs) s.heap S hs H locs → lv_has ls 7 [(0, va_rf (some a0)), (1, .int x1), (2, .int x2), (3, .int x3), (4, .int x4), (5, .int x5)] → W p l e rm_X1_find s m args below meth c H locs 0 0 (MQ below (gQ (some (.int r)) D Y S hs (gA S hs)) args s rm_X1_find.cells rm_X1_find.slots (gA S hs)) (F0 m 32 ls [.int s0]) := by
    intro k9 hk9 x1 x2 x3 x4 x5 s0 h H locs ls hM hl
    unfold f_X1_find_b32 at h
    refine lv_istore (i := 6) (lv' := [(6, .int s0), (0, va_rf (some a0)), (1, .int x1), (2, .int x2), (3, .int x3), (4, .int x4), (5, .int x5)]) hx hb dX1_find_32 hl (by decide) rfl (fun ls hl => ?_)
    refine g_aload_n hx hb dX1_find_34 rfl (lv_at hl 1 rfl) ?_
    refine lv_iload hx hb dX1_find_35 (lv_at hl 0 rfl) ?_
    refine lv_iload_n hx hb dX1_find_37 rfl (lv_at hl 2 rfl) ?_
    refine lv_iload_n hx hb dX1_find_38 rfl (lv_at hl 3 rfl) ?_
    have g := gckE h
    clear h
    obtain ⟨t6, h⟩ := g
    have t6 := eq_of_beq t6
    have g := gbind h
    clear h
    obtain ⟨v8, e7, h⟩ := g
    refine g_callV (As := [.int s0, .int x1, .int x2]) (rest := []) hF hM (c_X1_isThing e7) k_X1_isThing u719 u720 u721 rfl rfl t6 rfl hl.1 rfl (Nat.le_of_ble_eq_true rfl) dX1_find_39 ⟨(Nat.le_of_ble_eq_true rfl), (Nat.le_of_ble_eq_true rfl)⟩ ⟨(Nat.le_of_ble_eq_true rfl), (Nat.le_of_ble_eq_true rfl)⟩ (fun H locs hM => ?_)
    refine lv_if_eq (tgt := 48) hx hb dX1_find_42 (by decide) (fun c9 => ?_) (fun c9 => ?_)
    · replace h := (if_pos c9).symm.trans h
      refine lv_iinc (v := (x5 + 1)) (lv' := [(5, .int (x5 + 1)), (6, .int s0), (0, va_rf (some a0)), (1, .int x1), (2, .int x2), (3, .int x3), (4, .int x4)]) hx hb dX1_find_48 hl (k := 6) rfl rfl (by decide) rfl (fun ls hl => ?_)
      refine lv_goto (tgt := 9) hx hb dX1_find_51 (by decide) ?_
      refine W.widen (k := 0) (n := 0) (Nat.le_of_ble_eq_true rfl) (Nat.le_of_ble_eq_true rfl) ?_
      exact hk9 _ _ _ _ _ h _ _ _ hM (lv_sub hl [2, 3, 4, 5, 6, 0] rfl)
    · replace h := (if_neg c9).symm.trans h
      refine lv_iload hx hb dX1_find_45 (lv_at hl 0 rfl) ?_
      rw [← (Option.some.inj h)]
      exact g_iret hF hM rfl rfl dX1_find_47 (Nat.le_of_ble_eq_true rfl) (Nat.le_of_ble_eq_true rfl)
  have JL9 : ∀ (n : Nat) (x1 : Int32) (x2 : Int32) (x3 : Int32) (x4 : Int32) (x5 : Int32), f_X1_find_L9 S a0 n x1 x2 x3 x4 x5 = some r → ∀ (H : Heap) (locs : List Loc) (ls : Array Slot), gM D Y (gA S hs) s.heap S hs H locs → lv_has ls 7 [(0, va_rf (some a0)), (1, .int x1), (2, .int x2), (3, .int x3), (4, .int x4), (5, .int x5)] → W p l e rm_X1_find s m args below meth c H locs 0 0 (MQ below (gQ (some (.int r)) D Y S hs (gA S hs)) args s rm_X1_find.cells rm_X1_find.slots (gA S hs)) (F0 m 9 ls []) := by
    intro n
    induction n with
    | zero => intro x1 x2 x3 x4 x5 h; unfold f_X1_find_L9 at h; exact nomatch h
    | succ n ih =>
      intro x1 x2 x3 x4 x5 h H locs ls hM hl
      unfold f_X1_find_L9 at h
      refine lv_iload hx hb dX1_find_9 (lv_at hl 5 rfl) ?_
      refine lv_iload hx hb dX1_find_11 (lv_at hl 4 rfl) ?_
      refine lv_icmp_ge (tgt := 54) hx hb dX1_find_13 (by decide) (fun c4 => ?_) (fun c4 => ?_)
      · replace h := (if_pos c4).symm.trans h
        refine lv_iconst (v := (-1)) hx hb dX1_find_54 (by decide) ?_
        rw [← (Option.some.inj h)]
        exact g_iret hF hM rfl rfl dX1_find_55 (Nat.le_of_ble_eq_true rfl) (Nat.le_of_ble_eq_true rfl)
      · replace h := (if_neg c4).symm.trans h
        refine lv_iload_n hx hb dX1_find_16 rfl (lv_at hl 3 rfl) ?_
        refine lv_if_eq (tgt := 30) hx hb dX1_find_17 (by decide) (fun c5 => ?_) (fun c5 => ?_)
        · replace h := (if_pos c5).symm.trans h
          refine lv_iload hx hb dX1_find_30 (lv_at hl 5 rfl) ?_
          refine W.widen (k := 0) (n := 0) (Nat.le_of_ble_eq_true rfl) (Nat.le_of_ble_eq_true rfl) ?_
          exact Jb32 _ ih _ _ _ _ _ _ h _ _ _ hM (lv_sub hl [0, 1, 2, 3, 4, 5] rfl)
        · replace h := (if_neg c5).symm.trans h
          refine lv_iload hx hb dX1_find_20 (lv_at hl 4 rfl) ?_
          refine lv_iconst (v := 1) hx hb dX1_find_22 (by decide) ?_
          refine lv_isub hx hb dX1_find_23 ?_
          refine lv_iload hx hb dX1_find_24 (lv_at hl 5 rfl) ?_
          refine lv_isub hx hb dX1_find_26 ?_
          refine lv_goto (tgt := 32) hx hb dX1_find_27 (by decide) ?_
          refine W.widen (k := 0) (n := 0) (Nat.le_of_ble_eq_true rfl) (Nat.le_of_ble_eq_true rfl) ?_
          exact Jb32 _ ih _ _ _ _ _ _ h _ _ _ hM (lv_sub hl [0, 1, 2, 3, 4, 5] rfl)
  unfold f_X1_find at h
  refine g_aload_n hx hb dX1_find_0 rfl (lv_at hl 0 rfl) ?_
  have g := gckE h
  clear h
  obtain ⟨t1, h⟩ := g
  have t1 := eq_of_beq t1
  have g := gbind h
  clear h
  obtain ⟨v3, e2, h⟩ := g
  refine g_callV (As := []) (rest := []) hF hM (c_X1_count e2) k_X1_count u203 u196 u197 rfl rfl t1 rfl hl.1 rfl (Nat.le_of_ble_eq_true rfl) dX1_find_1 ⟨(Nat.le_of_ble_eq_true rfl), (Nat.le_of_ble_eq_true rfl)⟩ ⟨(Nat.le_of_ble_eq_true rfl), (Nat.le_of_ble_eq_true rfl)⟩ (fun H locs hM => ?_)
  refine lv_istore (i := 4) (lv' := [(4, .int v3), (0, va_rf (some a0)), (1, .int x1), (2, .int x2), (3, .int x3)]) hx hb dX1_find_4 hl (by decide) rfl (fun ls hl => ?_)
  refine lv_iconst (v := 0) hx hb dX1_find_6 (by decide) ?_
  refine lv_istore (i := 5) (lv' := [(5, .int 0), (4, .int v3), (0, va_rf (some a0)), (1, .int x1), (2, .int x2), (3, .int x3)]) hx hb dX1_find_7 hl (by decide) rfl (fun ls hl => ?_)
  refine W.widen (k := 0) (n := 0) (Nat.le_of_ble_eq_true rfl) (Nat.le_of_ble_eq_true rfl) ?_
  exact JL9 gN _ _ _ _ _ h _ _ _ hM (lv_sub hl [2, 3, 4, 5, 1, 0] rfl)
abbrev rm_X1_hasTwins : Room := { frames := 4, cells := 0, slots := 0, locals := 91 }
theorem k_X1_hasTwins : gKc yX1_hasTwins cX1_hasTwins 2 (some .boolean) 0 := ⟨u819, u64, by decide +kernel, by decide +kernel, by decide +kernel⟩
set_option maxHeartbeats 4000000 in
set_option maxRecDepth 100000 in
theorem c_X1_hasTwins {l : Launch} {D : va_G} {Y : Nat → ClassId} {S : GS} {hs : Nat} {a0 : Nat} {r : Int32} (h : f_X1_hasTwins S a0 = some r) : gMet l yX1_hasTwins (gWs yX1_hasTwins cX1_hasTwins 2 (some .boolean)) rm_X1_hasTwins [va_rf (some a0)] D Y S hs (some (.int r)) S hs := by
  refine g_ofW (by decide +kernel) (Or.inl ⟨(Nat.le_of_ble_eq_true rfl), (List.forall_mem_cons.mpr ⟨rf_cat _, (fun _ h => absurd h List.not_mem_nil)⟩)⟩) ?_
  intro p e s m args below meth c ls hsz hname hF hM hl
  have hl : lv_has ls 2 [(0, va_rf (some a0))] := by rw [g_args [va_rf (some a0)] 0 (List.forall_mem_cons.mpr ⟨rf_cat _, (fun _ h => absurd h List.not_mem_nil)⟩)] at hl; exact hl
  have hF : gF p s m args meth c RX1 cX1_hasTwins 2 (some .boolean) D Y (gA S hs) := hF
  have hx := hF.1
  have hb := hF.2.1
  have JL2 : ∀ (n : Nat) (x1 : Int32), f_X1_hasTwins_L2 S a0 n x1 = some r → ∀ (H : Heap) (locs : List Loc) (ls : Array Slot), gM D Y (gA S hs) s.heap S hs H locs → lv_has ls 2 [(0, va_rf (some a0)), (1, .int x1)] → W p l e rm_X1_hasTwins s m args below meth c H locs 0 0 (MQ below (gQ (some (.int r)) D Y S hs (gA S hs)) args s rm_X1_hasTwins.cells rm_X1_hasTwins.slots (gA S hs)) (F0 m 2 ls []) := by
    intro n
    induction n with
    | zero => intro x1 h; unfold f_X1_hasTwins_L2 at h; exact nomatch h
    | succ n ih =>
      intro x1 h H locs ls hM hl
      unfold f_X1_hasTwins_L2 at h
      refine lv_iload_n hx hb dX1_hasTwins_2 rfl (lv_at hl 1 rfl) ?_
      refine g_aload_n hx hb dX1_hasTwins_3 rfl (lv_at hl 0 rfl) ?_
      have g := gckE h
      clear h
      obtain ⟨t1, h⟩ := g
      have t1 := eq_of_beq t1
      have g := gbind h
      clear h
      obtain ⟨v3, e2, h⟩ := g
      refine g_callV (As := []) (rest := [.int x1]) hF hM (c_X1_count e2) k_X1_count u203 u196 u197 rfl rfl t1 rfl hl.1 rfl (Nat.le_of_ble_eq_true rfl) dX1_hasTwins_4 ⟨(Nat.le_of_ble_eq_true rfl), (Nat.le_of_ble_eq_true rfl)⟩ ⟨(Nat.le_of_ble_eq_true rfl), (Nat.le_of_ble_eq_true rfl)⟩ (fun H locs hM => ?_)
      refine lv_icmp_ge (tgt := 37) hx hb dX1_hasTwins_7 (by decide) (fun c4 => ?_) (fun c4 => ?_)
      · replace h := (if_pos c4).symm.trans h
        refine lv_iconst (v := 0) hx hb dX1_hasTwins_37 (by decide) ?_
        rw [← (Option.some.inj h)]
        exact g_iret hF hM rfl rfl dX1_hasTwins_38 (Nat.le_of_ble_eq_true rfl) (Nat.le_of_ble_eq_true rfl)
      · replace h := (if_neg c4).symm.trans h
        refine g_aload_n hx hb dX1_hasTwins_10 rfl (lv_at hl 0 rfl) ?_
        refine g_aload_n hx hb dX1_hasTwins_11 rfl (lv_at hl 0 rfl) ?_
        refine lv_iload_n hx hb dX1_hasTwins_12 rfl (lv_at hl 1 rfl) ?_
        have g := gckE h
        clear h
        obtain ⟨t5, h⟩ := g
        have t5 := eq_of_beq t5
        have g := gbind h
        clear h
        obtain ⟨v7, e6, h⟩ := g
        refine g_callV (As := [.int x1]) (rest := [va_rf (some a0)]) hF hM (c_X1_keyOf e6) k_X1_keyOf u225 u226 u227 rfl rfl t5 rfl hl.1 rfl (Nat.le_of_ble_eq_true rfl) dX1_hasTwins_13 ⟨(Nat.le_of_ble_eq_true rfl), (Nat.le_of_ble_eq_true rfl)⟩ ⟨(Nat.le_of_ble_eq_true rfl), (Nat.le_of_ble_eq_true rfl)⟩ (fun H locs hM => ?_)
        refine g_aload_n hx hb dX1_hasTwins_16 rfl (lv_at hl 0 rfl) ?_
        refine lv_iload_n hx hb dX1_hasTwins_17 rfl (lv_at hl 1 rfl) ?_
        have g := gckE h
        clear h
        obtain ⟨t8, h⟩ := g
        have t8 := eq_of_beq t8
        have g := gbind h
        clear h
        obtain ⟨v10, e9, h⟩ := g
        refine g_callV (As := [.int x1]) (rest := [.int v7, va_rf (some a0)]) hF hM (c_X1_markOf e9) k_X1_markOf u233 u234 u235 rfl rfl t8 rfl hl.1 rfl (Nat.le_of_ble_eq_true rfl) dX1_hasTwins_18 ⟨(Nat.le_of_ble_eq_true rfl), (Nat.le_of_ble_eq_true rfl)⟩ ⟨(Nat.le_of_ble_eq_true rfl), (Nat.le_of_ble_eq_true rfl)⟩ (fun H locs hM => ?_)
        refine lv_iconst (v := 1) hx hb dX1_hasTwins_21 (by decide) ?_
        have g := gckE h
        clear h
        obtain ⟨t11, h⟩ := g
        have t11 := eq_of_beq t11
        have g := gbind h
        clear h
        obtain ⟨v13, e12, h⟩ := g
        refine g_callV (As := [.int v7, .int v10, .int 1]) (rest := []) hF hM (c_X1_find e12) k_X1_find u820 u716 u717 rfl rfl t11 rfl hl.1 rfl (Nat.le_of_ble_eq_true rfl) dX1_hasTwins_22 ⟨(Nat.le_of_ble_eq_true rfl), (Nat.le_of_ble_eq_true rfl)⟩ ⟨(Nat.le_of_ble_eq_true rfl), (Nat.le_of_ble_eq_true rfl)⟩ (fun H locs hM => ?_)
        refine lv_iload_n hx hb dX1_hasTwins_25 rfl (lv_at hl 1 rfl) ?_
        refine lv_icmp_eq (tgt := 31) hx hb dX1_hasTwins_26 (by decide) (fun c14 => ?_) (fun c14 => ?_)
        · replace h := (if_pos c14).symm.trans h
          refine lv_iinc (v := (x1 + 1)) (lv' := [(1, .int (x1 + 1)), (0, va_rf (some a0))]) hx hb dX1_hasTwins_31 hl (k := 1) rfl rfl (by decide) rfl (fun ls hl => ?_)
          refine lv_goto (tgt := 2) hx hb dX1_hasTwins_34 (by decide) ?_
          refine W.widen (k := 0) (n := 0) (Nat.le_of_ble_eq_true rfl) (Nat.le_of_ble_eq_true rfl) ?_
          exact ih _ h _ _ _ hM (lv_sub hl [1, 0] rfl)
        · replace h := (if_neg c14).symm.trans h
          refine lv_iconst (v := 1) hx hb dX1_hasTwins_29 (by decide) ?_
          rw [← (Option.some.inj h)]
          exact g_iret hF hM rfl rfl dX1_hasTwins_30 (Nat.le_of_ble_eq_true rfl) (Nat.le_of_ble_eq_true rfl)
  unfold f_X1_hasTwins at h
  refine lv_iconst (v := 0) hx hb dX1_hasTwins_0 (by decide) ?_
  refine lv_istore_n (i := 1) (lv' := [(1, .int 0), (0, va_rf (some a0))]) hx hb dX1_hasTwins_1 rfl hl (by decide) rfl (fun ls hl => ?_)
  refine W.widen (k := 0) (n := 0) (Nat.le_of_ble_eq_true rfl) (Nat.le_of_ble_eq_true rfl) ?_
  exact JL2 gN _ h _ _ _ hM (lv_sub hl [1, 0] rfl)
abbrev rm_X1_hasRisingKeys : Room := { frames := 2, cells := 0, slots := 0, locals := 42 }
theorem k_X1_hasRisingKeys : gKc yX1_hasRisingKeys cX1_hasRisingKeys 2 (some .boolean) 0 := ⟨u898, u64, by decide +kernel, by decide +kernel, by decide +kernel⟩
set_option maxHeartbeats 4000000 in
set_option maxRecDepth 100000 in
theorem c_X1_hasRisingKeys {l : Launch} {D : va_G} {Y : Nat → ClassId} {S : GS} {hs : Nat} {a0 : Nat} {r : Int32} (h : f_X1_hasRisingKeys S a0 = some r) : gMet l yX1_hasRisingKeys (gWs yX1_hasRisingKeys cX1_hasRisingKeys 2 (some .boolean)) rm_X1_hasRisingKeys [va_rf (some a0)] D Y S hs (some (.int r)) S hs := by
  refine g_ofW (by decide +kernel) (Or.inl ⟨(Nat.le_of_ble_eq_true rfl), (List.forall_mem_cons.mpr ⟨rf_cat _, (fun _ h => absurd h List.not_mem_nil)⟩)⟩) ?_
  intro p e s m args below meth c ls hsz hname hF hM hl
  have hl : lv_has ls 2 [(0, va_rf (some a0))] := by rw [g_args [va_rf (some a0)] 0 (List.forall_mem_cons.mpr ⟨rf_cat _, (fun _ h => absurd h List.not_mem_nil)⟩)] at hl; exact hl
  have hF : gF p s m args meth c RX1 cX1_hasRisingKeys 2 (some .boolean) D Y (gA S hs) := hF
  have hx := hF.1
  have hb := hF.2.1
  have JL2 : ∀ (n : Nat) (x1 : Int32), f_X1_hasRisingKeys_L2 S a0 n x1 = some r → ∀ (H : Heap) (locs : List Loc) (ls : Array Slot), gM D Y (gA S hs) s.heap S hs H locs → lv_has ls 2 [(0, va_rf (some a0)), (1, .int x1)] → W p l e rm_X1_hasRisingKeys s m args below meth c H locs 0 0 (MQ below (gQ (some (.int r)) D Y S hs (gA S hs)) args s rm_X1_hasRisingKeys.cells rm_X1_hasRisingKeys.slots (gA S hs)) (F0 m 2 ls []) := by
    intro n
    induction n with
    | zero => intro x1 h; unfold f_X1_hasRisingKeys_L2 at h; exact nomatch h
    | succ n ih =>
      intro x1 h H locs ls hM hl
      unfold f_X1_hasRisingKeys_L2 at h
      refine lv_iload_n hx hb dX1_hasRisingKeys_2 rfl (lv_at hl 1 rfl) ?_
      refine g_aload_n hx hb dX1_hasRisingKeys_3 rfl (lv_at hl 0 rfl) ?_
      have g := gckE h
      clear h
      obtain ⟨t1, h⟩ := g
      have t1 := eq_of_beq t1
      have g := gbind h
      clear h
      obtain ⟨v3, e2, h⟩ := g
      refine g_callV (As := []) (rest := [.int x1]) hF hM (c_X1_count e2) k_X1_count u203 u196 u197 rfl rfl t1 rfl hl.1 rfl (Nat.le_of_ble_eq_true rfl) dX1_hasRisingKeys_4 ⟨(Nat.le_of_ble_eq_true rfl), (Nat.le_of_ble_eq_true rfl)⟩ ⟨(Nat.le_of_ble_eq_true rfl), (Nat.le_of_ble_eq_true rfl)⟩ (fun H locs hM => ?_)
      refine lv_icmp_ge (tgt := 33) hx hb dX1_hasRisingKeys_7 (by decide) (fun c4 => ?_) (fun c4 => ?_)
      · replace h := (if_pos c4).symm.trans h
        refine lv_iconst (v := 1) hx hb dX1_hasRisingKeys_33 (by decide) ?_
        rw [← (Option.some.inj h)]
        exact g_iret hF hM rfl rfl dX1_hasRisingKeys_34 (Nat.le_of_ble_eq_true rfl) (Nat.le_of_ble_eq_true rfl)
      · replace h := (if_neg c4).symm.trans h
        refine g_aload_n hx hb dX1_hasRisingKeys_10 rfl (lv_at hl 0 rfl) ?_
        refine lv_iload_n hx hb dX1_hasRisingKeys_11 rfl (lv_at hl 1 rfl) ?_
        have g := gckE h
        clear h
        obtain ⟨t5, h⟩ := g
        have t5 := eq_of_beq t5
        have g := gbind h
        clear h
        obtain ⟨v7, e6, h⟩ := g
        refine g_callV (As := [.int x1]) (rest := []) hF hM (c_X1_keyOf e6) k_X1_keyOf u225 u226 u227 rfl rfl t5 rfl hl.1 rfl (Nat.le_of_ble_eq_true rfl) dX1_hasRisingKeys_12 ⟨(Nat.le_of_ble_eq_true rfl), (Nat.le_of_ble_eq_true rfl)⟩ ⟨(Nat.le_of_ble_eq_true rfl), (Nat.le_of_ble_eq_true rfl)⟩ (fun H locs hM => ?_)
        refine g_aload_n hx hb dX1_hasRisingKeys_15 rfl (lv_at hl 0 rfl) ?_
        refine lv_iload_n hx hb dX1_hasRisingKeys_16 rfl (lv_at hl 1 rfl) ?_
        refine lv_iconst (v := 1) hx hb dX1_hasRisingKeys_17 (by decide) ?_
        refine lv_isub hx hb dX1_hasRisingKeys_18 ?_
        have g := gckE h
        clear h
        obtain ⟨t8, h⟩ := g
        have t8 := eq_of_beq t8
        have g := gbind h
        clear h
        obtain ⟨v10, e9, h⟩ := g
        refine g_callV (As := [.int (x1 - 1)]) (rest := [.int v7]) hF hM (c_X1_keyOf e9) k_X1_keyOf u225 u226 u227 rfl rfl t8 rfl hl.1 rfl (Nat.le_of_ble_eq_true rfl) dX1_hasRisingKeys_19 ⟨(Nat.le_of_ble_eq_true rfl), (Nat.le_of_ble_eq_true rfl)⟩ ⟨(Nat.le_of_ble_eq_true rfl), (Nat.le_of_ble_eq_true rfl)⟩ (fun H locs hM => ?_)
        refine lv_icmp_ge (tgt := 27) hx hb dX1_hasRisingKeys_22 (by decide) (fun c11 => ?_) (fun c11 => ?_)
        · replace h := (if_pos c11).symm.trans h
          refine lv_iinc (v := (x1 + 1)) (lv' := [(1, .int (x1 + 1)), (0, va_rf (some a0))]) hx hb dX1_hasRisingKeys_27 hl (k := 1) rfl rfl (by decide) rfl (fun ls hl => ?_)
          refine lv_goto (tgt := 2) hx hb dX1_hasRisingKeys_30 (by decide) ?_
          refine W.widen (k := 0) (n := 0) (Nat.le_of_ble_eq_true rfl) (Nat.le_of_ble_eq_true rfl) ?_
          exact ih _ h _ _ _ hM (lv_sub hl [1, 0] rfl)
        · replace h := (if_neg c11).symm.trans h
          refine lv_iconst (v := 0) hx hb dX1_hasRisingKeys_25 (by decide) ?_
          rw [← (Option.some.inj h)]
          exact g_iret hF hM rfl rfl dX1_hasRisingKeys_26 (Nat.le_of_ble_eq_true rfl) (Nat.le_of_ble_eq_true rfl)
  unfold f_X1_hasRisingKeys at h
  refine lv_iconst (v := 1) hx hb dX1_hasRisingKeys_0 (by decide) ?_
  refine lv_istore_n (i := 1) (lv' := [(1, .int 1), (0, va_rf (some a0))]) hx hb dX1_hasRisingKeys_1 rfl hl (by decide) rfl (fun ls hl => ?_)
  refine W.widen (k := 0) (n := 0) (Nat.le_of_ble_eq_true rfl) (Nat.le_of_ble_eq_true rfl) ?_
  exact JL2 gN _ h _ _ _ hM (lv_sub hl [1, 0] rfl)
abbrev rm_X1_addAllTo : Room := { frames := 3, cells := 0, slots := 0, locals := 63 }
theorem k_X1_addAllTo : gKc yX1_addAllTo cX1_addAllTo 7 (some .long) 2 := ⟨u202, u64, by decide +kernel, by decide +kernel, by decide +kernel⟩
set_option maxHeartbeats 4000000 in
set_option maxRecDepth 100000 in
theorem c_X1_addAllTo {l : Launch} {D : va_G} {Y : Nat → ClassId} {S : GS} {hs : Nat} {a0 : Nat} {x1 : Int64} {x3 : Int32} {r : Int64} (h : f_X1_addAllTo S a0 x1 x3 = some r) : gMet l yX1_addAllTo (gWs yX1_addAllTo cX1_addAllTo 7 (some .long)) rm_X1_addAllTo [va_rf (some a0), .long x1, .int x3] D Y S hs (some (.long r)) S hs := by
  refine g_ofW (by decide +kernel) (Or.inr (Nat.le_of_ble_eq_true rfl)) ?_
  intro p e s m args below meth c ls hsz hname hF hM hl
  have hl : lv_has ls 7 [(0, va_rf (some a0)), (1, .long x1), (3, .int x3)] := hl
  have hF : gF p s m args meth c RX1 cX1_addAllTo 7 (some .long) D Y (gA S hs) := hF
  have hx := hF.1
  have hb := hF.2.1
  have Jb87 : ∀ (k9 : Int64 → Int32 → Int32 → Int32 → Option (Int64)) (hk9 : ∀ (x1 : Int64) (x3 : Int32) (x4 : Int32) (x5 : Int32), k9 x1 x3 x4 x5 = some r → ∀ (H : Heap) (locs : List Loc) (ls : Array Slot), gM D Y (gA S hs) s.heap S hs H locs → lv_has ls 7 [(0, va_rf (some a0)), (1, .long x1), (3, .int x3), (4, .int x4), (5, .int x5)] → W p l e rm_X1_addAllTo s m args below meth c H locs 0 0 (MQ below (gQ (some (.long r)) D Y S hs (gA S hs)) args s rm_X1_addAllTo.cells rm_X1_addAllTo.slots (gA S hs)) (F0 m 9 ls [])) (x1 : Int64) (x3 : Int32) (x4 : Int32) (x5 : Int32), f_X1_addAllTo_b87 k9 S a0 x1 x3 x4 x5 = some r → ∀ (H : Heap) (locs : List Loc) (ls : Array Slot), gM D Y (gA S hs) s.heap S hs H locs → lv_has ls 7 [(0, va_rf (some a0)), (1, .long x1), (3, .int x3), (4, .int x4), (5, .int x5)] → W p l e rm_X1_addAllTo s m args below meth c H locs 0 0 (MQ below (gQ (some (.long r)) D Y S hs (gA S hs)) args s rm_X1_addAllTo.cells rm_X1_addAllTo.slots (gA S hs)) (F0 m 87 ls []) := by
    intro k9 hk9 x1 x3 x4 x5 h H locs ls hM hl
    unfold f_X1_addAllTo_b87 at h
    refine lv_iinc (v := (x5 + 1)) (lv' := [(5, .int (x5 + 1)), (0, va_rf (some a0)), (1, .long x1), (3, .int x3), (4, .int x4)]) hx hb dX1_addAllTo_87 hl (k := 4) rfl rfl (by decide) rfl (fun ls hl => ?_)
    refine lv_goto (tgt := 9) hx hb dX1_addAllTo_90 (by decide) ?_
    refine W.widen (k := 0) (n := 0) (Nat.le_of_ble_eq_true rfl) (Nat.le_of_ble_eq_true rfl) ?_
    exact hk9 _ _ _ _ h _ _ _ hM (lv_sub hl [1, 2, 3, 4, 0] rfl)
  have Jb64 : ∀ (k9 : Int64 → Int32 → Int32 → Int32 → Option (Int64)) (hk9 : ∀ (x1 : Int64) (x3 : Int32) (x4 : Int32) (x5 : Int32), k9 x1 x3 x4 x5 = some r → ∀ (H : Heap) (locs : List Loc) (ls : Array Slot), gM D Y (gA S hs) s.heap S hs H locs → lv_has ls 7 [(0, va_rf (some a0)), (1, .long x1), (3, .int x3), (4, .int x4), (5, .int x5)] → W p l e rm_X1_addAllTo s m args below meth c H locs 0 0 (MQ below (gQ (some (.long r)) D Y S hs (gA S hs)) args s rm_X1_addAllTo.cells rm_X1_addAllTo.slots (gA S hs)) (F0 m 9 ls [])) (x1 : Int64) (x3 : Int32) (x4 : Int32) (x5 : Int32) (x6 : Int32), f_X1_addAllTo_b64 k9 S a0 x1 x3 x4 x5 x6 = some r → ∀ (H : Heap) (locs : List Loc) (ls : Array Slot), gM D Y (gA S hs) s.heap S hs H locs → lv_has ls 7 [(0, va_rf (some a0)), (1, .long x1), (3, .int x3), (4, .int x4), (5, .int x5), (6, .int x6)] → W p l e rm_X1_addAllTo s m args below meth c H locs 0 0 (MQ below (gQ (some (.long r)) D Y S hs (gA S hs)) args s rm_X1_addAllTo.cells rm_X1_addAllTo.slots (gA S hs)) (F0 m 64 ls []) := by
    intro k9 hk9 x1 x3 x4 x5 x6 h H locs ls hM hl
    unfold f_X1_addAllTo_b64 at h
    refine g_aload_n hx hb dX1_addAllTo_64 rfl (lv_at hl 0 rfl) ?_
    have g := gbind h
    clear h
    obtain ⟨v13, e14, h⟩ := g
    refine g_getI hF hM fdX1 e14 (by decide) rfl u130 dX1_addAllTo_65 ?_
    refine lv_bipush (v := 107) hx hb dX1_addAllTo_68 (by decide) ?_
    refine lv_icmp_eq (tgt := 87) hx hb dX1_addAllTo_70 (by decide) (fun c15 => ?_) (fun c15 => ?_)
    · replace h := (if_pos c15).symm.trans h
      refine W.widen (k := 0) (n := 0) (Nat.le_of_ble_eq_true rfl) (Nat.le_of_ble_eq_true rfl) ?_
      exact Jb87 _ hk9 _ _ _ _ h _ _ _ hM (lv_sub hl [0, 1, 2, 3, 4] rfl)
    · replace h := (if_neg c15).symm.trans h
      refine lv_ldc2 (v := 31) hx hb hF.2.2.2.1 (hF.2.2.2.2.1 _ u208) dX1_addAllTo_73 ?_
      refine lv_lload_n hx hb dX1_addAllTo_76 rfl (lv_at hl 1 rfl) ?_
      refine lv_lmul hx hb dX1_addAllTo_77 ?_
      refine g_aload_n hx hb dX1_addAllTo_78 rfl (lv_at hl 0 rfl) ?_
      refine lv_iload hx hb dX1_addAllTo_79 (lv_at hl 5 rfl) ?_
      have g := gckE h
      clear h
      obtain ⟨t16, h⟩ := g
      have t16 := eq_of_beq t16
      have g := gbind h
      clear h
      obtain ⟨v18, e17, h⟩ := g
      refine g_callV (As := [.int x6]) (rest := [.long (31 * x1)]) hF hM (c_X1_hashOf e17) k_X1_hashOf u221 u222 u223 rfl rfl t16 rfl hl.1 rfl (Nat.le_of_ble_eq_true rfl) dX1_addAllTo_81 ⟨(Nat.le_of_ble_eq_true rfl), (Nat.le_of_ble_eq_true rfl)⟩ ⟨(Nat.le_of_ble_eq_true rfl), (Nat.le_of_ble_eq_true rfl)⟩ (fun H locs hM => ?_)
      refine lv_i2l hx hb dX1_addAllTo_84 rfl ?_
      refine lv_ladd hx hb dX1_addAllTo_85 ?_
      refine lv_lstore_n (i := 1) (lv' := [(1, .long ((31 * x1) + (v18).toInt64)), (0, va_rf (some a0)), (3, .int x3), (4, .int x4), (5, .int x5), (6, .int x6)]) hx hb dX1_addAllTo_86 rfl hl (by decide) rfl (fun ls hl => ?_)
      refine W.widen (k := 0) (n := 0) (Nat.le_of_ble_eq_true rfl) (Nat.le_of_ble_eq_true rfl) ?_
      exact Jb87 _ hk9 _ _ _ _ h _ _ _ hM (lv_sub hl [1, 0, 2, 3, 4] rfl)
  have Jb50 : ∀ (k9 : Int64 → Int32 → Int32 → Int32 → Option (Int64)) (hk9 : ∀ (x1 : Int64) (x3 : Int32) (x4 : Int32) (x5 : Int32), k9 x1 x3 x4 x5 = some r → ∀ (H : Heap) (locs : List Loc) (ls : Array Slot), gM D Y (gA S hs) s.heap S hs H locs → lv_has ls 7 [(0, va_rf (some a0)), (1, .long x1), (3, .int x3), (4, .int x4), (5, .int x5)] → W p l e rm_X1_addAllTo s m args below meth c H locs 0 0 (MQ below (gQ (some (.long r)) D Y S hs (gA S hs)) args s rm_X1_addAllTo.cells rm_X1_addAllTo.slots (gA S hs)) (F0 m 9 ls [])) (x1 : Int64) (x3 : Int32) (x4 : Int32) (x5 : Int32) (x6 : Int32), f_X1_addAllTo_b50 k9 S a0 x1 x3 x4 x5 x6 = some r → ∀ (H : Heap) (locs : List Loc) (ls : Array Slot), gM D Y (gA S hs) s.heap S hs H locs → lv_has ls 7 [(0, va_rf (some a0)), (1, .long x1), (3, .int x3), (4, .int x4), (5, .int x5), (6, .int x6)] → W p l e rm_X1_addAllTo s m args below meth c H locs 0 0 (MQ below (gQ (some (.long r)) D Y S hs (gA S hs)) args s rm_X1_addAllTo.cells rm_X1_addAllTo.slots (gA S hs)) (F0 m 50 ls []) := by
    intro k9 hk9 x1 x3 x4 x5 x6 h H locs ls hM hl
    unfold f_X1_addAllTo_b50 at h
    refine lv_ldc2 (v := 31) hx hb hF.2.2.2.1 (hF.2.2.2.2.1 _ u208) dX1_addAllTo_50 ?_
    refine lv_lload_n hx hb dX1_addAllTo_53 rfl (lv_at hl 1 rfl) ?_
    refine lv_lmul hx hb dX1_addAllTo_54 ?_
    refine g_aload_n hx hb dX1_addAllTo_55 rfl (lv_at hl 0 rfl) ?_
    refine lv_iload hx hb dX1_addAllTo_56 (lv_at hl 5 rfl) ?_
    have g := gckE h
    clear h
    obtain ⟨t10, h⟩ := g
    have t10 := eq_of_beq t10
    have g := gbind h
    clear h
    obtain ⟨v12, e11, h⟩ := g
    refine g_callV (As := [.int x6]) (rest := [.long (31 * x1)]) hF hM (c_X1_numberOf e11) k_X1_numberOf u209 u210 u211 rfl rfl t10 rfl hl.1 rfl (Nat.le_of_ble_eq_true rfl) dX1_addAllTo_58 ⟨(Nat.le_of_ble_eq_true rfl), (Nat.le_of_ble_eq_true rfl)⟩ ⟨(Nat.le_of_ble_eq_true rfl), (Nat.le_of_ble_eq_true rfl)⟩ (fun H locs hM => ?_)
    refine lv_i2l hx hb dX1_addAllTo_61 rfl ?_
    refine lv_ladd hx hb dX1_addAllTo_62 ?_
    refine lv_lstore_n (i := 1) (lv' := [(1, .long ((31 * x1) + (v12).toInt64)), (0, va_rf (some a0)), (3, .int x3), (4, .int x4), (5, .int x5), (6, .int x6)]) hx hb dX1_addAllTo_63 rfl hl (by decide) rfl (fun ls hl => ?_)
    refine W.widen (k := 0) (n := 0) (Nat.le_of_ble_eq_true rfl) (Nat.le_of_ble_eq_true rfl) ?_
    exact Jb64 _ hk9 _ _ _ _ _ h _ _ _ hM (lv_sub hl [1, 0, 2, 3, 4, 5] rfl)
  have Jb32 : ∀ (k9 : Int64 → Int32 → Int32 → Int32 → Option (Int64)) (hk9 : ∀ (x1 : Int64) (x3 : Int32) (x4 : Int32) (x5 : Int32), k9 x1 x3 x4 x5 = some r → ∀ (H : Heap) (locs : List Loc) (ls : Array Slot), gM D Y (gA S hs) s.heap S hs H locs → lv_has ls 7 [(0, va_rf (some a0)), (1, .long x1), (3, .int x3), (4, .int x4), (5, .int x5)] → W p l e rm_X1_addAllTo s m args below meth c H locs 0 0 (MQ below (gQ (some (.long r)) D Y S hs (gA S hs)) args s rm_X1_addAllTo.cells rm_X1_addAllTo.slots (gA S hs)) (F0 m 9 ls [])) (x1 : Int64) (x3 : Int32) (x4 : Int32) (x5 : Int32) (s0 : Int32), f_X1_addAllTo_b32 k9 S a0 x1 x3 x4 x5 s0 = some r → ∀ (H : Heap) (locs : List Loc) (ls : Array Slot), gM D Y (gA S hs) s.heap S hs H locs → lv_has ls 7 [(0, va_rf (some a0)), (1, .long x1), (3, .int x3), (4, .int x4), (5, .int x5)] → W p l e rm_X1_addAllTo s m args below meth c H locs 0 0 (MQ below (gQ (some (.long r)) D Y S hs (gA S hs)) args s rm_X1_addAllTo.cells rm_X1_addAllTo.slots (gA S hs)) (F0 m 32 ls [.int s0]) := by
    intro k9 hk9 x1 x3 x4 x5 s0 h H locs ls hM hl
    unfold f_X1_addAllTo_b32 at h
    refine lv_istore (i := 6) (lv' := [(6, .int s0), (0, va_rf (some a0)), (1, .long x1), (3, .int x3), (4, .int x4), (5, .int x5)]) hx hb dX1_addAllTo_32 hl (by decide) rfl (fun ls hl => ?_)
    refine g_aload_n hx hb dX1_addAllTo_34 rfl (lv_at hl 1 rfl) ?_
    have g := gckE h
    clear h
    obtain ⟨t6, h⟩ := g
    have t6 := eq_of_beq t6
    have g := gbind h
    clear h
    obtain ⟨v8, e7, h⟩ := g
    refine g_callV (As := []) (rest := []) hF hM (c_X1_isMap e7) k_X1_isMap u204 u205 u206 rfl rfl t6 rfl hl.1 rfl (Nat.le_of_ble_eq_true rfl) dX1_addAllTo_35 ⟨(Nat.le_of_ble_eq_true rfl), (Nat.le_of_ble_eq_true rfl)⟩ ⟨(Nat.le_of_ble_eq_true rfl), (Nat.le_of_ble_eq_true rfl)⟩ (fun H locs hM => ?_)
    refine lv_if_ne (tgt := 50) hx hb dX1_addAllTo_38 (by decide) (fun c9 => ?_) (fun c9 => ?_)
    · replace h := (if_neg c9).symm.trans h
      refine W.widen (k := 0) (n := 0) (Nat.le_of_ble_eq_true rfl) (Nat.le_of_ble_eq_true rfl) ?_
      exact Jb50 _ hk9 _ _ _ _ _ h _ _ _ hM (lv_sub hl [1, 2, 3, 4, 5, 0] rfl)
    · replace h := (if_pos c9).symm.trans h
      refine g_aload_n hx hb dX1_addAllTo_41 rfl (lv_at hl 1 rfl) ?_
      have g := gbind h
      clear h
      obtain ⟨v19, e20, h⟩ := g
      refine g_getI hF hM fdX1 e20 (by decide) rfl u130 dX1_addAllTo_42 ?_
      refine lv_bipush (v := 107) hx hb dX1_addAllTo_45 (by decide) ?_
      refine lv_icmp_ne (tgt := 64) hx hb dX1_addAllTo_47 (by decide) (fun c21 => ?_) (fun c21 => ?_)
      · replace h := (if_neg c21).symm.trans h
        refine W.widen (k := 0) (n := 0) (Nat.le_of_ble_eq_true rfl) (Nat.le_of_ble_eq_true rfl) ?_
        exact Jb64 _ hk9 _ _ _ _ _ h _ _ _ hM (lv_sub hl [1, 2, 3, 4, 5, 0] rfl)
      · replace h := (if_pos c21).symm.trans h
        refine W.widen (k := 0) (n := 0) (Nat.le_of_ble_eq_true rfl) (Nat.le_of_ble_eq_true rfl) ?_
        exact Jb50 _ hk9 _ _ _ _ _ h _ _ _ hM (lv_sub hl [1, 2, 3, 4, 5, 0] rfl)
  have JL9 : ∀ (n : Nat) (x1 : Int64) (x3 : Int32) (x4 : Int32) (x5 : Int32), f_X1_addAllTo_L9 S a0 n x1 x3 x4 x5 = some r → ∀ (H : Heap) (locs : List Loc) (ls : Array Slot), gM D Y (gA S hs) s.heap S hs H locs → lv_has ls 7 [(0, va_rf (some a0)), (1, .long x1), (3, .int x3), (4, .int x4), (5, .int x5)] → W p l e rm_X1_addAllTo s m args below meth c H locs 0 0 (MQ below (gQ (some (.long r)) D Y S hs (gA S hs)) args s rm_X1_addAllTo.cells rm_X1_addAllTo.slots (gA S hs)) (F0 m 9 ls []) := by
    intro n
    induction n with
    | zero => intro x1 x3 x4 x5 h; unfold f_X1_addAllTo_L9 at h; exact nomatch h
    | succ n ih =>
      intro x1 x3 x4 x5 h H locs ls hM hl
      unfold f_X1_addAllTo_L9 at h
      refine lv_iload hx hb dX1_addAllTo_9 (lv_at hl 4 rfl) ?_
      refine lv_iload hx hb dX1_addAllTo_11 (lv_at hl 3 rfl) ?_
      refine lv_icmp_ge (tgt := 93) hx hb dX1_addAllTo_13 (by decide) (fun c4 => ?_) (fun c4 => ?_)
      · replace h := (if_pos c4).symm.trans h
        refine lv_lload_n hx hb dX1_addAllTo_93 rfl (lv_at hl 1 rfl) ?_
        rw [← (Option.some.inj h)]
        exact g_lret hF hM rfl dX1_addAllTo_94 (Nat.le_of_ble_eq_true rfl) (Nat.le_of_ble_eq_true rfl)
      · replace h := (if_neg c4).symm.trans h
        refine lv_iload_n hx hb dX1_addAllTo_16 rfl (lv_at hl 2 rfl) ?_
        refine lv_if_eq (tgt := 30) hx hb dX1_addAllTo_17 (by decide) (fun c5 => ?_) (fun c5 => ?_)
        · replace h := (if_pos c5).symm.trans h
          refine lv_iload hx hb dX1_addAllTo_30 (lv_at hl 4 rfl) ?_
          refine W.widen (k := 0) (n := 0) (Nat.le_of_ble_eq_true rfl) (Nat.le_of_ble_eq_true rfl) ?_
          exact Jb32 _ ih _ _ _ _ _ h _ _ _ hM (lv_sub hl [0, 1, 2, 3, 4] rfl)
        · replace h := (if_neg c5).symm.trans h
          refine lv_iload hx hb dX1_addAllTo_20 (lv_at hl 3 rfl) ?_
          refine lv_iconst (v := 1) hx hb dX1_addAllTo_22 (by decide) ?_
          refine lv_isub hx hb dX1_addAllTo_23 ?_
          refine lv_iload hx hb dX1_addAllTo_24 (lv_at hl 4 rfl) ?_
          refine lv_isub hx hb dX1_addAllTo_26 ?_
          refine lv_goto (tgt := 32) hx hb dX1_addAllTo_27 (by decide) ?_
          refine W.widen (k := 0) (n := 0) (Nat.le_of_ble_eq_true rfl) (Nat.le_of_ble_eq_true rfl) ?_
          exact Jb32 _ ih _ _ _ _ _ h _ _ _ hM (lv_sub hl [0, 1, 2, 3, 4] rfl)
  unfold f_X1_addAllTo at h
  refine g_aload_n hx hb dX1_addAllTo_0 rfl (lv_at hl 0 rfl) ?_
  have g := gckE h
  clear h
  obtain ⟨t1, h⟩ := g
  have t1 := eq_of_beq t1
  have g := gbind h
  clear h
  obtain ⟨v3, e2, h⟩ := g
  refine g_callV (As := []) (rest := []) hF hM (c_X1_count e2) k_X1_count u203 u196 u197 rfl rfl t1 rfl hl.1 rfl (Nat.le_of_ble_eq_true rfl) dX1_addAllTo_1 ⟨(Nat.le_of_ble_eq_true rfl), (Nat.le_of_ble_eq_true rfl)⟩ ⟨(Nat.le_of_ble_eq_true rfl), (Nat.le_of_ble_eq_true rfl)⟩ (fun H locs hM => ?_)
  refine lv_istore (i := 4) (lv' := [(4, .int v3), (0, va_rf (some a0)), (1, .long x1), (3, .int x3)]) hx hb dX1_addAllTo_4 hl (by decide) rfl (fun ls hl => ?_)
  refine lv_iconst (v := 0) hx hb dX1_addAllTo_6 (by decide) ?_
  refine lv_istore (i := 5) (lv' := [(5, .int 0), (4, .int v3), (0, va_rf (some a0)), (1, .long x1), (3, .int x3)]) hx hb dX1_addAllTo_7 hl (by decide) rfl (fun ls hl => ?_)
  refine W.widen (k := 0) (n := 0) (Nat.le_of_ble_eq_true rfl) (Nat.le_of_ble_eq_true rfl) ?_
  exact JL9 gN _ _ _ _ h _ _ _ hM (lv_sub hl [2, 3, 4, 1, 0] rfl)
abbrev rm_X1_keysHash : Room := { frames := 2, cells := 0, slots := 0, locals := 42 }
theorem k_X1_keysHash : gKc yX1_keysHash cX1_keysHash 3 (some .int) 0 := ⟨u683, u64, by decide +kernel, by decide +kernel, by decide +kernel⟩
set_option maxHeartbeats 4000000 in
set_option maxRecDepth 100000 in
theorem c_X1_keysHash {l : Launch} {D : va_G} {Y : Nat → ClassId} {S : GS} {hs : Nat} {a0 : Nat} {r : Int32} (h : f_X1_keysHash S a0 = some r) : gMet l yX1_keysHash (gWs yX1_keysHash cX1_keysHash 3 (some .int)) rm_X1_keysHash [va_rf (some a0)] D Y S hs (some (.int r)) S hs := by
  refine g_ofW (by decide +kernel) (Or.inl ⟨(Nat.le_of_ble_eq_true rfl), (List.forall_mem_cons.mpr ⟨rf_cat _, (fun _ h => absurd h List.not_mem_nil)⟩)⟩) ?_
  intro p e s m args below meth c ls hsz hname hF hM hl
  have hl : lv_has ls 3 [(0, va_rf (some a0))] := by rw [g_args [va_rf (some a0)] 0 (List.forall_mem_cons.mpr ⟨rf_cat _, (fun _ h => absurd h List.not_mem_nil)⟩)] at hl; exact hl
  have hF : gF p s m args meth c RX1 cX1_keysHash 3 (some .int) D Y (gA S hs) := hF
  have hx := hF.1
  have hb := hF.2.1
  have JL4 : ∀ (n : Nat) (x1 : Int32) (x2 : Int32), f_X1_keysHash_L4 S a0 n x1 x2 = some r → ∀ (H : Heap) (locs : List Loc) (ls : Array Slot), gM D Y (gA S hs) s.heap S hs H locs → lv_has ls 3 [(0, va_rf (some a0)), (1, .int x1), (2, .int x2)] → W p l e rm_X1_keysHash s m args below meth c H locs 0 0 (MQ below (gQ (some (.int r)) D Y S hs (gA S hs)) args s rm_X1_keysHash.cells rm_X1_keysHash.slots (gA S hs)) (F0 m 4 ls []) := by
    intro n
    induction n with
    | zero => intro x1 x2 h; unfold f_X1_keysHash_L4 at h; exact nomatch h
    | succ n ih =>
      intro x1 x2 h H locs ls hM hl
      unfold f_X1_keysHash_L4 at h
      refine lv_iload_n hx hb dX1_keysHash_4 rfl (lv_at hl 2 rfl) ?_
      refine g_aload_n hx hb dX1_keysHash_5 rfl (lv_at hl 0 rfl) ?_
      have g := gckE h
      clear h
      obtain ⟨t1, h⟩ := g
      have t1 := eq_of_beq t1
      have g := gbind h
      clear h
      obtain ⟨v3, e2, h⟩ := g
      refine g_callV (As := []) (rest := [.int x2]) hF hM (c_X1_count e2) k_X1_count u203 u196 u197 rfl rfl t1 rfl hl.1 rfl (Nat.le_of_ble_eq_true rfl) dX1_keysHash_6 ⟨(Nat.le_of_ble_eq_true rfl), (Nat.le_of_ble_eq_true rfl)⟩ ⟨(Nat.le_of_ble_eq_true rfl), (Nat.le_of_ble_eq_true rfl)⟩ (fun H locs hM => ?_)
      refine lv_icmp_ge (tgt := 26) hx hb dX1_keysHash_9 (by decide) (fun c4 => ?_) (fun c4 => ?_)
      · replace h := (if_pos c4).symm.trans h
        refine lv_iload_n hx hb dX1_keysHash_26 rfl (lv_at hl 1 rfl) ?_
        rw [← (Option.some.inj h)]
        exact g_iret hF hM rfl rfl dX1_keysHash_27 (Nat.le_of_ble_eq_true rfl) (Nat.le_of_ble_eq_true rfl)
      · replace h := (if_neg c4).symm.trans h
        refine lv_iload_n hx hb dX1_keysHash_12 rfl (lv_at hl 1 rfl) ?_
        refine g_aload_n hx hb dX1_keysHash_13 rfl (lv_at hl 0 rfl) ?_
        refine lv_iload_n hx hb dX1_keysHash_14 rfl (lv_at hl 2 rfl) ?_
        have g := gckE h
        clear h
        obtain ⟨t5, h⟩ := g
        have t5 := eq_of_beq t5
        have g := gbind h
        clear h
        obtain ⟨v7, e6, h⟩ := g
        refine g_callV (As := [.int x2]) (rest := [.int x1]) hF hM (c_X1_numberOf e6) k_X1_numberOf u209 u210 u211 rfl rfl t5 rfl hl.1 rfl (Nat.le_of_ble_eq_true rfl) dX1_keysHash_15 ⟨(Nat.le_of_ble_eq_true rfl), (Nat.le_of_ble_eq_true rfl)⟩ ⟨(Nat.le_of_ble_eq_true rfl), (Nat.le_of_ble_eq_true rfl)⟩ (fun H locs hM => ?_)
        refine lv_iadd hx hb dX1_keysHash_18 ?_
        refine lv_istore_n (i := 1) (lv' := [(1, .int (x1 + v7)), (0, va_rf (some a0)), (2, .int x2)]) hx hb dX1_keysHash_19 rfl hl (by decide) rfl (fun ls hl => ?_)
        refine lv_iinc (v := (x2 + 1)) (lv' := [(2, .int (x2 + 1)), (1, .int (x1 + v7)), (0, va_rf (some a0))]) hx hb dX1_keysHash_20 hl (k := 2) rfl rfl (by decide) rfl (fun ls hl => ?_)
        refine lv_goto (tgt := 4) hx hb dX1_keysHash_23 (by decide) ?_
        refine W.widen (k := 0) (n := 0) (Nat.le_of_ble_eq_true rfl) (Nat.le_of_ble_eq_true rfl) ?_
        exact ih _ _ h _ _ _ hM (lv_sub hl [2, 1, 0] rfl)
  unfold f_X1_keysHash at h
  refine lv_iconst (v := 0) hx hb dX1_keysHash_0 (by decide) ?_
  refine lv_istore_n (i := 1) (lv' := [(1, .int 0), (0, va_rf (some a0))]) hx hb dX1_keysHash_1 rfl hl (by decide) rfl (fun ls hl => ?_)
  refine lv_iconst (v := 0) hx hb dX1_keysHash_2 (by decide) ?_
  refine lv_istore_n (i := 2) (lv' := [(2, .int 0), (1, .int 0), (0, va_rf (some a0))]) hx hb dX1_keysHash_3 rfl hl (by decide) rfl (fun ls hl => ?_)
  refine W.widen (k := 0) (n := 0) (Nat.le_of_ble_eq_true rfl) (Nat.le_of_ble_eq_true rfl) ?_
  exact JL4 gN _ _ h _ _ _ hM (lv_sub hl [2, 1, 0] rfl)
abbrev rm_X1_hasNumbersLike : Room := { frames := 3, cells := 0, slots := 0, locals := 64 }
theorem k_X1_hasNumbersLike : gKc yX1_hasNumbersLike cX1_hasNumbersLike 3 (some .boolean) 1 := ⟨u671, u64, by decide +kernel, by decide +kernel, by decide +kernel⟩
set_option maxHeartbeats 4000000 in
set_option maxRecDepth 100000 in
theorem c_X1_hasNumbersLike {l : Launch} {D : va_G} {Y : Nat → ClassId} {S : GS} {hs : Nat} {a0 : Nat} {x1 : Option Nat} {r : Int32} (h : f_X1_hasNumbersLike S a0 x1 = some r) : gMet l yX1_hasNumbersLike (gWs yX1_hasNumbersLike cX1_hasNumbersLike 3 (some .boolean)) rm_X1_hasNumbersLike [va_rf (some a0), va_rf x1] D Y S hs (some (.int r)) S hs := by
  refine g_ofW (by decide +kernel) (Or.inl ⟨(Nat.le_of_ble_eq_true rfl), (List.forall_mem_cons.mpr ⟨rf_cat _, (List.forall_mem_cons.mpr ⟨rf_cat _, (fun _ h => absurd h List.not_mem_nil)⟩)⟩)⟩) ?_
  intro p e s m args below meth c ls hsz hname hF hM hl
  have hl : lv_has ls 3 [(0, va_rf (some a0)), (1, va_rf x1)] := by rw [g_args [va_rf (some a0), va_rf x1] 0 (List.forall_mem_cons.mpr ⟨rf_cat _, (List.forall_mem_cons.mpr ⟨rf_cat _, (fun _ h => absurd h List.not_mem_nil)⟩)⟩)] at hl; exact hl
  have hF : gF p s m args meth c RX1 cX1_hasNumbersLike 3 (some .boolean) D Y (gA S hs) := hF
  have hx := hF.1
  have hb := hF.2.1
  have JL2 : ∀ (n : Nat) (x1 : Option Nat) (x2 : Int32), f_X1_hasNumbersLike_L2 S a0 n x1 x2 = some r → ∀ (H : Heap) (locs : List Loc) (ls : Array Slot), gM D Y (gA S hs) s.heap S hs H locs → lv_has ls 3 [(0, va_rf (some a0)), (1, va_rf x1), (2, .int x2)] → W p l e rm_X1_hasNumbersLike s m args below meth c H locs 0 0 (MQ below (gQ (some (.int r)) D Y S hs (gA S hs)) args s rm_X1_hasNumbersLike.cells rm_X1_hasNumbersLike.slots (gA S hs)) (F0 m 2 ls []) := by
    intro n
    induction n with
    | zero => intro x1 x2 h; unfold f_X1_hasNumbersLike_L2 at h; exact nomatch h
    | succ n ih =>
      intro x1 x2 h H locs ls hM hl
      unfold f_X1_hasNumbersLike_L2 at h
      refine lv_iload_n hx hb dX1_hasNumbersLike_2 rfl (lv_at hl 2 rfl) ?_
      refine g_aload_n hx hb dX1_hasNumbersLike_3 rfl (lv_at hl 0 rfl) ?_
      have g := gckE h
      clear h
      obtain ⟨t1, h⟩ := g
      have t1 := eq_of_beq t1
      have g := gbind h
      clear h
      obtain ⟨v3, e2, h⟩ := g
      refine g_callV (As := []) (rest := [.int x2]) hF hM (c_X1_count e2) k_X1_count u203 u196 u197 rfl rfl t1 rfl hl.1 rfl (Nat.le_of_ble_eq_true rfl) dX1_hasNumbersLike_4 ⟨(Nat.le_of_ble_eq_true rfl), (Nat.le_of_ble_eq_true rfl)⟩ ⟨(Nat.le_of_ble_eq_true rfl), (Nat.le_of_ble_eq_true rfl)⟩ (fun H locs hM => ?_)
      refine lv_icmp_ge (tgt := 30) hx hb dX1_hasNumbersLike_7 (by decide) (fun c4 => ?_) (fun c4 => ?_)
      · replace h := (if_pos c4).symm.trans h
        refine g_aload_n hx hb dX1_hasNumbersLike_30 rfl (lv_at hl 0 rfl) ?_
        have g := gckE h
        clear h
        obtain ⟨t5, h⟩ := g
        have t5 := eq_of_beq t5
        have g := gbind h
        clear h
        obtain ⟨v7, e6, h⟩ := g
        refine g_callV (As := []) (rest := []) hF hM (c_X1_count e6) k_X1_count u203 u196 u197 rfl rfl t5 rfl hl.1 rfl (Nat.le_of_ble_eq_true rfl) dX1_hasNumbersLike_31 ⟨(Nat.le_of_ble_eq_true rfl), (Nat.le_of_ble_eq_true rfl)⟩ ⟨(Nat.le_of_ble_eq_true rfl), (Nat.le_of_ble_eq_true rfl)⟩ (fun H locs hM => ?_)
        refine g_aload_n hx hb dX1_hasNumbersLike_34 rfl (lv_at hl 1 rfl) ?_
        have g := gbind h
        clear h
        obtain ⟨a8, e9, h⟩ := g
        have t10 := (gtk_of e9).2
        rw [(gtk_of e9).1]
        have g := gbind h
        clear h
        obtain ⟨v12, e11, h⟩ := g
        refine g_callV (As := []) (rest := [.int v7]) hF hM (c_X1_count e11) k_X1_count u203 u196 u197 rfl rfl t10 rfl hl.1 rfl (Nat.le_of_ble_eq_true rfl) dX1_hasNumbersLike_35 ⟨(Nat.le_of_ble_eq_true rfl), (Nat.le_of_ble_eq_true rfl)⟩ ⟨(Nat.le_of_ble_eq_true rfl), (Nat.le_of_ble_eq_true rfl)⟩ (fun H locs hM => ?_)
        refine lv_icmp_ne (tgt := 45) hx hb dX1_hasNumbersLike_38 (by decide) (fun c13 => ?_) (fun c13 => ?_)
        · replace h := (if_neg c13).symm.trans h
          refine lv_iconst (v := 0) hx hb dX1_hasNumbersLike_45 (by decide) ?_
          rw [← (Option.some.inj h)]
          exact g_iret hF hM rfl rfl dX1_hasNumbersLike_46 (Nat.le_of_ble_eq_true rfl) (Nat.le_of_ble_eq_true rfl)
        · replace h := (if_pos c13).symm.trans h
          refine lv_iconst (v := 1) hx hb dX1_hasNumbersLike_41 (by decide) ?_
          refine lv_goto (tgt := 46) hx hb dX1_hasNumbersLike_42 (by decide) ?_
          rw [← (Option.some.inj h)]
          exact g_iret hF hM rfl rfl dX1_hasNumbersLike_46 (Nat.le_of_ble_eq_true rfl) (Nat.le_of_ble_eq_true rfl)
      · replace h := (if_neg c4).symm.trans h
        refine g_aload_n hx hb dX1_hasNumbersLike_10 rfl (lv_at hl 1 rfl) ?_
        refine g_aload_n hx hb dX1_hasNumbersLike_11 rfl (lv_at hl 0 rfl) ?_
        refine lv_iload_n hx hb dX1_hasNumbersLike_12 rfl (lv_at hl 2 rfl) ?_
        have g := gckE h
        clear h
        obtain ⟨t14, h⟩ := g
        have t14 := eq_of_beq t14
        have g := gbind h
        clear h
        obtain ⟨v16, e15, h⟩ := g
        refine g_callV (As := [.int x2]) (rest := [va_rf x1]) hF hM (c_X1_numberOf e15) k_X1_numberOf u209 u210 u211 rfl rfl t14 rfl hl.1 rfl (by simp [rf_cat, ic_cat, lc_cat]) dX1_hasNumbersLike_13 ⟨(Nat.le_of_ble_eq_true rfl), (Nat.le_of_ble_eq_true rfl)⟩ ⟨(Nat.le_of_ble_eq_true rfl), (Nat.le_of_ble_eq_true rfl)⟩ (fun H locs hM => ?_)
        have g := gbind h
        clear h
        obtain ⟨a17, e18, h⟩ := g
        have t19 := (gtk_of e18).2
        rw [(gtk_of e18).1]
        have g := gbind h
        clear h
        obtain ⟨v21, e20, h⟩ := g
        refine g_callV (As := [.int v16]) (rest := []) hF hM (c_X1_findNumber e20) k_X1_findNumber u399 u260 u261 rfl rfl t19 rfl hl.1 rfl (Nat.le_of_ble_eq_true rfl) dX1_hasNumbersLike_16 ⟨(Nat.le_of_ble_eq_true rfl), (Nat.le_of_ble_eq_true rfl)⟩ ⟨(Nat.le_of_ble_eq_true rfl), (Nat.le_of_ble_eq_true rfl)⟩ (fun H locs hM => ?_)
        refine lv_if_ge (tgt := 24) hx hb dX1_hasNumbersLike_19 (by decide) (fun c22 => ?_) (fun c22 => ?_)
        · replace h := (if_pos c22).symm.trans h
          refine lv_iinc (v := (x2 + 1)) (lv' := [(2, .int (x2 + 1)), (0, va_rf (some a0)), (1, va_rf x1)]) hx hb dX1_hasNumbersLike_24 hl (k := 2) rfl rfl (by decide) (by simp [rf_cat, ic_cat, lc_cat]) (fun ls hl => ?_)
          refine lv_goto (tgt := 2) hx hb dX1_hasNumbersLike_27 (by decide) ?_
          refine W.widen (k := 0) (n := 0) (Nat.le_of_ble_eq_true rfl) (Nat.le_of_ble_eq_true rfl) ?_
          exact ih _ _ h _ _ _ hM (lv_sub hl [1, 2, 0] rfl)
        · replace h := (if_neg c22).symm.trans h
          refine lv_iconst (v := 0) hx hb dX1_hasNumbersLike_22 (by decide) ?_
          rw [← (Option.some.inj h)]
          exact g_iret hF hM rfl rfl dX1_hasNumbersLike_23 (Nat.le_of_ble_eq_true rfl) (Nat.le_of_ble_eq_true rfl)
  unfold f_X1_hasNumbersLike at h
  refine lv_iconst (v := 0) hx hb dX1_hasNumbersLike_0 (by decide) ?_
  refine lv_istore_n (i := 2) (lv' := [(2, .int 0), (0, va_rf (some a0)), (1, va_rf x1)]) hx hb dX1_hasNumbersLike_1 rfl hl (by decide) (by simp [rf_cat, ic_cat, lc_cat]) (fun ls hl => ?_)
  refine W.widen (k := 0) (n := 0) (Nat.le_of_ble_eq_true rfl) (Nat.le_of_ble_eq_true rfl) ?_
  exact JL2 gN _ _ h _ _ _ hM (lv_sub hl [1, 2, 0] rfl)
abbrev rm_X1_isPartWithin : Room := { frames := 0, cells := 0, slots := 0, locals := 0 }
theorem k_X1_isPartWithin : gKc yX1_isPartWithin cX1_isPartWithin 5 (some .boolean) 1 := ⟨u373, u64, by decide +kernel, by decide +kernel, by decide +kernel⟩
set_option maxHeartbeats 4000000 in
set_option maxRecDepth 100000 in
theorem c_X1_isPartWithin {l : Launch} {D : va_G} {Y : Nat → ClassId} {S : GS} {hs : Nat} {a0 : Nat} {x1 : Int32} {r : Int32} (h : f_X1_isPartWithin S a0 x1 = some r) : gMet l yX1_isPartWithin (gWs yX1_isPartWithin cX1_isPartWithin 5 (some .boolean)) rm_X1_isPartWithin [va_rf (some a0), .int x1] D Y S hs (some (.int r)) S hs := by
  refine g_ofW (by decide +kernel) (Or.inl ⟨(Nat.le_of_ble_eq_true rfl), (List.forall_mem_cons.mpr ⟨rf_cat _, (List.forall_mem_cons.mpr ⟨rfl, (fun _ h => absurd h List.not_mem_nil)⟩)⟩)⟩) ?_
  intro p e s m args below meth c ls hsz hname hF hM hl
  have hl : lv_has ls 5 [(0, va_rf (some a0)), (1, .int x1)] := by rw [g_args [va_rf (some a0), .int x1] 0 (List.forall_mem_cons.mpr ⟨rf_cat _, (List.forall_mem_cons.mpr ⟨rfl, (fun _ h => absurd h List.not_mem_nil)⟩)⟩)] at hl; exact hl
  have hF : gF p s m args meth c RX1 cX1_isPartWithin 5 (some .boolean) D Y (gA S hs) := hF
  have hx := hF.1
  have hb := hF.2.1
  have Jb47 : ∀ (x1 : Int32) (x3 : Int32) (s0 : Int32), f_X1_isPartWithin_b47 S a0 x1 x3 s0 = some r → ∀ (H : Heap) (locs : List Loc) (ls : Array Slot), gM D Y (gA S hs) s.heap S hs H locs → lv_has ls 5 [(0, va_rf (some a0)), (1, .int x1), (3, .int x3)] → W p l e rm_X1_isPartWithin s m args below meth c H locs 0 0 (MQ below (gQ (some (.int r)) D Y S hs (gA S hs)) args s rm_X1_isPartWithin.cells rm_X1_isPartWithin.slots (gA S hs)) (F0 m 47 ls [.int s0]) := by
    intro x1 x3 s0 h H locs ls hM hl
    unfold f_X1_isPartWithin_b47 at h
    refine lv_istore (i := 4) (lv' := [(4, .int s0), (0, va_rf (some a0)), (1, .int x1), (3, .int x3)]) hx hb dX1_isPartWithin_47 hl (by decide) rfl (fun ls hl => ?_)
    refine g_aload_n hx hb dX1_isPartWithin_49 rfl (lv_at hl 1 rfl) ?_
    have g := gbind h
    clear h
    obtain ⟨v16, e17, h⟩ := g
    refine g_getR hF hM fdX1 e17 (by decide) rfl u137 dX1_isPartWithin_50 ?_
    have g := gbind h
    clear h
    obtain ⟨v18, e19, h⟩ := g
    refine g_getI hF hM fdX2 e19 (by decide) rfl u562 dX1_isPartWithin_53 ?_
    refine lv_iload_n hx hb dX1_isPartWithin_56 rfl (lv_at hl 3 rfl) ?_
    refine lv_icmp_lt (tgt := 100) hx hb dX1_isPartWithin_57 (by decide) (fun c20 => ?_) (fun c20 => ?_)
    · replace h := (if_pos c20).symm.trans h
      refine lv_iconst (v := 0) hx hb dX1_isPartWithin_100 (by decide) ?_
      rw [← (Option.some.inj h)]
      exact g_iret hF hM rfl rfl dX1_isPartWithin_101 (Nat.le_of_ble_eq_true rfl) (Nat.le_of_ble_eq_true rfl)
    · replace h := (if_neg c20).symm.trans h
      refine g_aload_n hx hb dX1_isPartWithin_60 rfl (lv_at hl 1 rfl) ?_
      have g := gbind h
      clear h
      obtain ⟨v21, e22, h⟩ := g
      refine g_getR hF hM fdX1 e22 (by decide) rfl u137 dX1_isPartWithin_61 ?_
      have g := gbind h
      clear h
      obtain ⟨v23, e24, h⟩ := g
      refine g_getI hF hM fdX2 e24 (by decide) rfl u564 dX1_isPartWithin_64 ?_
      refine lv_if_lt (tgt := 100) hx hb dX1_isPartWithin_67 (by decide) (fun c25 => ?_) (fun c25 => ?_)
      · replace h := (if_pos c25).symm.trans h
        refine lv_iconst (v := 0) hx hb dX1_isPartWithin_100 (by decide) ?_
        rw [← (Option.some.inj h)]
        exact g_iret hF hM rfl rfl dX1_isPartWithin_101 (Nat.le_of_ble_eq_true rfl) (Nat.le_of_ble_eq_true rfl)
      · replace h := (if_neg c25).symm.trans h
        refine g_aload_n hx hb dX1_isPartWithin_70 rfl (lv_at hl 1 rfl) ?_
        have g := gbind h
        clear h
        obtain ⟨v26, e27, h⟩ := g
        refine g_getR hF hM fdX1 e27 (by decide) rfl u137 dX1_isPartWithin_71 ?_
        have g := gbind h
        clear h
        obtain ⟨v28, e29, h⟩ := g
        refine g_getI hF hM fdX2 e29 (by decide) rfl u562 dX1_isPartWithin_74 ?_
        refine g_aload_n hx hb dX1_isPartWithin_77 rfl (lv_at hl 1 rfl) ?_
        have g := gbind h
        clear h
        obtain ⟨v30, e31, h⟩ := g
        refine g_getR hF hM fdX1 e31 (by decide) rfl u137 dX1_isPartWithin_78 ?_
        have g := gbind h
        clear h
        obtain ⟨v32, e33, h⟩ := g
        refine g_getI hF hM fdX2 e33 (by decide) rfl u564 dX1_isPartWithin_81 ?_
        refine lv_iadd hx hb dX1_isPartWithin_84 ?_
        refine lv_iload hx hb dX1_isPartWithin_85 (lv_at hl 0 rfl) ?_
        refine lv_icmp_gt (tgt := 100) hx hb dX1_isPartWithin_87 (by decide) (fun c34 => ?_) (fun c34 => ?_)
        · replace h := (if_pos c34).symm.trans h
          refine lv_iconst (v := 0) hx hb dX1_isPartWithin_100 (by decide) ?_
          rw [← (Option.some.inj h)]
          exact g_iret hF hM rfl rfl dX1_isPartWithin_101 (Nat.le_of_ble_eq_true rfl) (Nat.le_of_ble_eq_true rfl)
        · replace h := (if_neg c34).symm.trans h
          refine lv_iload hx hb dX1_isPartWithin_90 (lv_at hl 0 rfl) ?_
          refine lv_iload_n hx hb dX1_isPartWithin_92 rfl (lv_at hl 2 rfl) ?_
          refine lv_icmp_gt (tgt := 100) hx hb dX1_isPartWithin_93 (by decide) (fun c35 => ?_) (fun c35 => ?_)
          · replace h := (if_pos c35).symm.trans h
            refine lv_iconst (v := 0) hx hb dX1_isPartWithin_100 (by decide) ?_
            rw [← (Option.some.inj h)]
            exact g_iret hF hM rfl rfl dX1_isPartWithin_101 (Nat.le_of_ble_eq_true rfl) (Nat.le_of_ble_eq_true rfl)
          · replace h := (if_neg c35).symm.trans h
            refine lv_iconst (v := 1) hx hb dX1_isPartWithin_96 (by decide) ?_
            refine lv_goto (tgt := 101) hx hb dX1_isPartWithin_97 (by decide) ?_
            rw [← (Option.some.inj h)]
            exact g_iret hF hM rfl rfl dX1_isPartWithin_101 (Nat.le_of_ble_eq_true rfl) (Nat.le_of_ble_eq_true rfl)
  have Jb29 : ∀ (x1 : Int32) (x2 : Option Nat) (s0 : Int32), f_X1_isPartWithin_b29 S a0 x1 x2 s0 = some r → ∀ (H : Heap) (locs : List Loc) (ls : Array Slot), gM D Y (gA S hs) s.heap S hs H locs → lv_has ls 5 [(0, va_rf (some a0)), (1, .int x1), (2, va_rf x2)] → W p l e rm_X1_isPartWithin s m args below meth c H locs 0 0 (MQ below (gQ (some (.int r)) D Y S hs (gA S hs)) args s rm_X1_isPartWithin.cells rm_X1_isPartWithin.slots (gA S hs)) (F0 m 29 ls [.int s0]) := by
    intro x1 x2 s0 h H locs ls hM hl
    unfold f_X1_isPartWithin_b29 at h
    refine lv_istore_n (i := 3) (lv' := [(3, .int s0), (0, va_rf (some a0)), (1, .int x1), (2, va_rf x2)]) hx hb dX1_isPartWithin_29 rfl hl (by decide) (by simp [rf_cat, ic_cat, lc_cat]) (fun ls hl => ?_)
    refine g_aload_n hx hb dX1_isPartWithin_30 rfl (lv_at hl 3 rfl) ?_
    refine g_ifnonnull (tgt := 38) hx hb dX1_isPartWithin_31 (by decide) (fun c11 => ?_) (fun c11 => ?_)
    · replace h := (if_neg c11).symm.trans h
      refine g_aload_n hx hb dX1_isPartWithin_38 rfl (lv_at hl 3 rfl) ?_
      have g := gbind h
      clear h
      obtain ⟨v12, e13, h⟩ := g
      refine g_getI hF hM fdX2 e13 (by decide) rfl u562 dX1_isPartWithin_39 ?_
      refine g_aload_n hx hb dX1_isPartWithin_42 rfl (lv_at hl 3 rfl) ?_
      have g := gbind h
      clear h
      obtain ⟨v14, e15, h⟩ := g
      refine g_getI hF hM fdX2 e15 (by decide) rfl u564 dX1_isPartWithin_43 ?_
      refine lv_iadd hx hb dX1_isPartWithin_46 ?_
      refine W.widen (k := 0) (n := 0) (Nat.le_of_ble_eq_true rfl) (Nat.le_of_ble_eq_true rfl) ?_
      exact Jb47 _ _ _ h _ _ _ hM (lv_sub hl [1, 2, 0] rfl)
    · replace h := (if_pos c11).symm.trans h
      refine lv_iload_n hx hb dX1_isPartWithin_34 rfl (lv_at hl 2 rfl) ?_
      refine lv_goto (tgt := 47) hx hb dX1_isPartWithin_35 (by decide) ?_
      refine W.widen (k := 0) (n := 0) (Nat.le_of_ble_eq_true rfl) (Nat.le_of_ble_eq_true rfl) ?_
      exact Jb47 _ _ _ h _ _ _ hM (lv_sub hl [1, 2, 0] rfl)
  unfold f_X1_isPartWithin at h
  refine g_aload_n hx hb dX1_isPartWithin_0 rfl (lv_at hl 0 rfl) ?_
  have g := gbind h
  clear h
  obtain ⟨v1, e2, h⟩ := g
  refine g_getR hF hM fdX1 e2 (by decide) rfl u137 dX1_isPartWithin_1 ?_
  refine g_ifnonnull (tgt := 9) hx hb dX1_isPartWithin_4 (by decide) (fun c3 => ?_) (fun c3 => ?_)
  · replace h := (if_neg c3).symm.trans h
    refine g_aload_n hx hb dX1_isPartWithin_9 rfl (lv_at hl 0 rfl) ?_
    have g := gbind h
    clear h
    obtain ⟨v4, e5, h⟩ := g
    refine g_getR hF hM fdX1 e5 (by decide) rfl u137 dX1_isPartWithin_10 ?_
    have g := gbind h
    clear h
    obtain ⟨v6, e7, h⟩ := g
    refine g_getR hF hM fdX2 e7 (by decide) rfl u559 dX1_isPartWithin_13 ?_
    refine g_astore_n (i := 2) (lv' := [(0, va_rf (some a0)), (1, .int x1)]) hx hb dX1_isPartWithin_16 rfl hl (by decide) (fun v => rfl) (fun ls hl => ?_)
    refine g_aload_n hx hb dX1_isPartWithin_17 rfl (lv_at hl 0 rfl) ?_
    refine g_ifnonnull (tgt := 25) hx hb dX1_isPartWithin_18 (by decide) (fun c8 => ?_) (fun c8 => ?_)
    · replace h := (if_neg c8).symm.trans h
      refine g_aload_n hx hb dX1_isPartWithin_25 rfl (lv_at hl 0 rfl) ?_
      have g := gbind h
      clear h
      obtain ⟨v9, e10, h⟩ := g
      refine g_getI hF hM fdX2 e10 (by decide) rfl u562 dX1_isPartWithin_26 ?_
      refine W.widen (k := 0) (n := 0) (Nat.le_of_ble_eq_true rfl) (Nat.le_of_ble_eq_true rfl) ?_
      exact Jb29 _ _ _ h _ _ _ hM (lv_sub hl [1, 2, 0] rfl)
    · replace h := (if_pos c8).symm.trans h
      refine lv_iconst (v := 0) hx hb dX1_isPartWithin_21 (by decide) ?_
      refine lv_goto (tgt := 29) hx hb dX1_isPartWithin_22 (by decide) ?_
      refine W.widen (k := 0) (n := 0) (Nat.le_of_ble_eq_true rfl) (Nat.le_of_ble_eq_true rfl) ?_
      exact Jb29 _ _ _ h _ _ _ hM (lv_sub hl [1, 2, 0] rfl)
  · replace h := (if_pos c3).symm.trans h
    refine lv_iconst (v := 1) hx hb dX1_isPartWithin_7 (by decide) ?_
    rw [← (Option.some.inj h)]
    exact g_iret hF hM rfl rfl dX1_isPartWithin_8 (Nat.le_of_ble_eq_true rfl) (Nat.le_of_ble_eq_true rfl)
abbrev rm_X1_looksOn : Room := { frames := 3, cells := 0, slots := 0, locals := 65 }
theorem k_X1_looksOn : gKc yX1_looksOn cX1_looksOn 4 (some .boolean) 1 := ⟨u369, u64, by decide +kernel, by decide +kernel, by decide +kernel⟩
set_option maxHeartbeats 4000000 in
set_option maxRecDepth 100000 in
theorem c_X1_looksOn {l : Launch} {D : va_G} {Y : Nat → ClassId} {S : GS} {hs : Nat} {a0 : Nat} {x1 : Option Nat} {r : Int32} (h : f_X1_looksOn S a0 x1 = some r) : gMet l yX1_looksOn (gWs yX1_looksOn cX1_looksOn 4 (some .boolean)) rm_X1_looksOn [va_rf (some a0), va_rf x1] D Y S hs (some (.int r)) S hs := by
  refine g_ofW (by decide +kernel) (Or.inl ⟨(Nat.le_of_ble_eq_true rfl), (List.forall_mem_cons.mpr ⟨rf_cat _, (List.forall_mem_cons.mpr ⟨rf_cat _, (fun _ h => absurd h List.not_mem_nil)⟩)⟩)⟩) ?_
  intro p e s m args below meth c ls hsz hname hF hM hl
  have hl : lv_has ls 4 [(0, va_rf (some a0)), (1, va_rf x1)] := by rw [g_args [va_rf (some a0), va_rf x1] 0 (List.forall_mem_cons.mpr ⟨rf_cat _, (List.forall_mem_cons.mpr ⟨rf_cat _, (fun _ h => absurd h List.not_mem_nil)⟩)⟩)] at hl; exact hl
  have hF : gF p s m args meth c RX1 cX1_looksOn 4 (some .boolean) D Y (gA S hs) := hF
  have hx := hF.1
  have hb := hF.2.1
  have JL50 : ∀ (n : Nat) (x1 : Option Nat) (x2 : Int32), f_X1_looksOn_L50 S a0 n x1 x2 = some r → ∀ (H : Heap) (locs : List Loc) (ls : Array Slot), gM D Y (gA S hs) s.heap S hs H locs → lv_has ls 4 [(0, va_rf (some a0)), (1, va_rf x1), (2, .int x2)] → W p l e rm_X1_looksOn s m args below meth c H locs 0 0 (MQ below (gQ (some (.int r)) D Y S hs (gA S hs)) args s rm_X1_looksOn.cells rm_X1_looksOn.slots (gA S hs)) (F0 m 50 ls []) := by
    intro n
    induction n with
    | zero => intro x1 x2 h; unfold f_X1_looksOn_L50 at h; exact nomatch h
    | succ n ih =>
      intro x1 x2 h H locs ls hM hl
      unfold f_X1_looksOn_L50 at h
      refine lv_iload_n hx hb dX1_looksOn_50 rfl (lv_at hl 2 rfl) ?_
      refine g_aload_n hx hb dX1_looksOn_51 rfl (lv_at hl 0 rfl) ?_
      have g := gckE h
      clear h
      obtain ⟨t14, h⟩ := g
      have t14 := eq_of_beq t14
      have g := gbind h
      clear h
      obtain ⟨v16, e15, h⟩ := g
      refine g_callV (As := []) (rest := [.int x2]) hF hM (c_X1_count e15) k_X1_count u203 u196 u197 rfl rfl t14 rfl hl.1 rfl (Nat.le_of_ble_eq_true rfl) dX1_looksOn_52 ⟨(Nat.le_of_ble_eq_true rfl), (Nat.le_of_ble_eq_true rfl)⟩ ⟨(Nat.le_of_ble_eq_true rfl), (Nat.le_of_ble_eq_true rfl)⟩ (fun H locs hM => ?_)
      refine lv_icmp_ge (tgt := 96) hx hb dX1_looksOn_55 (by decide) (fun c17 => ?_) (fun c17 => ?_)
      · replace h := (if_pos c17).symm.trans h
        refine lv_iconst (v := 1) hx hb dX1_looksOn_96 (by decide) ?_
        rw [← (Option.some.inj h)]
        exact g_iret hF hM rfl rfl dX1_looksOn_97 (Nat.le_of_ble_eq_true rfl) (Nat.le_of_ble_eq_true rfl)
      · replace h := (if_neg c17).symm.trans h
        refine g_aload_n hx hb dX1_looksOn_58 rfl (lv_at hl 0 rfl) ?_
        have g := gckE h
        clear h
        obtain ⟨t18, h⟩ := g
        have t18 := eq_of_beq t18
        have g := gbind h
        clear h
        obtain ⟨v20, e19, h⟩ := g
        refine g_callV (As := []) (rest := []) hF hM (c_X1_first e19) k_X1_first u213 u214 u215 rfl rfl t18 rfl hl.1 rfl (Nat.le_of_ble_eq_true rfl) dX1_looksOn_59 ⟨(Nat.le_of_ble_eq_true rfl), (Nat.le_of_ble_eq_true rfl)⟩ ⟨(Nat.le_of_ble_eq_true rfl), (Nat.le_of_ble_eq_true rfl)⟩ (fun H locs hM => ?_)
        refine lv_iload_n hx hb dX1_looksOn_62 rfl (lv_at hl 2 rfl) ?_
        refine lv_iadd hx hb dX1_looksOn_63 ?_
        refine lv_istore_n (i := 3) (lv' := [(3, .int (v20 + x2)), (0, va_rf (some a0)), (1, va_rf x1), (2, .int x2)]) hx hb dX1_looksOn_64 rfl hl (by decide) rfl (fun ls hl => ?_)
        refine g_aload_n hx hb dX1_looksOn_65 rfl (lv_at hl 1 rfl) ?_
        refine lv_iload_n hx hb dX1_looksOn_66 rfl (lv_at hl 3 rfl) ?_
        have g := gckE h
        clear h
        obtain ⟨t21, h⟩ := g
        have t21 := eq_of_beq t21
        have g := gbind h
        clear h
        obtain ⟨v23, e22, h⟩ := g
        refine g_callV (As := [.int x2]) (rest := []) hF hM (c_X1_numberOf e22) k_X1_numberOf u209 u210 u211 rfl rfl t21 rfl hl.1 rfl (Nat.le_of_ble_eq_true rfl) dX1_looksOn_67 ⟨(Nat.le_of_ble_eq_true rfl), (Nat.le_of_ble_eq_true rfl)⟩ ⟨(Nat.le_of_ble_eq_true rfl), (Nat.le_of_ble_eq_true rfl)⟩ (fun H locs hM => ?_)
        refine g_aload_n hx hb dX1_looksOn_70 rfl (lv_at hl 2 rfl) ?_
        refine lv_iload_n hx hb dX1_looksOn_71 rfl (lv_at hl 0 rfl) ?_
        have g := gbind h
        clear h
        obtain ⟨a24, e25, h⟩ := g
        have t26 := (gtk_of e25).2
        rw [(gtk_of e25).1]
        have g := gbind h
        clear h
        obtain ⟨v28, e27, h⟩ := g
        refine g_callV (As := [.int (v20 + x2)]) (rest := [.int v23]) hF hM (c_X1_numberOf e27) k_X1_numberOf u209 u210 u211 rfl rfl t26 rfl hl.1 rfl (Nat.le_of_ble_eq_true rfl) dX1_looksOn_72 ⟨(Nat.le_of_ble_eq_true rfl), (Nat.le_of_ble_eq_true rfl)⟩ ⟨(Nat.le_of_ble_eq_true rfl), (Nat.le_of_ble_eq_true rfl)⟩ (fun H locs hM => ?_)
        refine lv_icmp_ne (tgt := 88) hx hb dX1_looksOn_75 (by decide) (fun c29 => ?_) (fun c29 => ?_)
        · replace h := (if_neg c29).symm.trans h
          refine lv_iconst (v := 0) hx hb dX1_looksOn_88 (by decide) ?_
          rw [← (Option.some.inj h)]
          exact g_iret hF hM rfl rfl dX1_looksOn_89 (Nat.le_of_ble_eq_true rfl) (Nat.le_of_ble_eq_true rfl)
        · replace h := (if_pos c29).symm.trans h
          refine g_aload_n hx hb dX1_looksOn_78 rfl (lv_at hl 1 rfl) ?_
          refine lv_iload_n hx hb dX1_looksOn_79 rfl (lv_at hl 3 rfl) ?_
          refine g_aload_n hx hb dX1_looksOn_80 rfl (lv_at hl 2 rfl) ?_
          refine lv_iload_n hx hb dX1_looksOn_81 rfl (lv_at hl 0 rfl) ?_
          have g := gckE h
          clear h
          obtain ⟨t30, h⟩ := g
          have t30 := eq_of_beq t30
          have g := gbind h
          clear h
          obtain ⟨v32, e31, h⟩ := g
          refine g_callV (As := [.int x2, va_rf x1, .int (v20 + x2)]) (rest := []) hF hM (c_X1_isAlike e31) k_X1_isAlike u332 u311 u312 rfl rfl t30 rfl hl.1 rfl (Nat.le_of_ble_eq_true rfl) dX1_looksOn_82 ⟨(Nat.le_of_ble_eq_true rfl), (Nat.le_of_ble_eq_true rfl)⟩ ⟨(Nat.le_of_ble_eq_true rfl), (Nat.le_of_ble_eq_true rfl)⟩ (fun H locs hM => ?_)
          refine lv_if_ne (tgt := 90) hx hb dX1_looksOn_85 (by decide) (fun c33 => ?_) (fun c33 => ?_)
          · replace h := (if_neg c33).symm.trans h
            refine lv_iinc (v := (x2 + 1)) (lv' := [(2, .int (x2 + 1)), (3, .int (v20 + x2)), (0, va_rf (some a0)), (1, va_rf x1)]) hx hb dX1_looksOn_90 hl (k := 3) rfl rfl (by decide) (by simp [rf_cat, ic_cat, lc_cat]) (fun ls hl => ?_)
            refine lv_goto (tgt := 50) hx hb dX1_looksOn_93 (by decide) ?_
            refine W.widen (k := 0) (n := 0) (Nat.le_of_ble_eq_true rfl) (Nat.le_of_ble_eq_true rfl) ?_
            exact ih _ _ h _ _ _ hM (lv_sub hl [2, 3, 0] rfl)
          · replace h := (if_pos c33).symm.trans h
            refine lv_iconst (v := 0) hx hb dX1_looksOn_88 (by decide) ?_
            rw [← (Option.some.inj h)]
            exact g_iret hF hM rfl rfl dX1_looksOn_89 (Nat.le_of_ble_eq_true rfl) (Nat.le_of_ble_eq_true rfl)
  have Jb35 : ∀ (x1 : Option Nat), f_X1_looksOn_b35 S a0 x1 = some r → ∀ (H : Heap) (locs : List Loc) (ls : Array Slot), gM D Y (gA S hs) s.heap S hs H locs → lv_has ls 4 [(0, va_rf (some a0)), (1, va_rf x1)] → W p l e rm_X1_looksOn s m args below meth c H locs 0 0 (MQ below (gQ (some (.int r)) D Y S hs (gA S hs)) args s rm_X1_looksOn.cells rm_X1_looksOn.slots (gA S hs)) (F0 m 35 ls []) := by
    intro x1 h H locs ls hM hl
    unfold f_X1_looksOn_b35 at h
    refine g_aload_n hx hb dX1_looksOn_35 rfl (lv_at hl 0 rfl) ?_
    refine g_aload_n hx hb dX1_looksOn_36 rfl (lv_at hl 1 rfl) ?_
    have g := gbind h
    clear h
    obtain ⟨a5, e6, h⟩ := g
    have t7 := (gtk_of e6).2
    rw [(gtk_of e6).1]
    have g := gbind h
    clear h
    obtain ⟨v9, e8, h⟩ := g
    refine g_callV (As := []) (rest := [va_rf (some a0)]) hF hM (c_X1_count e8) k_X1_count u203 u196 u197 rfl rfl t7 rfl hl.1 rfl (Nat.le_of_ble_eq_true rfl) dX1_looksOn_37 ⟨(Nat.le_of_ble_eq_true rfl), (Nat.le_of_ble_eq_true rfl)⟩ ⟨(Nat.le_of_ble_eq_true rfl), (Nat.le_of_ble_eq_true rfl)⟩ (fun H locs hM => ?_)
    have g := gckE h
    clear h
    obtain ⟨t10, h⟩ := g
    have t10 := eq_of_beq t10
    have g := gbind h
    clear h
    obtain ⟨v12, e11, h⟩ := g
    refine g_callV (As := [.int v9]) (rest := []) hF hM (c_X1_isPartWithin e11) k_X1_isPartWithin u370 u372 u10 rfl rfl t10 rfl hl.1 rfl (Nat.le_of_ble_eq_true rfl) dX1_looksOn_40 ⟨(Nat.le_of_ble_eq_true rfl), (Nat.le_of_ble_eq_true rfl)⟩ ⟨(Nat.le_of_ble_eq_true rfl), (Nat.le_of_ble_eq_true rfl)⟩ (fun H locs hM => ?_)
    refine lv_if_ne (tgt := 48) hx hb dX1_looksOn_43 (by decide) (fun c13 => ?_) (fun c13 => ?_)
    · replace h := (if_neg c13).symm.trans h
      refine lv_iconst (v := 0) hx hb dX1_looksOn_48 (by decide) ?_
      refine lv_istore_n (i := 2) (lv' := [(2, .int 0), (0, va_rf (some a0)), (1, va_rf x1)]) hx hb dX1_looksOn_49 rfl hl (by decide) (by simp [rf_cat, ic_cat, lc_cat]) (fun ls hl => ?_)
      refine W.widen (k := 0) (n := 0) (Nat.le_of_ble_eq_true rfl) (Nat.le_of_ble_eq_true rfl) ?_
      exact JL50 gN _ _ h _ _ _ hM (lv_sub hl [1, 2, 0] rfl)
    · replace h := (if_pos c13).symm.trans h
      refine lv_iconst (v := 0) hx hb dX1_looksOn_46 (by decide) ?_
      rw [← (Option.some.inj h)]
      exact g_iret hF hM rfl rfl dX1_looksOn_47 (Nat.le_of_ble_eq_true rfl) (Nat.le_of_ble_eq_true rfl)
  unfold f_X1_looksOn at h
  refine g_aload_n hx hb dX1_looksOn_0 rfl (lv_at hl 1 rfl) ?_
  refine g_ifnonnull (tgt := 17) hx hb dX1_looksOn_1 (by decide) (fun c1 => ?_) (fun c1 => ?_)
  · replace h := (if_neg c1).symm.trans h
    refine g_aload_n hx hb dX1_looksOn_17 rfl (lv_at hl 0 rfl) ?_
    have g := gbind h
    clear h
    obtain ⟨v2, e3, h⟩ := g
    refine g_getR hF hM fdX1 e3 (by decide) rfl u137 dX1_looksOn_18 ?_
    refine g_ifnonnull (tgt := 35) hx hb dX1_looksOn_21 (by decide) (fun c4 => ?_) (fun c4 => ?_)
    · replace h := (if_neg c4).symm.trans h
      refine W.widen (k := 0) (n := 0) (Nat.le_of_ble_eq_true rfl) (Nat.le_of_ble_eq_true rfl) ?_
      exact Jb35 _ h _ _ _ hM (lv_sub hl [0, 1] rfl)
    · replace h := (if_pos c4).symm.trans h
      refine g_aload_n hx hb dX1_looksOn_24 rfl (lv_at hl 0 rfl) ?_
      have g := gckE h
      clear h
      obtain ⟨t34, h⟩ := g
      have t34 := eq_of_beq t34
      have g := gbind h
      clear h
      obtain ⟨v36, e35, h⟩ := g
      refine g_callV (As := []) (rest := []) hF hM (c_X1_count e35) k_X1_count u203 u196 u197 rfl rfl t34 rfl hl.1 rfl (Nat.le_of_ble_eq_true rfl) dX1_looksOn_25 ⟨(Nat.le_of_ble_eq_true rfl), (Nat.le_of_ble_eq_true rfl)⟩ ⟨(Nat.le_of_ble_eq_true rfl), (Nat.le_of_ble_eq_true rfl)⟩ (fun H locs hM => ?_)
      refine g_aload_n hx hb dX1_looksOn_28 rfl (lv_at hl 1 rfl) ?_
      have g := gbind h
      clear h
      obtain ⟨a37, e38, h⟩ := g
      have t39 := (gtk_of e38).2
      rw [(gtk_of e38).1]
      have g := gbind h
      clear h
      obtain ⟨v41, e40, h⟩ := g
      refine g_callV (As := []) (rest := [.int v36]) hF hM (c_X1_count e40) k_X1_count u203 u196 u197 rfl rfl t39 rfl hl.1 rfl (Nat.le_of_ble_eq_true rfl) dX1_looksOn_29 ⟨(Nat.le_of_ble_eq_true rfl), (Nat.le_of_ble_eq_true rfl)⟩ ⟨(Nat.le_of_ble_eq_true rfl), (Nat.le_of_ble_eq_true rfl)⟩ (fun H locs hM => ?_)
      refine lv_icmp_ne (tgt := 46) hx hb dX1_looksOn_32 (by decide) (fun c42 => ?_) (fun c42 => ?_)
      · replace h := (if_neg c42).symm.trans h
        refine lv_iconst (v := 0) hx hb dX1_looksOn_46 (by decide) ?_
        rw [← (Option.some.inj h)]
        exact g_iret hF hM rfl rfl dX1_looksOn_47 (Nat.le_of_ble_eq_true rfl) (Nat.le_of_ble_eq_true rfl)
      · replace h := (if_pos c42).symm.trans h
        refine W.widen (k := 0) (n := 0) (Nat.le_of_ble_eq_true rfl) (Nat.le_of_ble_eq_true rfl) ?_
        exact Jb35 _ h _ _ _ hM (lv_sub hl [0, 1] rfl)
  · replace h := (if_pos c1).symm.trans h
    refine g_aload_n hx hb dX1_looksOn_4 rfl (lv_at hl 0 rfl) ?_
    have g := gbind h
    clear h
    obtain ⟨v43, e44, h⟩ := g
    refine g_getR hF hM fdX1 e44 (by decide) rfl u134 dX1_looksOn_5 ?_
    refine g_ifnonnull (tgt := 15) hx hb dX1_looksOn_8 (by decide) (fun c45 => ?_) (fun c45 => ?_)
    · replace h := (if_neg c45).symm.trans h
      refine lv_iconst (v := 0) hx hb dX1_looksOn_15 (by decide) ?_
      rw [← (Option.some.inj h)]
      exact g_iret hF hM rfl rfl dX1_looksOn_16 (Nat.le_of_ble_eq_true rfl) (Nat.le_of_ble_eq_true rfl)
    · replace h := (if_pos c45).symm.trans h
      refine lv_iconst (v := 1) hx hb dX1_looksOn_11 (by decide) ?_
      refine lv_goto (tgt := 16) hx hb dX1_looksOn_12 (by decide) ?_
      rw [← (Option.some.inj h)]
      exact g_iret hF hM rfl rfl dX1_looksOn_16 (Nat.le_of_ble_eq_true rfl) (Nat.le_of_ble_eq_true rfl)
abbrev rm_X2_init : Room := { frames := 1, cells := 0, slots := 0, locals := 20 }
theorem k_X2_init : gKc yX2_init cX2_init 4 none 3 := ⟨u556, u76, by decide +kernel, by decide +kernel, by decide +kernel⟩
set_option maxHeartbeats 4000000 in
set_option maxRecDepth 100000 in
theorem c_X2_init {l : Launch} {D : va_G} {Y : Nat → ClassId} {S : GS} {hs : Nat} {a0 : Nat} {x1 : Option Nat} {x2 : Int32} {x3 : Int32} {S' : GS} (h : f_X2_init S a0 x1 x2 x3 = some S') : gMet l yX2_init (gWs yX2_init cX2_init 4 none) rm_X2_init [va_rf (some a0), va_rf x1, .int x2, .int x3] D Y S hs none S' hs := by
  refine g_ofW (by decide +kernel) (Or.inl ⟨(Nat.le_of_ble_eq_true rfl), (List.forall_mem_cons.mpr ⟨rf_cat _, (List.forall_mem_cons.mpr ⟨rf_cat _, (List.forall_mem_cons.mpr ⟨rfl, (List.forall_mem_cons.mpr ⟨rfl, (fun _ h => absurd h List.not_mem_nil)⟩)⟩)⟩)⟩)⟩) ?_
  intro p e s m args below meth c ls hsz hname hF hM hl
  have hl : lv_has ls 4 [(0, va_rf (some a0)), (1, va_rf x1), (2, .int x2), (3, .int x3)] := by rw [g_args [va_rf (some a0), va_rf x1, .int x2, .int x3] 0 (List.forall_mem_cons.mpr ⟨rf_cat _, (List.forall_mem_cons.mpr ⟨rf_cat _, (List.forall_mem_cons.mpr ⟨rfl, (List.forall_mem_cons.mpr ⟨rfl, (fun _ h => absurd h List.not_mem_nil)⟩)⟩)⟩)⟩)] at hl; exact hl
  have hF : gF p s m args meth c RX2 cX2_init 4 none D Y (gA S hs) := hF
  have hx := hF.1
  have hb := hF.2.1
  unfold f_X2_init at h
  refine g_aload_n hx hb dX2_init_0 rfl (lv_at hl 0 rfl) ?_
  refine g_objInit hF u557 u91 u92 hl.1 dX2_init_1 ⟨(Nat.le_of_ble_eq_true rfl), (Nat.le_of_ble_eq_true rfl)⟩ (Nat.le_of_ble_eq_true rfl) ?_
  refine g_aload_n hx hb dX2_init_4 rfl (lv_at hl 0 rfl) ?_
  refine g_aload_n hx hb dX2_init_5 rfl (lv_at hl 1 rfl) ?_
  have g := gbind h
  clear h
  obtain ⟨S1, e2, h⟩ := g
  refine g_putR hF hM fdX2 e2 (by decide) rfl (Or.inr ⟨rfl, hname, rfl⟩) u558 dX2_init_6 (fun H locs hM => ?_)
  refine g_aload_n hx hb dX2_init_9 rfl (lv_at hl 0 rfl) ?_
  refine lv_iload_n hx hb dX2_init_10 rfl (lv_at hl 2 rfl) ?_
  have g := gbind h
  clear h
  obtain ⟨S3, e4, h⟩ := g
  refine g_putI hF hM fdX2 e4 (by decide) rfl (Or.inr ⟨rfl, hname, rfl⟩) ⟨rfl, rfl⟩ u561 dX2_init_11 (fun H locs hM => ?_)
  refine g_aload_n hx hb dX2_init_14 rfl (lv_at hl 0 rfl) ?_
  refine lv_iload_n hx hb dX2_init_15 rfl (lv_at hl 3 rfl) ?_
  have g := gbind h
  clear h
  obtain ⟨S5, e6, h⟩ := g
  refine g_putI hF hM fdX2 e6 (by decide) rfl (Or.inl rfl) ⟨rfl, rfl⟩ u563 dX2_init_16 (fun H locs hM => ?_)
  rw [← (Option.some.inj h)]
  exact g_vret hF hM rfl dX2_init_19 (Nat.le_of_ble_eq_true rfl) (Nat.le_of_ble_eq_true rfl)
abbrev rm_X3_remove : Room := { frames := 2, cells := 0, slots := 0, locals := 43 }
theorem k_X3_remove : gKc yX3_remove cX3_remove 3 none 1 := ⟨u799, u65, by decide +kernel, by decide +kernel, by decide +kernel⟩
set_option maxHeartbeats 4000000 in
set_option maxRecDepth 100000 in
theorem c_X3_remove {l : Launch} {D : va_G} {Y : Nat → ClassId} {S : GS} {hs : Nat} {a0 : Nat} {x1 : Int32} {S' : GS} (h : f_X3_remove S a0 x1 = some S') : gMet l yX3_remove (gWs yX3_remove cX3_remove 3 none) rm_X3_remove [va_rf (some a0), .int x1] D Y S hs none S' hs := by
  refine g_ofW (by decide +kernel) (Or.inl ⟨(Nat.le_of_ble_eq_true rfl), (List.forall_mem_cons.mpr ⟨rf_cat _, (List.forall_mem_cons.mpr ⟨rfl, (fun _ h => absurd h List.not_mem_nil)⟩)⟩)⟩) ?_
  intro p e s m args below meth c ls hsz hname hF hM hl
  have hl : lv_has ls 3 [(0, va_rf (some a0)), (1, .int x1)] := by rw [g_args [va_rf (some a0), .int x1] 0 (List.forall_mem_cons.mpr ⟨rf_cat _, (List.forall_mem_cons.mpr ⟨rfl, (fun _ h => absurd h List.not_mem_nil)⟩)⟩)] at hl; exact hl
  have hF : gF p s m args meth c RX3 cX3_remove 3 none D Y (gA S hs) := hF
  have hx := hF.1
  have hb := hF.2.1
  have JL13 : ∀ (n : Nat) (T13 : GS) (x2 : Int32), f_X3_remove_L13 a0 n T13 x2 = some S' → ∀ (H : Heap) (locs : List Loc) (ls : Array Slot), gM D Y (gA S hs) s.heap T13 hs H locs → lv_has ls 3 [(0, va_rf (some a0)), (2, .int x2)] → W p l e rm_X3_remove s m args below meth c H locs 0 0 (MQ below (gQ none D Y S' hs (gA S hs)) args s rm_X3_remove.cells rm_X3_remove.slots (gA S hs)) (F0 m 13 ls []) := by
    intro n
    induction n with
    | zero => intro T13 x2 h; unfold f_X3_remove_L13 at h; exact nomatch h
    | succ n ih =>
      intro T13 x2 h H locs ls hM hl
      unfold f_X3_remove_L13 at h
      refine lv_iload_n hx hb dX3_remove_13 rfl (lv_at hl 1 rfl) ?_
      refine g_aload_n hx hb dX3_remove_14 rfl (lv_at hl 0 rfl) ?_
      have g := gbind h
      clear h
      obtain ⟨v5, e6, h⟩ := g
      refine g_getI hF hM fdX3 e6 (by decide) rfl u107 dX3_remove_15 ?_
      refine lv_icmp_ge (tgt := 35) hx hb dX3_remove_18 (by decide) (fun c7 => ?_) (fun c7 => ?_)
      · replace h := (if_pos c7).symm.trans h
        refine g_aload_n hx hb dX3_remove_35 rfl (lv_at hl 0 rfl) ?_
        refine lv_dup hx hb dX3_remove_36 (rf_cat _) ?_
        have g := gbind h
        clear h
        obtain ⟨v8, e9, h⟩ := g
        refine g_getI hF hM fdX3 e9 (by decide) rfl u107 dX3_remove_37 ?_
        refine lv_iconst (v := 1) hx hb dX3_remove_40 (by decide) ?_
        refine lv_isub hx hb dX3_remove_41 ?_
        have g := gbind h
        clear h
        obtain ⟨S10, e11, h⟩ := g
        refine g_putI hF hM fdX3 e11 (by decide) rfl (Or.inl rfl) ⟨rfl, rfl⟩ u107 dX3_remove_42 (fun H locs hM => ?_)
        rw [← (Option.some.inj h)]
        exact g_vret hF hM rfl dX3_remove_45 (Nat.le_of_ble_eq_true rfl) (Nat.le_of_ble_eq_true rfl)
      · replace h := (if_neg c7).symm.trans h
        refine g_aload_n hx hb dX3_remove_21 rfl (lv_at hl 0 rfl) ?_
        refine lv_iload_n hx hb dX3_remove_22 rfl (lv_at hl 1 rfl) ?_
        refine lv_iload_n hx hb dX3_remove_23 rfl (lv_at hl 1 rfl) ?_
        refine lv_iconst (v := 1) hx hb dX3_remove_24 (by decide) ?_
        refine lv_isub hx hb dX3_remove_25 ?_
        have g := gckE h
        clear h
        obtain ⟨t12, h⟩ := g
        have t12 := eq_of_beq t12
        have g := gbind h
        clear h
        obtain ⟨S14, e13, h⟩ := g
        refine g_callV (As := [.int x2, .int (x2 - 1)]) (rest := []) hF hM (c_X3_move e13) k_X3_move u283 u285 u2 rfl rfl t12 rfl hl.1 rfl (Nat.le_of_ble_eq_true rfl) dX3_remove_26 ⟨(Nat.le_of_ble_eq_true rfl), (Nat.le_of_ble_eq_true rfl)⟩ ⟨(Nat.le_of_ble_eq_true rfl), (Nat.le_of_ble_eq_true rfl)⟩ (fun H locs hM => ?_)
        refine lv_iinc (v := (x2 + 1)) (lv' := [(2, .int (x2 + 1)), (0, va_rf (some a0))]) hx hb dX3_remove_29 hl (k := 1) rfl rfl (by decide) rfl (fun ls hl => ?_)
        refine lv_goto (tgt := 13) hx hb dX3_remove_32 (by decide) ?_
        refine W.widen (k := 0) (n := 0) (Nat.le_of_ble_eq_true rfl) (Nat.le_of_ble_eq_true rfl) ?_
        exact ih _ _ h _ _ _ hM (lv_sub hl [1, 0] rfl)
  unfold f_X3_remove at h
  refine g_aload_n hx hb dX3_remove_0 rfl (lv_at hl 0 rfl) ?_
  refine lv_iload_n hx hb dX3_remove_1 rfl (lv_at hl 1 rfl) ?_
  have g := gckE h
  clear h
  obtain ⟨t1, h⟩ := g
  have t1 := eq_of_beq t1
  have g := gbind h
  clear h
  obtain ⟨v3, e2, h⟩ := g
  refine g_callV (As := [.int x1]) (rest := []) hF hM (c_X3_hasPlace e2) k_X3_hasPlace u287 u288 u289 rfl rfl t1 rfl hl.1 rfl (Nat.le_of_ble_eq_true rfl) dX3_remove_2 ⟨(Nat.le_of_ble_eq_true rfl), (Nat.le_of_ble_eq_true rfl)⟩ ⟨(Nat.le_of_ble_eq_true rfl), (Nat.le_of_ble_eq_true rfl)⟩ (fun H locs hM => ?_)
  refine lv_if_ne (tgt := 9) hx hb dX3_remove_5 (by decide) (fun c4 => ?_) (fun c4 => ?_)
  · replace h := (if_neg c4).symm.trans h
    refine lv_iload_n hx hb dX3_remove_9 rfl (lv_at hl 1 rfl) ?_
    refine lv_iconst (v := 1) hx hb dX3_remove_10 (by decide) ?_
    refine lv_iadd hx hb dX3_remove_11 ?_
    refine lv_istore_n (i := 2) (lv' := [(2, .int (x1 + 1)), (0, va_rf (some a0)), (1, .int x1)]) hx hb dX3_remove_12 rfl hl (by decide) rfl (fun ls hl => ?_)
    refine W.widen (k := 0) (n := 0) (Nat.le_of_ble_eq_true rfl) (Nat.le_of_ble_eq_true rfl) ?_
    exact JL13 gN _ _ h _ _ _ hM (lv_sub hl [1, 0] rfl)
  · replace h := (if_pos c4).symm.trans h
    rw [← (Option.some.inj h)]
    exact g_vret hF hM rfl dX3_remove_8 (Nat.le_of_ble_eq_true rfl) (Nat.le_of_ble_eq_true rfl)
abbrev rm_X3_placeToEnter : Room := { frames := 1, cells := 0, slots := 0, locals := 21 }
theorem k_X3_placeToEnter : gKc yX3_placeToEnter cX3_placeToEnter 3 (some .int) 1 := ⟨u975, u65, by decide +kernel, by decide +kernel, by decide +kernel⟩
set_option maxHeartbeats 4000000 in
set_option maxRecDepth 100000 in
theorem c_X3_placeToEnter {l : Launch} {D : va_G} {Y : Nat → ClassId} {S : GS} {hs : Nat} {a0 : Nat} {x1 : Int32} {r : Int32} (h : f_X3_placeToEnter S a0 x1 = some r) : gMet l yX3_placeToEnter (gWs yX3_placeToEnter cX3_placeToEnter 3 (some .int)) rm_X3_placeToEnter [va_rf (some a0), .int x1] D Y S hs (some (.int r)) S hs := by
  refine g_ofW (by decide +kernel) (Or.inl ⟨(Nat.le_of_ble_eq_true rfl), (List.forall_mem_cons.mpr ⟨rf_cat _, (List.forall_mem_cons.mpr ⟨rfl, (fun _ h => absurd h List.not_mem_nil)⟩)⟩)⟩) ?_
  intro p e s m args below meth c ls hsz hname hF hM hl
  have hl : lv_has ls 3 [(0, va_rf (some a0)), (1, .int x1)] := by rw [g_args [va_rf (some a0), .int x1] 0 (List.forall_mem_cons.mpr ⟨rf_cat _, (List.forall_mem_cons.mpr ⟨rfl, (fun _ h => absurd h List.not_mem_nil)⟩)⟩)] at hl; exact hl
  have hF : gF p s m args meth c RX3 cX3_placeToEnter 3 (some .int) D Y (gA S hs) := hF
  have hx := hF.1
  have hb := hF.2.1
  have Jb33 : ∀ (x2 : Int32), f_X3_placeToEnter_b33 S a0 x2 = some r → ∀ (H : Heap) (locs : List Loc) (ls : Array Slot), gM D Y (gA S hs) s.heap S hs H locs → lv_has ls 3 [(2, .int x2)] → W p l e rm_X3_placeToEnter s m args below meth c H locs 0 0 (MQ below (gQ (some (.int r)) D Y S hs (gA S hs)) args s rm_X3_placeToEnter.cells rm_X3_placeToEnter.slots (gA S hs)) (F0 m 33 ls []) := by
    intro x2 h H locs ls hM hl
    unfold f_X3_placeToEnter_b33 at h
    refine lv_iload_n hx hb dX3_placeToEnter_33 rfl (lv_at hl 0 rfl) ?_
    rw [← (Option.some.inj h)]
    exact g_iret hF hM rfl rfl dX3_placeToEnter_34 (Nat.le_of_ble_eq_true rfl) (Nat.le_of_ble_eq_true rfl)
  have JL5 : ∀ (n : Nat) (x1 : Int32) (x2 : Int32), f_X3_placeToEnter_L5 S a0 n x1 x2 = some r → ∀ (H : Heap) (locs : List Loc) (ls : Array Slot), gM D Y (gA S hs) s.heap S hs H locs → lv_has ls 3 [(0, va_rf (some a0)), (1, .int x1), (2, .int x2)] → W p l e rm_X3_placeToEnter s m args below meth c H locs 0 0 (MQ below (gQ (some (.int r)) D Y S hs (gA S hs)) args s rm_X3_placeToEnter.cells rm_X3_placeToEnter.slots (gA S hs)) (F0 m 5 ls []) := by
    intro n
    induction n with
    | zero => intro x1 x2 h; unfold f_X3_placeToEnter_L5 at h; exact nomatch h
    | succ n ih =>
      intro x1 x2 h H locs ls hM hl
      unfold f_X3_placeToEnter_L5 at h
      refine g_aload_n hx hb dX3_placeToEnter_5 rfl (lv_at hl 0 rfl) ?_
      have g := gbind h
      clear h
      obtain ⟨v3, e4, h⟩ := g
      refine g_getI hF hM fdX3 e4 (by decide) rfl u105 dX3_placeToEnter_6 ?_
      refine lv_if_eq (tgt := 33) hx hb dX3_placeToEnter_9 (by decide) (fun c5 => ?_) (fun c5 => ?_)
      · replace h := (if_pos c5).symm.trans h
        refine W.widen (k := 0) (n := 0) (Nat.le_of_ble_eq_true rfl) (Nat.le_of_ble_eq_true rfl) ?_
        exact Jb33 _ h _ _ _ hM (lv_sub hl [2] rfl)
      · replace h := (if_neg c5).symm.trans h
        refine lv_iload_n hx hb dX3_placeToEnter_12 rfl (lv_at hl 2 rfl) ?_
        refine lv_if_le (tgt := 33) hx hb dX3_placeToEnter_13 (by decide) (fun c6 => ?_) (fun c6 => ?_)
        · replace h := (if_pos c6).symm.trans h
          refine W.widen (k := 0) (n := 0) (Nat.le_of_ble_eq_true rfl) (Nat.le_of_ble_eq_true rfl) ?_
          exact Jb33 _ h _ _ _ hM (lv_sub hl [2] rfl)
        · replace h := (if_neg c6).symm.trans h
          refine g_aload_n hx hb dX3_placeToEnter_16 rfl (lv_at hl 0 rfl) ?_
          refine lv_iload_n hx hb dX3_placeToEnter_17 rfl (lv_at hl 2 rfl) ?_
          refine lv_iconst (v := 1) hx hb dX3_placeToEnter_18 (by decide) ?_
          refine lv_isub hx hb dX3_placeToEnter_19 ?_
          have g := gckE h
          clear h
          obtain ⟨t7, h⟩ := g
          have t7 := eq_of_beq t7
          have g := gbind h
          clear h
          obtain ⟨v9, e8, h⟩ := g
          refine g_callV (As := [.int (x2 - 1)]) (rest := []) hF hM (c_X3_numberIn e8) k_X3_numberIn u267 u218 u219 rfl rfl t7 rfl hl.1 rfl (Nat.le_of_ble_eq_true rfl) dX3_placeToEnter_20 ⟨(Nat.le_of_ble_eq_true rfl), (Nat.le_of_ble_eq_true rfl)⟩ ⟨(Nat.le_of_ble_eq_true rfl), (Nat.le_of_ble_eq_true rfl)⟩ (fun H locs hM => ?_)
          refine lv_iload_n hx hb dX3_placeToEnter_23 rfl (lv_at hl 1 rfl) ?_
          refine lv_icmp_le (tgt := 33) hx hb dX3_placeToEnter_24 (by decide) (fun c10 => ?_) (fun c10 => ?_)
          · replace h := (if_pos c10).symm.trans h
            refine W.widen (k := 0) (n := 0) (Nat.le_of_ble_eq_true rfl) (Nat.le_of_ble_eq_true rfl) ?_
            exact Jb33 _ h _ _ _ hM (lv_sub hl [2] rfl)
          · replace h := (if_neg c10).symm.trans h
            refine lv_iinc (v := (x2 + (-1))) (lv' := [(2, .int (x2 + (-1))), (0, va_rf (some a0)), (1, .int x1)]) hx hb dX3_placeToEnter_27 hl (k := 2) rfl rfl (by decide) rfl (fun ls hl => ?_)
            refine lv_goto (tgt := 5) hx hb dX3_placeToEnter_30 (by decide) ?_
            refine W.widen (k := 0) (n := 0) (Nat.le_of_ble_eq_true rfl) (Nat.le_of_ble_eq_true rfl) ?_
            exact ih _ _ h _ _ _ hM (lv_sub hl [1, 2, 0] rfl)
  unfold f_X3_placeToEnter at h
  refine g_aload_n hx hb dX3_placeToEnter_0 rfl (lv_at hl 0 rfl) ?_
  have g := gbind h
  clear h
  obtain ⟨v1, e2, h⟩ := g
  refine g_getI hF hM fdX3 e2 (by decide) rfl u107 dX3_placeToEnter_1 ?_
  refine lv_istore_n (i := 2) (lv' := [(2, .int v1), (0, va_rf (some a0)), (1, .int x1)]) hx hb dX3_placeToEnter_4 rfl hl (by decide) rfl (fun ls hl => ?_)
  refine W.widen (k := 0) (n := 0) (Nat.le_of_ble_eq_true rfl) (Nat.le_of_ble_eq_true rfl) ?_
  exact JL5 gN _ _ h _ _ _ hM (lv_sub hl [1, 2, 0] rfl)
