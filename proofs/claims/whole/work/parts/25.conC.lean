abbrev rm_X4_init : Room := { frames := 3, cells := 32, slots := 541, locals := 64 }
theorem k_X4_init : gKc yX4_init cX4_init 1 none 0 := ⟨u89, u63, by decide +kernel, by decide +kernel, by decide +kernel⟩
set_option maxHeartbeats 4000000 in
set_option maxRecDepth 100000 in
theorem c_X4_init {l : Launch} {D : va_G} {Y : Nat → ClassId} {S : GS} {hs : Nat} {a0 : Nat} {S' : GS} {hs' : Nat} (h : f_X4_init S hs a0 = some (S', hs')) : gMet l yX4_init (gWs yX4_init cX4_init 1 none) rm_X4_init [va_rf (some a0)] D Y S hs none S' hs' := by
  refine g_ofW (by decide +kernel) (Or.inl ⟨(Nat.le_of_ble_eq_true rfl), (List.forall_mem_cons.mpr ⟨rf_cat _, (fun _ h => absurd h List.not_mem_nil)⟩)⟩) ?_
  intro p e s m args below meth c ls hsz hname hF hM hl
  have hl : lv_has ls 1 [(0, va_rf (some a0))] := by rw [g_args [va_rf (some a0)] 0 (List.forall_mem_cons.mpr ⟨rf_cat _, (fun _ h => absurd h List.not_mem_nil)⟩)] at hl; exact hl
  have hF : gF p s m args meth c RX4 cX4_init 1 none D Y (gA S hs) := hF
  have hx := hF.1
  have hb := hF.2.1
  unfold f_X4_init at h
  refine g_aload_n hx hb dX4_init_0 rfl (lv_at hl 0 rfl) ?_
  refine g_objInit hF u90 u91 u92 hl.1 dX4_init_1 ⟨(Nat.le_of_ble_eq_true rfl), (Nat.le_of_ble_eq_true rfl)⟩ (Nat.le_of_ble_eq_true rfl) ?_
  refine g_aload_n hx hb dX4_init_4 rfl (lv_at hl 0 rfl) ?_
  refine lv_bipush (v := 12) hx hb dX4_init_5 (by decide) ?_
  have g := gbind h
  clear h
  obtain ⟨S1, e2, h⟩ := g
  refine g_newq (k := 12) hF hM u93 (by decide) (by decide) (Nat.le_of_ble_eq_true rfl) (Nat.le_of_ble_eq_true rfl) dX4_init_7 (fun H hM => ?_)
  have hM := hM.eq (Option.some.inj e2)
  have g := gbind h
  clear h
  obtain ⟨S3, e4, h⟩ := g
  refine g_putR hF hM fdX4 e4 (by decide) rfl (Or.inr ⟨rfl, hname, rfl⟩) u175 dX4_init_10 (fun H locs hM => ?_)
  refine g_aload_n hx hb dX4_init_13 rfl (lv_at hl 0 rfl) ?_
  have g := gbind h
  clear h
  obtain ⟨v5, e6, h⟩ := g
  refine g_getR hF hM fdX4 e6 (by decide) rfl u175 dX4_init_14 ?_
  refine lv_iconst (v := 0) hx hb dX4_init_17 (by decide) ?_
  have g := gbind h
  clear h
  obtain ⟨S7, e8, h⟩ := g
  refine g_new hF hM fdX1 u93 u95 u64 (Nat.le_of_ble_eq_true rfl) (Nat.le_of_ble_eq_true rfl) dX4_init_18 (fun H hM => ?_)
  have hM := hM.eq (Option.some.inj e8)
  refine lv_dup hx hb dX4_init_21 (rf_cat _) ?_
  refine lv_bipush (v := 108) hx hb dX4_init_22 (by decide) ?_
  refine lv_iconst (v := 1) hx hb dX4_init_24 (by decide) ?_
  have g := gbind h
  clear h
  obtain ⟨S9, e10, h⟩ := g
  refine g_new hF hM fdX3 u96 u97 u65 (Nat.le_of_ble_eq_true rfl) (Nat.le_of_ble_eq_true rfl) dX4_init_25 (fun H hM => ?_)
  have hM := hM.eq (Option.some.inj e10)
  refine lv_dup hx hb dX4_init_28 (rf_cat _) ?_
  refine lv_iconst (v := 0) hx hb dX4_init_29 (by decide) ?_
  have g := gb2E h
  clear h
  obtain ⟨S12, n13, e11, h⟩ := g
  refine g_callI (As := [.int 0]) (rest := [va_rf (some ((hs + 1) + 1)), .int 1, .int 108, va_rf (some (hs + 1)), va_rf (some (hs + 1)), .int 0, va_rf v5]) hF hM (c_X3_init e11) k_X3_init u98 u99 rfl rfl hl.1 rfl (by simp [rf_cat, ic_cat, lc_cat]) dX4_init_30 ⟨(Nat.le_of_ble_eq_true rfl), (Nat.le_of_ble_eq_true rfl)⟩ ⟨(Nat.le_of_ble_eq_true rfl), (Nat.le_of_ble_eq_true rfl)⟩ (fun H locs hM => ?_)
  refine g_null hx hb dX4_init_33 ?_
  have g := gbind h
  clear h
  obtain ⟨S15, e14, h⟩ := g
  refine g_callI (As := [.int 108, .int 1, va_rf (some ((hs + 1) + 1)), va_rf none]) (rest := [va_rf (some (hs + 1)), .int 0, va_rf v5]) hF hM (c_X1_init e14) k_X1_init u126 u127 rfl rfl hl.1 rfl (by simp [rf_cat, ic_cat, lc_cat]) dX4_init_34 ⟨(Nat.le_of_ble_eq_true rfl), (Nat.le_of_ble_eq_true rfl)⟩ ⟨(Nat.le_of_ble_eq_true rfl), (Nat.le_of_ble_eq_true rfl)⟩ (fun H locs hM => ?_)
  have g := gckE h
  clear h
  obtain ⟨q18, h⟩ := g
  have g := gbind h
  clear h
  obtain ⟨S16, e17, h⟩ := g
  refine g_aast hF hM e17 (gpn_of q18) dX4_init_37 (fun H locs hM => ?_)
  refine g_aload_n hx hb dX4_init_38 rfl (lv_at hl 0 rfl) ?_
  have g := gbind h
  clear h
  obtain ⟨v19, e20, h⟩ := g
  refine g_getR hF hM fdX4 e20 (by decide) rfl u175 dX4_init_39 ?_
  refine lv_iconst (v := 1) hx hb dX4_init_42 (by decide) ?_
  have g := gbind h
  clear h
  obtain ⟨S21, e22, h⟩ := g
  refine g_new hF hM fdX1 u93 u95 u64 (Nat.le_of_ble_eq_true rfl) (Nat.le_of_ble_eq_true rfl) dX4_init_43 (fun H hM => ?_)
  have hM := hM.eq (Option.some.inj e22)
  refine lv_dup hx hb dX4_init_46 (rf_cat _) ?_
  refine lv_bipush (v := 108) hx hb dX4_init_47 (by decide) ?_
  refine lv_iconst (v := 1) hx hb dX4_init_49 (by decide) ?_
  have g := gbind h
  clear h
  obtain ⟨S23, e24, h⟩ := g
  refine g_new hF hM fdX3 u96 u97 u65 (Nat.le_of_ble_eq_true rfl) (Nat.le_of_ble_eq_true rfl) dX4_init_50 (fun H hM => ?_)
  have hM := hM.eq (Option.some.inj e24)
  refine lv_dup hx hb dX4_init_53 (rf_cat _) ?_
  refine lv_iconst (v := 0) hx hb dX4_init_54 (by decide) ?_
  have g := gb2E h
  clear h
  obtain ⟨S26, n27, e25, h⟩ := g
  refine g_callI (As := [.int 0]) (rest := [va_rf (some (n13 + 1)), .int 1, .int 108, va_rf (some n13), va_rf (some n13), .int 1, va_rf v19]) hF hM (c_X3_init e25) k_X3_init u98 u99 rfl rfl hl.1 rfl (by simp [rf_cat, ic_cat, lc_cat]) dX4_init_55 ⟨(Nat.le_of_ble_eq_true rfl), (Nat.le_of_ble_eq_true rfl)⟩ ⟨(Nat.le_of_ble_eq_true rfl), (Nat.le_of_ble_eq_true rfl)⟩ (fun H locs hM => ?_)
  refine g_null hx hb dX4_init_58 ?_
  have g := gbind h
  clear h
  obtain ⟨S29, e28, h⟩ := g
  refine g_callI (As := [.int 108, .int 1, va_rf (some (n13 + 1)), va_rf none]) (rest := [va_rf (some n13), .int 1, va_rf v19]) hF hM (c_X1_init e28) k_X1_init u126 u127 rfl rfl hl.1 rfl (by simp [rf_cat, ic_cat, lc_cat]) dX4_init_59 ⟨(Nat.le_of_ble_eq_true rfl), (Nat.le_of_ble_eq_true rfl)⟩ ⟨(Nat.le_of_ble_eq_true rfl), (Nat.le_of_ble_eq_true rfl)⟩ (fun H locs hM => ?_)
  have g := gckE h
  clear h
  obtain ⟨q32, h⟩ := g
  have g := gbind h
  clear h
  obtain ⟨S30, e31, h⟩ := g
  refine g_aast hF hM e31 (gpn_of q32) dX4_init_62 (fun H locs hM => ?_)
  refine g_aload_n hx hb dX4_init_63 rfl (lv_at hl 0 rfl) ?_
  have g := gbind h
  clear h
  obtain ⟨v33, e34, h⟩ := g
  refine g_getR hF hM fdX4 e34 (by decide) rfl u175 dX4_init_64 ?_
  refine lv_iconst (v := 2) hx hb dX4_init_67 (by decide) ?_
  have g := gbind h
  clear h
  obtain ⟨S35, e36, h⟩ := g
  refine g_new hF hM fdX1 u93 u95 u64 (Nat.le_of_ble_eq_true rfl) (Nat.le_of_ble_eq_true rfl) dX4_init_68 (fun H hM => ?_)
  have hM := hM.eq (Option.some.inj e36)
  refine lv_dup hx hb dX4_init_71 (rf_cat _) ?_
  refine lv_bipush (v := 109) hx hb dX4_init_72 (by decide) ?_
  refine lv_iconst (v := 1) hx hb dX4_init_74 (by decide) ?_
  have g := gbind h
  clear h
  obtain ⟨S37, e38, h⟩ := g
  refine g_new hF hM fdX3 u96 u97 u65 (Nat.le_of_ble_eq_true rfl) (Nat.le_of_ble_eq_true rfl) dX4_init_75 (fun H hM => ?_)
  have hM := hM.eq (Option.some.inj e38)
  refine lv_dup hx hb dX4_init_78 (rf_cat _) ?_
  refine lv_iconst (v := 0) hx hb dX4_init_79 (by decide) ?_
  have g := gb2E h
  clear h
  obtain ⟨S40, n41, e39, h⟩ := g
  refine g_callI (As := [.int 0]) (rest := [va_rf (some (n27 + 1)), .int 1, .int 109, va_rf (some n27), va_rf (some n27), .int 2, va_rf v33]) hF hM (c_X3_init e39) k_X3_init u98 u99 rfl rfl hl.1 rfl (by simp [rf_cat, ic_cat, lc_cat]) dX4_init_80 ⟨(Nat.le_of_ble_eq_true rfl), (Nat.le_of_ble_eq_true rfl)⟩ ⟨(Nat.le_of_ble_eq_true rfl), (Nat.le_of_ble_eq_true rfl)⟩ (fun H locs hM => ?_)
  refine g_null hx hb dX4_init_83 ?_
  have g := gbind h
  clear h
  obtain ⟨S43, e42, h⟩ := g
  refine g_callI (As := [.int 109, .int 1, va_rf (some (n27 + 1)), va_rf none]) (rest := [va_rf (some n27), .int 2, va_rf v33]) hF hM (c_X1_init e42) k_X1_init u126 u127 rfl rfl hl.1 rfl (by simp [rf_cat, ic_cat, lc_cat]) dX4_init_84 ⟨(Nat.le_of_ble_eq_true rfl), (Nat.le_of_ble_eq_true rfl)⟩ ⟨(Nat.le_of_ble_eq_true rfl), (Nat.le_of_ble_eq_true rfl)⟩ (fun H locs hM => ?_)
  have g := gckE h
  clear h
  obtain ⟨q46, h⟩ := g
  have g := gbind h
  clear h
  obtain ⟨S44, e45, h⟩ := g
  refine g_aast hF hM e45 (gpn_of q46) dX4_init_87 (fun H locs hM => ?_)
  refine g_aload_n hx hb dX4_init_88 rfl (lv_at hl 0 rfl) ?_
  have g := gbind h
  clear h
  obtain ⟨v47, e48, h⟩ := g
  refine g_getR hF hM fdX4 e48 (by decide) rfl u175 dX4_init_89 ?_
  refine lv_iconst (v := 3) hx hb dX4_init_92 (by decide) ?_
  have g := gbind h
  clear h
  obtain ⟨S49, e50, h⟩ := g
  refine g_new hF hM fdX1 u93 u95 u64 (Nat.le_of_ble_eq_true rfl) (Nat.le_of_ble_eq_true rfl) dX4_init_93 (fun H hM => ?_)
  have hM := hM.eq (Option.some.inj e50)
  refine lv_dup hx hb dX4_init_96 (rf_cat _) ?_
  refine lv_bipush (v := 109) hx hb dX4_init_97 (by decide) ?_
  refine lv_iconst (v := 1) hx hb dX4_init_99 (by decide) ?_
  have g := gbind h
  clear h
  obtain ⟨S51, e52, h⟩ := g
  refine g_new hF hM fdX3 u96 u97 u65 (Nat.le_of_ble_eq_true rfl) (Nat.le_of_ble_eq_true rfl) dX4_init_100 (fun H hM => ?_)
  have hM := hM.eq (Option.some.inj e52)
  refine lv_dup hx hb dX4_init_103 (rf_cat _) ?_
  refine lv_iconst (v := 1) hx hb dX4_init_104 (by decide) ?_
  have g := gb2E h
  clear h
  obtain ⟨S54, n55, e53, h⟩ := g
  refine g_callI (As := [.int 1]) (rest := [va_rf (some (n41 + 1)), .int 1, .int 109, va_rf (some n41), va_rf (some n41), .int 3, va_rf v47]) hF hM (c_X3_init e53) k_X3_init u98 u99 rfl rfl hl.1 rfl (by simp [rf_cat, ic_cat, lc_cat]) dX4_init_105 ⟨(Nat.le_of_ble_eq_true rfl), (Nat.le_of_ble_eq_true rfl)⟩ ⟨(Nat.le_of_ble_eq_true rfl), (Nat.le_of_ble_eq_true rfl)⟩ (fun H locs hM => ?_)
  refine g_null hx hb dX4_init_108 ?_
  have g := gbind h
  clear h
  obtain ⟨S57, e56, h⟩ := g
  refine g_callI (As := [.int 109, .int 1, va_rf (some (n41 + 1)), va_rf none]) (rest := [va_rf (some n41), .int 3, va_rf v47]) hF hM (c_X1_init e56) k_X1_init u126 u127 rfl rfl hl.1 rfl (by simp [rf_cat, ic_cat, lc_cat]) dX4_init_109 ⟨(Nat.le_of_ble_eq_true rfl), (Nat.le_of_ble_eq_true rfl)⟩ ⟨(Nat.le_of_ble_eq_true rfl), (Nat.le_of_ble_eq_true rfl)⟩ (fun H locs hM => ?_)
  have g := gckE h
  clear h
  obtain ⟨q60, h⟩ := g
  have g := gbind h
  clear h
  obtain ⟨S58, e59, h⟩ := g
  refine g_aast hF hM e59 (gpn_of q60) dX4_init_112 (fun H locs hM => ?_)
  refine g_aload_n hx hb dX4_init_113 rfl (lv_at hl 0 rfl) ?_
  have g := gbind h
  clear h
  obtain ⟨S61, e62, h⟩ := g
  refine g_new hF hM fdX3 u96 u97 u65 (Nat.le_of_ble_eq_true rfl) (Nat.le_of_ble_eq_true rfl) dX4_init_114 (fun H hM => ?_)
  have hM := hM.eq (Option.some.inj e62)
  refine lv_dup hx hb dX4_init_117 (rf_cat _) ?_
  refine lv_iconst (v := 0) hx hb dX4_init_118 (by decide) ?_
  have g := gb2E h
  clear h
  obtain ⟨S64, n65, e63, h⟩ := g
  refine g_callI (As := [.int 0]) (rest := [va_rf (some n55), va_rf (some a0)]) hF hM (c_X3_init e63) k_X3_init u98 u99 rfl rfl hl.1 rfl (Nat.le_of_ble_eq_true rfl) dX4_init_119 ⟨(Nat.le_of_ble_eq_true rfl), (Nat.le_of_ble_eq_true rfl)⟩ ⟨(Nat.le_of_ble_eq_true rfl), (Nat.le_of_ble_eq_true rfl)⟩ (fun H locs hM => ?_)
  have g := gbind h
  clear h
  obtain ⟨S66, e67, h⟩ := g
  refine g_putR hF hM fdX4 e67 (by decide) rfl (Or.inr ⟨rfl, hname, rfl⟩) u176 dX4_init_122 (fun H locs hM => ?_)
  refine g_aload_n hx hb dX4_init_125 rfl (lv_at hl 0 rfl) ?_
  refine lv_bipush (v := 24) hx hb dX4_init_126 (by decide) ?_
  have g := gbind h
  clear h
  obtain ⟨S68, e69, h⟩ := g
  refine g_newa (k := 24) hF hM (Or.inr (Or.inl ⟨rfl, rfl, rfl⟩)) u174 (by decide) (by decide) (Nat.le_of_ble_eq_true rfl) (Nat.le_of_ble_eq_true rfl) dX4_init_128 (fun H hM => ?_)
  have hM := hM.eq (Option.some.inj e69)
  have g := gbind h
  clear h
  obtain ⟨S70, e71, h⟩ := g
  refine g_putR hF hM fdX4 e71 (by decide) rfl (Or.inr ⟨rfl, hname, rfl⟩) u177 dX4_init_130 (fun H locs hM => ?_)
  refine g_aload_n hx hb dX4_init_133 rfl (lv_at hl 0 rfl) ?_
  have g := gbind h
  clear h
  obtain ⟨S72, e73, h⟩ := g
  refine g_new hF hM fdX0 u157 u158 u66 (Nat.le_of_ble_eq_true rfl) (Nat.le_of_ble_eq_true rfl) dX4_init_134 (fun H hM => ?_)
  have hM := hM.eq (Option.some.inj e73)
  refine lv_dup hx hb dX4_init_137 (rf_cat _) ?_
  have g := gb2E h
  clear h
  obtain ⟨S75, n76, e74, h⟩ := g
  refine g_callI (As := []) (rest := [va_rf (some (n65 + 1)), va_rf (some a0)]) hF hM (c_X0_init e74) k_X0_init u159 u160 rfl rfl hl.1 rfl (Nat.le_of_ble_eq_true rfl) dX4_init_138 ⟨(Nat.le_of_ble_eq_true rfl), (Nat.le_of_ble_eq_true rfl)⟩ ⟨(Nat.le_of_ble_eq_true rfl), (Nat.le_of_ble_eq_true rfl)⟩ (fun H locs hM => ?_)
  have g := gbind h
  clear h
  obtain ⟨S77, e78, h⟩ := g
  refine g_putR hF hM fdX4 e78 (by decide) rfl (Or.inr ⟨rfl, hname, rfl⟩) u178 dX4_init_141 (fun H locs hM => ?_)
  obtain ⟨q1, q2⟩ := Prod.mk.inj (Option.some.inj h)
  rw [← q1, ← q2]
  exact g_vret hF hM rfl dX4_init_144 (Nat.le_of_ble_eq_true rfl) (Nat.le_of_ble_eq_true rfl)
abbrev rm_X4_needPaneSlot : Room := { frames := 0, cells := 0, slots := 0, locals := 0 }
theorem k_X4_needPaneSlot : gKc yX4_needPaneSlot cX4_needPaneSlot 1 none 1 := ⟨u495, u63, by decide +kernel, by decide +kernel, by decide +kernel⟩
set_option maxHeartbeats 4000000 in
set_option maxRecDepth 100000 in
theorem c_X4_needPaneSlot {l : Launch} {D : va_G} {Y : Nat → ClassId} {S : GS} {hs : Nat} {x0 : Int32} {r : Unit} (h : f_X4_needPaneSlot S x0 = some (.inl r)) : gMet l yX4_needPaneSlot (gWs yX4_needPaneSlot cX4_needPaneSlot 1 none) rm_X4_needPaneSlot [.int x0] D Y S hs none S hs := by
  refine g_ofW (by decide +kernel) (Or.inl ⟨(Nat.le_of_ble_eq_true rfl), (List.forall_mem_cons.mpr ⟨rfl, (fun _ h => absurd h List.not_mem_nil)⟩)⟩) ?_
  intro p e s m args below meth c ls hsz hname hF hM hl
  have hl : lv_has ls 1 [(0, .int x0)] := by rw [g_args [.int x0] 0 (List.forall_mem_cons.mpr ⟨rfl, (fun _ h => absurd h List.not_mem_nil)⟩)] at hl; exact hl
  have hF : gF p s m args meth c RX4 cX4_needPaneSlot 1 none D Y (gA S hs) := hF
  have hx := hF.1
  have hb := hF.2.1
  unfold f_X4_needPaneSlot at h
  refine lv_iload_n hx hb dX4_needPaneSlot_0 rfl (lv_at hl 0 rfl) ?_
  refine lv_iconst (v := 4) hx hb dX4_needPaneSlot_1 (by decide) ?_
  refine lv_icmp_lt (tgt := 11) hx hb dX4_needPaneSlot_2 (by decide) (fun c1 => ?_) (fun c1 => ?_)
  · replace h := (if_pos c1).symm.trans h
    exact nomatch (Option.some.inj h)
  · replace h := (if_neg c1).symm.trans h
    refine lv_iload_n hx hb dX4_needPaneSlot_5 rfl (lv_at hl 0 rfl) ?_
    refine lv_bipush (v := 12) hx hb dX4_needPaneSlot_6 (by decide) ?_
    refine lv_icmp_lt (tgt := 19) hx hb dX4_needPaneSlot_8 (by decide) (fun c2 => ?_) (fun c2 => ?_)
    · replace h := (if_pos c2).symm.trans h
      exact g_vret hF hM rfl dX4_needPaneSlot_19 (Nat.le_of_ble_eq_true rfl) (Nat.le_of_ble_eq_true rfl)
    · replace h := (if_neg c2).symm.trans h
      exact nomatch (Option.some.inj h)
abbrev rmx_X4_needPaneSlot : Room := { frames := 6, cells := 1, slots := 6, locals := 89 }
set_option maxHeartbeats 4000000 in
set_option maxRecDepth 100000 in
theorem cx_X4_needPaneSlot {l : Launch} {D : va_G} {Y : Nat → ClassId} {S : GS} {hs : Nat} {x0 : Int32} {x : Nat} (hfl : l.stackTraces = false) (h : f_X4_needPaneSlot S x0 = some (.inr x)) : gMx l yX4_needPaneSlot (gWs yX4_needPaneSlot cX4_needPaneSlot 1 none) rmx_X4_needPaneSlot [.int x0] D Y S hs (.inr x) := by
  refine g_ofWx (by decide +kernel) (Or.inl ⟨(Nat.le_of_ble_eq_true rfl), (List.forall_mem_cons.mpr ⟨rfl, (fun _ h => absurd h List.not_mem_nil)⟩)⟩) ?_
  intro p e s m args below meth c ls hsz hout hF hM hl
  have hl : lv_has ls 1 [(0, .int x0)] := by rw [g_args [.int x0] 0 (List.forall_mem_cons.mpr ⟨rfl, (fun _ h => absurd h List.not_mem_nil)⟩)] at hl; exact hl
  have hF : gF p s m args meth c RX4 cX4_needPaneSlot 1 none D Y (gA S hs) := hF
  have hx := hF.1
  have hb := hF.2.1
  unfold f_X4_needPaneSlot at h
  refine lv_iload_n hx hb dX4_needPaneSlot_0 rfl (lv_at hl 0 rfl) ?_
  refine lv_iconst (v := 4) hx hb dX4_needPaneSlot_1 (by decide) ?_
  refine lv_icmp_lt (tgt := 11) hx hb dX4_needPaneSlot_2 (by decide) (fun c1 => ?_) (fun c1 => ?_)
  · replace h := (if_pos c1).symm.trans h
    exact g_throw hF hM hfl hout ew_X4_292_294 (congrArg Sum.inr (Sum.inr.inj (Option.some.inj h)).symm) hl.1 dX4_needPaneSlot_11 dX4_needPaneSlot_14 dX4_needPaneSlot_15 dX4_needPaneSlot_18 (Nat.le_of_ble_eq_true rfl) (Nat.le_of_ble_eq_true rfl) (Nat.le_of_ble_eq_true rfl) (Nat.le_of_ble_eq_true rfl) (Nat.le_of_ble_eq_true rfl) (Nat.le_of_ble_eq_true rfl)
  · replace h := (if_neg c1).symm.trans h
    refine lv_iload_n hx hb dX4_needPaneSlot_5 rfl (lv_at hl 0 rfl) ?_
    refine lv_bipush (v := 12) hx hb dX4_needPaneSlot_6 (by decide) ?_
    refine lv_icmp_lt (tgt := 19) hx hb dX4_needPaneSlot_8 (by decide) (fun c2 => ?_) (fun c2 => ?_)
    · replace h := (if_pos c2).symm.trans h
      exact nomatch (Option.some.inj h)
    · replace h := (if_neg c2).symm.trans h
      exact g_throw hF hM hfl hout ew_X4_292_294 (congrArg Sum.inr (Sum.inr.inj (Option.some.inj h)).symm) hl.1 dX4_needPaneSlot_11 dX4_needPaneSlot_14 dX4_needPaneSlot_15 dX4_needPaneSlot_18 (Nat.le_of_ble_eq_true rfl) (Nat.le_of_ble_eq_true rfl) (Nat.le_of_ble_eq_true rfl) (Nat.le_of_ble_eq_true rfl) (Nat.le_of_ble_eq_true rfl) (Nat.le_of_ble_eq_true rfl)
abbrev rm_X4_held : Room := { frames := 0, cells := 0, slots := 0, locals := 0 }
theorem k_X4_held : gKc yX4_held cX4_held 2 (some (.object "Viewhouse$Pane")) 1 := ⟨u520, u63, by decide +kernel, by decide +kernel, by decide +kernel⟩
set_option maxHeartbeats 4000000 in
set_option maxRecDepth 100000 in
theorem c_X4_held {l : Launch} {D : va_G} {Y : Nat → ClassId} {S : GS} {hs : Nat} {a0 : Nat} {x1 : Int32} {r : Option Nat} (h : f_X4_held S a0 x1 = some (.inl r)) : gMet l yX4_held (gWs yX4_held cX4_held 2 (some (.object "Viewhouse$Pane"))) rm_X4_held [va_rf (some a0), .int x1] D Y S hs (some (va_rf r)) S hs := by
  refine g_ofW (by decide +kernel) (Or.inl ⟨(Nat.le_of_ble_eq_true rfl), (List.forall_mem_cons.mpr ⟨rf_cat _, (List.forall_mem_cons.mpr ⟨rfl, (fun _ h => absurd h List.not_mem_nil)⟩)⟩)⟩) ?_
  intro p e s m args below meth c ls hsz hname hF hM hl
  have hl : lv_has ls 2 [(0, va_rf (some a0)), (1, .int x1)] := by rw [g_args [va_rf (some a0), .int x1] 0 (List.forall_mem_cons.mpr ⟨rf_cat _, (List.forall_mem_cons.mpr ⟨rfl, (fun _ h => absurd h List.not_mem_nil)⟩)⟩)] at hl; exact hl
  have hF : gF p s m args meth c RX4 cX4_held 2 (some (.object "Viewhouse$Pane")) D Y (gA S hs) := hF
  have hx := hF.1
  have hb := hF.2.1
  unfold f_X4_held at h
  refine lv_iload_n hx hb dX4_held_0 rfl (lv_at hl 1 rfl) ?_
  refine lv_if_lt (tgt := 10) hx hb dX4_held_1 (by decide) (fun c1 => ?_) (fun c1 => ?_)
  · replace h := (if_pos c1).symm.trans h
    exact nomatch (Option.some.inj h)
  · replace h := (if_neg c1).symm.trans h
    refine lv_iload_n hx hb dX4_held_4 rfl (lv_at hl 1 rfl) ?_
    refine lv_bipush (v := 12) hx hb dX4_held_5 (by decide) ?_
    refine lv_icmp_lt (tgt := 18) hx hb dX4_held_7 (by decide) (fun c2 => ?_) (fun c2 => ?_)
    · replace h := (if_pos c2).symm.trans h
      refine g_aload_n hx hb dX4_held_18 rfl (lv_at hl 0 rfl) ?_
      have g := gbind h
      clear h
      obtain ⟨v3, e4, h⟩ := g
      refine g_getR hF hM fdX4 e4 (by decide) rfl u175 dX4_held_19 ?_
      refine lv_iload_n hx hb dX4_held_22 rfl (lv_at hl 1 rfl) ?_
      have g := gbind h
      clear h
      obtain ⟨v5, e6, h⟩ := g
      refine g_aald hF hM (by decide) e6 dX4_held_23 ?_
      rw [← (Sum.inl.inj (Option.some.inj h))]
      exact g_aret hF hM rfl (Or.inl ⟨_, rfl⟩) dX4_held_24 (Nat.le_of_ble_eq_true rfl) (Nat.le_of_ble_eq_true rfl)
    · replace h := (if_neg c2).symm.trans h
      exact nomatch (Option.some.inj h)
abbrev rmx_X4_held : Room := { frames := 6, cells := 1, slots := 6, locals := 89 }
set_option maxHeartbeats 4000000 in
set_option maxRecDepth 100000 in
theorem cx_X4_held {l : Launch} {D : va_G} {Y : Nat → ClassId} {S : GS} {hs : Nat} {a0 : Nat} {x1 : Int32} {x : Nat} (hfl : l.stackTraces = false) (h : f_X4_held S a0 x1 = some (.inr x)) : gMx l yX4_held (gWs yX4_held cX4_held 2 (some (.object "Viewhouse$Pane"))) rmx_X4_held [va_rf (some a0), .int x1] D Y S hs (.inr x) := by
  refine g_ofWx (by decide +kernel) (Or.inl ⟨(Nat.le_of_ble_eq_true rfl), (List.forall_mem_cons.mpr ⟨rf_cat _, (List.forall_mem_cons.mpr ⟨rfl, (fun _ h => absurd h List.not_mem_nil)⟩)⟩)⟩) ?_
  intro p e s m args below meth c ls hsz hout hF hM hl
  have hl : lv_has ls 2 [(0, va_rf (some a0)), (1, .int x1)] := by rw [g_args [va_rf (some a0), .int x1] 0 (List.forall_mem_cons.mpr ⟨rf_cat _, (List.forall_mem_cons.mpr ⟨rfl, (fun _ h => absurd h List.not_mem_nil)⟩)⟩)] at hl; exact hl
  have hF : gF p s m args meth c RX4 cX4_held 2 (some (.object "Viewhouse$Pane")) D Y (gA S hs) := hF
  have hx := hF.1
  have hb := hF.2.1
  unfold f_X4_held at h
  refine lv_iload_n hx hb dX4_held_0 rfl (lv_at hl 1 rfl) ?_
  refine lv_if_lt (tgt := 10) hx hb dX4_held_1 (by decide) (fun c1 => ?_) (fun c1 => ?_)
  · replace h := (if_pos c1).symm.trans h
    exact g_throw hF hM hfl hout ew_X4_292_294 (congrArg Sum.inr (Sum.inr.inj (Option.some.inj h)).symm) hl.1 dX4_held_10 dX4_held_13 dX4_held_14 dX4_held_17 (Nat.le_of_ble_eq_true rfl) (Nat.le_of_ble_eq_true rfl) (Nat.le_of_ble_eq_true rfl) (Nat.le_of_ble_eq_true rfl) (Nat.le_of_ble_eq_true rfl) (Nat.le_of_ble_eq_true rfl)
  · replace h := (if_neg c1).symm.trans h
    refine lv_iload_n hx hb dX4_held_4 rfl (lv_at hl 1 rfl) ?_
    refine lv_bipush (v := 12) hx hb dX4_held_5 (by decide) ?_
    refine lv_icmp_lt (tgt := 18) hx hb dX4_held_7 (by decide) (fun c2 => ?_) (fun c2 => ?_)
    · replace h := (if_pos c2).symm.trans h
      refine g_aload_n hx hb dX4_held_18 rfl (lv_at hl 0 rfl) ?_
      have g := gbind h
      clear h
      obtain ⟨v3, e4, h⟩ := g
      refine g_getR hF hM fdX4 e4 (by decide) rfl u175 dX4_held_19 ?_
      refine lv_iload_n hx hb dX4_held_22 rfl (lv_at hl 1 rfl) ?_
      have g := gbind h
      clear h
      obtain ⟨v5, e6, h⟩ := g
      refine g_aald hF hM (by decide) e6 dX4_held_23 ?_
      exact nomatch (Option.some.inj h)
    · replace h := (if_neg c2).symm.trans h
      exact g_throw hF hM hfl hout ew_X4_292_294 (congrArg Sum.inr (Sum.inr.inj (Option.some.inj h)).symm) hl.1 dX4_held_10 dX4_held_13 dX4_held_14 dX4_held_17 (Nat.le_of_ble_eq_true rfl) (Nat.le_of_ble_eq_true rfl) (Nat.le_of_ble_eq_true rfl) (Nat.le_of_ble_eq_true rfl) (Nat.le_of_ble_eq_true rfl) (Nat.le_of_ble_eq_true rfl)
abbrev rm_X4_part : Room := { frames := 2, cells := 2, slots := 11, locals := 44 }
theorem k_X4_part : gKc yX4_part cX4_part 7 (some .int) 4 := ⟨u492, u63, by decide +kernel, by decide +kernel, by decide +kernel⟩
set_option maxHeartbeats 4000000 in
set_option maxRecDepth 100000 in
theorem c_X4_part {l : Launch} {D : va_G} {Y : Nat → ClassId} {S : GS} {hs : Nat} {a0 : Nat} {x1 : Int32} {x2 : Int32} {x3 : Int32} {x4 : Int32} {r : Int32} {S' : GS} {hs' : Nat} (h : f_X4_part S hs a0 x1 x2 x3 x4 = some (.inl (r, S', hs'))) : gMet l yX4_part (gWs yX4_part cX4_part 7 (some .int)) rm_X4_part [va_rf (some a0), .int x1, .int x2, .int x3, .int x4] D Y S hs (some (.int r)) S' hs' := by
  refine g_ofW (by decide +kernel) (Or.inl ⟨(Nat.le_of_ble_eq_true rfl), (List.forall_mem_cons.mpr ⟨rf_cat _, (List.forall_mem_cons.mpr ⟨rfl, (List.forall_mem_cons.mpr ⟨rfl, (List.forall_mem_cons.mpr ⟨rfl, (List.forall_mem_cons.mpr ⟨rfl, (fun _ h => absurd h List.not_mem_nil)⟩)⟩)⟩)⟩)⟩)⟩) ?_
  intro p e s m args below meth c ls hsz hname hF hM hl
  have hl : lv_has ls 7 [(0, va_rf (some a0)), (1, .int x1), (2, .int x2), (3, .int x3), (4, .int x4)] := by rw [g_args [va_rf (some a0), .int x1, .int x2, .int x3, .int x4] 0 (List.forall_mem_cons.mpr ⟨rf_cat _, (List.forall_mem_cons.mpr ⟨rfl, (List.forall_mem_cons.mpr ⟨rfl, (List.forall_mem_cons.mpr ⟨rfl, (List.forall_mem_cons.mpr ⟨rfl, (fun _ h => absurd h List.not_mem_nil)⟩)⟩)⟩)⟩)⟩)] at hl; exact hl
  have hF : gF p s m args meth c RX4 cX4_part 7 (some .int) D Y (gA S hs) := hF
  have hx := hF.1
  have hb := hF.2.1
  have Jb44 : ∀ (x1 : Int32) (x3 : Int32) (x4 : Int32) (x5 : Option Nat), f_X4_part_b44 S hs a0 x1 x3 x4 x5 = some (.inl (r, S', hs')) → ∀ (H : Heap) (locs : List Loc) (ls : Array Slot), gM D Y (gA S hs) s.heap S hs H locs → lv_has ls 7 [(0, va_rf (some a0)), (1, .int x1), (3, .int x3), (4, .int x4), (5, va_rf x5)] → W p l e rm_X4_part s m args below meth c H locs 0 0 (MQ below (gQ (some (.int r)) D Y S' hs' (gA S hs)) args s rm_X4_part.cells rm_X4_part.slots (gA S hs)) (F0 m 44 ls []) := by
    intro x1 x3 x4 x5 h H locs ls hM hl
    unfold f_X4_part_b44 at h
    refine lv_iload_n hx hb dX4_part_44 rfl (lv_at hl 2 rfl) ?_
    refine lv_if_lt (tgt := 64) hx hb dX4_part_45 (by decide) (fun c14 => ?_) (fun c14 => ?_)
    · replace h := (if_pos c14).symm.trans h
      exact nomatch (Option.some.inj h)
    · replace h := (if_neg c14).symm.trans h
      refine lv_iload_n hx hb dX4_part_48 rfl (lv_at hl 2 rfl) ?_
      refine lv_iload hx hb dX4_part_49 (lv_at hl 3 rfl) ?_
      refine lv_icmp_gt (tgt := 64) hx hb dX4_part_51 (by decide) (fun c15 => ?_) (fun c15 => ?_)
      · replace h := (if_pos c15).symm.trans h
        exact nomatch (Option.some.inj h)
      · replace h := (if_neg c15).symm.trans h
        refine lv_iload hx hb dX4_part_54 (lv_at hl 3 rfl) ?_
        refine g_aload hx hb dX4_part_56 (lv_at hl 4 rfl) ?_
        have g := gbind h
        clear h
        obtain ⟨a16, e17, h⟩ := g
        have t18 := (gtk_of e17).2
        rw [(gtk_of e17).1]
        have g := gbind h
        clear h
        obtain ⟨v20, e19, h⟩ := g
        refine g_callV (As := []) (rest := [.int x4]) hF hM (c_X1_count e19) k_X1_count u195 u196 u197 rfl rfl t18 rfl hl.1 rfl (Nat.le_of_ble_eq_true rfl) dX4_part_58 ⟨(Nat.le_of_ble_eq_true rfl), (Nat.le_of_ble_eq_true rfl)⟩ ⟨(Nat.le_of_ble_eq_true rfl), (Nat.le_of_ble_eq_true rfl)⟩ (fun H locs hM => ?_)
        refine lv_icmp_le (tgt := 72) hx hb dX4_part_61 (by decide) (fun c21 => ?_) (fun c21 => ?_)
        · replace h := (if_pos c21).symm.trans h
          have g := gbind h
          clear h
          obtain ⟨S22, e23, h⟩ := g
          refine g_new hF hM fdX2 u551 u552 u76 (Nat.le_of_ble_eq_true rfl) (Nat.le_of_ble_eq_true rfl) dX4_part_72 (fun H hM => ?_)
          have hM := hM.eq (Option.some.inj e23)
          refine lv_dup hx hb dX4_part_75 (rf_cat _) ?_
          refine g_aload hx hb dX4_part_76 (lv_at hl 4 rfl) ?_
          have g := gbind h
          clear h
          obtain ⟨v24, e25, h⟩ := g
          refine g_getR hF hM fdX1 e25 (by decide) rfl u138 dX4_part_78 ?_
          refine g_aload hx hb dX4_part_81 (lv_at hl 4 rfl) ?_
          have g := gbind h
          clear h
          obtain ⟨a26, e27, h⟩ := g
          have t28 := (gtk_of e27).2
          rw [(gtk_of e27).1]
          have g := gbind h
          clear h
          obtain ⟨v30, e29, h⟩ := g
          refine g_callV (As := []) (rest := [va_rf v24, va_rf (some hs), va_rf (some hs)]) hF hM (c_X1_first e29) k_X1_first u553 u214 u215 rfl rfl t28 rfl hl.1 rfl (by simp [rf_cat, ic_cat, lc_cat]) dX4_part_83 ⟨(Nat.le_of_ble_eq_true rfl), (Nat.le_of_ble_eq_true rfl)⟩ ⟨(Nat.le_of_ble_eq_true rfl), (Nat.le_of_ble_eq_true rfl)⟩ (fun H locs hM => ?_)
          refine lv_iload_n hx hb dX4_part_86 rfl (lv_at hl 2 rfl) ?_
          refine lv_iadd hx hb dX4_part_87 ?_
          refine lv_iload hx hb dX4_part_88 (lv_at hl 3 rfl) ?_
          refine lv_iload_n hx hb dX4_part_90 rfl (lv_at hl 2 rfl) ?_
          refine lv_isub hx hb dX4_part_91 ?_
          have g := gbind h
          clear h
          obtain ⟨S32, e31, h⟩ := g
          refine g_callI (As := [va_rf v24, .int (v30 + x3), .int (x4 - x3)]) (rest := [va_rf (some hs)]) hF hM (c_X2_init e31) k_X2_init u554 u555 rfl rfl hl.1 rfl (Nat.le_of_ble_eq_true rfl) dX4_part_92 ⟨(Nat.le_of_ble_eq_true rfl), (Nat.le_of_ble_eq_true rfl)⟩ ⟨(Nat.le_of_ble_eq_true rfl), (Nat.le_of_ble_eq_true rfl)⟩ (fun H locs hM => ?_)
          refine g_astore (i := 6) (lv' := [(0, va_rf (some a0)), (1, .int x1), (3, .int x3), (4, .int x4), (5, va_rf x5)]) hx hb dX4_part_95 hl (by decide) (fun v => by simp [rf_cat, ic_cat, lc_cat]) (fun ls hl => ?_)
          refine g_aload_n hx hb dX4_part_97 rfl (lv_at hl 1 rfl) ?_
          have g := gbind h
          clear h
          obtain ⟨v33, e34, h⟩ := g
          refine g_getR hF hM fdX4 e34 (by decide) rfl u175 dX4_part_98 ?_
          refine lv_iload_n hx hb dX4_part_101 rfl (lv_at hl 2 rfl) ?_
          have g := gbind h
          clear h
          obtain ⟨S35, e36, h⟩ := g
          refine g_new hF hM fdX1 u93 u95 u64 (Nat.le_of_ble_eq_true rfl) (Nat.le_of_ble_eq_true rfl) dX4_part_102 (fun H hM => ?_)
          have hM := hM.eq (Option.some.inj e36)
          refine lv_dup hx hb dX4_part_105 (rf_cat _) ?_
          refine lv_bipush (v := 112) hx hb dX4_part_106 (by decide) ?_
          refine lv_iconst (v := 1) hx hb dX4_part_108 (by decide) ?_
          refine g_aload hx hb dX4_part_109 (lv_at hl 5 rfl) ?_
          have g := gbind h
          clear h
          obtain ⟨v37, e38, h⟩ := g
          refine g_getR hF hM fdX1 e38 (by decide) rfl u135 dX4_part_111 ?_
          refine g_aload hx hb dX4_part_114 (lv_at hl 0 rfl) ?_
          have g := gbind h
          clear h
          obtain ⟨S40, e39, h⟩ := g
          refine g_callI (As := [.int 112, .int 1, va_rf v37, va_rf (some hs)]) (rest := [va_rf (some (hs + 1)), .int x1, va_rf v33]) hF hM (c_X1_init e39) k_X1_init u126 u127 rfl rfl hl.1 rfl (by simp [rf_cat, ic_cat, lc_cat]) dX4_part_116 ⟨(Nat.le_of_ble_eq_true rfl), (Nat.le_of_ble_eq_true rfl)⟩ ⟨(Nat.le_of_ble_eq_true rfl), (Nat.le_of_ble_eq_true rfl)⟩ (fun H locs hM => ?_)
          have g := gckE h
          clear h
          obtain ⟨q43, h⟩ := g
          have g := gbind h
          clear h
          obtain ⟨S41, e42, h⟩ := g
          refine g_aast hF hM e42 (gpn_of q43) dX4_part_119 (fun H locs hM => ?_)
          refine lv_iload hx hb dX4_part_120 (lv_at hl 4 rfl) ?_
          refine lv_iload_n hx hb dX4_part_122 rfl (lv_at hl 3 rfl) ?_
          refine lv_isub hx hb dX4_part_123 ?_
          obtain ⟨q1, q2⟩ := Prod.mk.inj (Sum.inl.inj (Option.some.inj h))
          obtain ⟨q2, q3⟩ := Prod.mk.inj q2
          rw [← q1, ← q2, ← q3]
          exact g_iret hF hM rfl rfl dX4_part_124 (Nat.le_of_ble_eq_true rfl) (Nat.le_of_ble_eq_true rfl)
        · replace h := (if_neg c21).symm.trans h
          exact nomatch (Option.some.inj h)
  unfold f_X4_part at h
  refine lv_iload_n hx hb dX4_part_0 rfl (lv_at hl 1 rfl) ?_
  have g := gthE h
  clear h
  rcases g with ⟨w2, e1, h⟩ | ⟨y3, e1, z4⟩
  · refine g_callS (As := [.int x1]) (rest := []) hF hM (c_X4_needPaneSlot e1) k_X4_needPaneSlot u493 u494 rfl hl.1 rfl (Nat.le_of_ble_eq_true rfl) dX4_part_1 ⟨(Nat.le_of_ble_eq_true rfl), (Nat.le_of_ble_eq_true rfl)⟩ ⟨(Nat.le_of_ble_eq_true rfl), (Nat.le_of_ble_eq_true rfl)⟩ (fun H locs hM => ?_)
    refine g_aload_n hx hb dX4_part_4 rfl (lv_at hl 0 rfl) ?_
    refine lv_iload_n hx hb dX4_part_5 rfl (lv_at hl 2 rfl) ?_
    have g := gckE h
    clear h
    obtain ⟨t5, h⟩ := g
    have t5 := eq_of_beq t5
    have g := gthE h
    clear h
    rcases g with ⟨v7, e6, h⟩ | ⟨y8, e6, z9⟩
    · refine g_callV (As := [.int x2]) (rest := []) hF hM (c_X4_held e6) k_X4_held u517 u519 u13 rfl rfl t5 rfl hl.1 rfl (Nat.le_of_ble_eq_true rfl) dX4_part_6 ⟨(Nat.le_of_ble_eq_true rfl), (Nat.le_of_ble_eq_true rfl)⟩ ⟨(Nat.le_of_ble_eq_true rfl), (Nat.le_of_ble_eq_true rfl)⟩ (fun H locs hM => ?_)
      refine g_astore (i := 5) (lv' := [(0, va_rf (some a0)), (1, .int x1), (2, .int x2), (3, .int x3), (4, .int x4)]) hx hb dX4_part_9 hl (by decide) (fun v => rfl) (fun ls hl => ?_)
      refine g_aload hx hb dX4_part_11 (lv_at hl 0 rfl) ?_
      refine g_ifnull (tgt := 36) hx hb dX4_part_13 (by decide) (fun c10 => ?_) (fun c10 => ?_)
      · replace h := (if_pos c10).symm.trans h
        exact nomatch (Option.some.inj h)
      · replace h := (if_neg c10).symm.trans h
        refine g_aload hx hb dX4_part_16 (lv_at hl 0 rfl) ?_
        have g := gbind h
        clear h
        obtain ⟨v11, e12, h⟩ := g
        refine g_getI hF hM fdX1 e12 (by decide) rfl u131 dX4_part_18 ?_
        refine lv_bipush (v := 108) hx hb dX4_part_21 (by decide) ?_
        refine lv_icmp_eq (tgt := 44) hx hb dX4_part_23 (by decide) (fun c13 => ?_) (fun c13 => ?_)
        · replace h := (if_pos c13).symm.trans h
          refine W.widen (k := 0) (n := 0) (Nat.le_of_ble_eq_true rfl) (Nat.le_of_ble_eq_true rfl) ?_
          exact Jb44 _ _ _ _ h _ _ _ hM (lv_sub hl [1, 2, 4, 5, 0] rfl)
        · replace h := (if_neg c13).symm.trans h
          refine g_aload hx hb dX4_part_26 (lv_at hl 0 rfl) ?_
          have g := gbind h
          clear h
          obtain ⟨v44, e45, h⟩ := g
          refine g_getI hF hM fdX1 e45 (by decide) rfl u131 dX4_part_28 ?_
          refine lv_bipush (v := 112) hx hb dX4_part_31 (by decide) ?_
          refine lv_icmp_eq (tgt := 44) hx hb dX4_part_33 (by decide) (fun c46 => ?_) (fun c46 => ?_)
          · replace h := (if_pos c46).symm.trans h
            refine W.widen (k := 0) (n := 0) (Nat.le_of_ble_eq_true rfl) (Nat.le_of_ble_eq_true rfl) ?_
            exact Jb44 _ _ _ _ h _ _ _ hM (lv_sub hl [1, 2, 4, 5, 0] rfl)
          · replace h := (if_neg c46).symm.trans h
            exact nomatch (Option.some.inj h)
    · exact nomatch z9
  · exact nomatch z4
abbrev rmx_X4_part : Room := { frames := 7, cells := 2, slots := 11, locals := 110 }
set_option maxHeartbeats 4000000 in
set_option maxRecDepth 100000 in
theorem cx_X4_part {l : Launch} {D : va_G} {Y : Nat → ClassId} {S : GS} {hs : Nat} {a0 : Nat} {x1 : Int32} {x2 : Int32} {x3 : Int32} {x4 : Int32} {x : Nat} (hfl : l.stackTraces = false) (h : f_X4_part S hs a0 x1 x2 x3 x4 = some (.inr x)) : gMx l yX4_part (gWs yX4_part cX4_part 7 (some .int)) rmx_X4_part [va_rf (some a0), .int x1, .int x2, .int x3, .int x4] D Y S hs (.inr x) := by
  refine g_ofWx (by decide +kernel) (Or.inl ⟨(Nat.le_of_ble_eq_true rfl), (List.forall_mem_cons.mpr ⟨rf_cat _, (List.forall_mem_cons.mpr ⟨rfl, (List.forall_mem_cons.mpr ⟨rfl, (List.forall_mem_cons.mpr ⟨rfl, (List.forall_mem_cons.mpr ⟨rfl, (fun _ h => absurd h List.not_mem_nil)⟩)⟩)⟩)⟩)⟩)⟩) ?_
  intro p e s m args below meth c ls hsz hout hF hM hl
  have hl : lv_has ls 7 [(0, va_rf (some a0)), (1, .int x1), (2, .int x2), (3, .int x3), (4, .int x4)] := by rw [g_args [va_rf (some a0), .int x1, .int x2, .int x3, .int x4] 0 (List.forall_mem_cons.mpr ⟨rf_cat _, (List.forall_mem_cons.mpr ⟨rfl, (List.forall_mem_cons.mpr ⟨rfl, (List.forall_mem_cons.mpr ⟨rfl, (List.forall_mem_cons.mpr ⟨rfl, (fun _ h => absurd h List.not_mem_nil)⟩)⟩)⟩)⟩)⟩)] at hl; exact hl
  have hF : gF p s m args meth c RX4 cX4_part 7 (some .int) D Y (gA S hs) := hF
  have hx := hF.1
  have hb := hF.2.1
  have Jb44 : ∀ (x1 : Int32) (x3 : Int32) (x4 : Int32) (x5 : Option Nat), f_X4_part_b44 S hs a0 x1 x3 x4 x5 = some (.inr x) → ∀ (H : Heap) (locs : List Loc) (ls : Array Slot), gM D Y (gA S hs) s.heap S hs H locs → lv_has ls 7 [(0, va_rf (some a0)), (1, .int x1), (3, .int x3), (4, .int x4), (5, va_rf x5)] → W p l e rmx_X4_part s m args below meth c H locs 0 0 (vx_MQ below (gQz (.inr x) D Y (gA S hs)) (gXz (.inr x) D Y S (gA S hs)) args s rmx_X4_part.cells rmx_X4_part.slots (gA S hs)) (F0 m 44 ls []) := by
    intro x1 x3 x4 x5 h H locs ls hM hl
    unfold f_X4_part_b44 at h
    refine lv_iload_n hx hb dX4_part_44 rfl (lv_at hl 2 rfl) ?_
    refine lv_if_lt (tgt := 64) hx hb dX4_part_45 (by decide) (fun c14 => ?_) (fun c14 => ?_)
    · replace h := (if_pos c14).symm.trans h
      exact g_throw hF hM hfl hout ew_X4_57_59 (congrArg Sum.inr (Sum.inr.inj (Option.some.inj h)).symm) hl.1 dX4_part_64 dX4_part_67 dX4_part_68 dX4_part_71 (Nat.le_of_ble_eq_true rfl) (Nat.le_of_ble_eq_true rfl) (Nat.le_of_ble_eq_true rfl) (Nat.le_of_ble_eq_true rfl) (Nat.le_of_ble_eq_true rfl) (Nat.le_of_ble_eq_true rfl)
    · replace h := (if_neg c14).symm.trans h
      refine lv_iload_n hx hb dX4_part_48 rfl (lv_at hl 2 rfl) ?_
      refine lv_iload hx hb dX4_part_49 (lv_at hl 3 rfl) ?_
      refine lv_icmp_gt (tgt := 64) hx hb dX4_part_51 (by decide) (fun c15 => ?_) (fun c15 => ?_)
      · replace h := (if_pos c15).symm.trans h
        exact g_throw hF hM hfl hout ew_X4_57_59 (congrArg Sum.inr (Sum.inr.inj (Option.some.inj h)).symm) hl.1 dX4_part_64 dX4_part_67 dX4_part_68 dX4_part_71 (Nat.le_of_ble_eq_true rfl) (Nat.le_of_ble_eq_true rfl) (Nat.le_of_ble_eq_true rfl) (Nat.le_of_ble_eq_true rfl) (Nat.le_of_ble_eq_true rfl) (Nat.le_of_ble_eq_true rfl)
      · replace h := (if_neg c15).symm.trans h
        refine lv_iload hx hb dX4_part_54 (lv_at hl 3 rfl) ?_
        refine g_aload hx hb dX4_part_56 (lv_at hl 4 rfl) ?_
        have g := gbind h
        clear h
        obtain ⟨a16, e17, h⟩ := g
        have t18 := (gtk_of e17).2
        rw [(gtk_of e17).1]
        have g := gbind h
        clear h
        obtain ⟨v20, e19, h⟩ := g
        refine g_callV (As := []) (rest := [.int x4]) hF hM (c_X1_count e19) k_X1_count u195 u196 u197 rfl rfl t18 rfl hl.1 rfl (Nat.le_of_ble_eq_true rfl) dX4_part_58 ⟨(Nat.le_of_ble_eq_true rfl), (Nat.le_of_ble_eq_true rfl)⟩ ⟨(Nat.le_of_ble_eq_true rfl), (Nat.le_of_ble_eq_true rfl)⟩ (fun H locs hM => ?_)
        refine lv_icmp_le (tgt := 72) hx hb dX4_part_61 (by decide) (fun c21 => ?_) (fun c21 => ?_)
        · replace h := (if_pos c21).symm.trans h
          have g := gbind h
          clear h
          obtain ⟨S22, e23, h⟩ := g
          refine g_new hF hM fdX2 u551 u552 u76 (Nat.le_of_ble_eq_true rfl) (Nat.le_of_ble_eq_true rfl) dX4_part_72 (fun H hM => ?_)
          have hM := hM.eq (Option.some.inj e23)
          refine lv_dup hx hb dX4_part_75 (rf_cat _) ?_
          refine g_aload hx hb dX4_part_76 (lv_at hl 4 rfl) ?_
          have g := gbind h
          clear h
          obtain ⟨v24, e25, h⟩ := g
          refine g_getR hF hM fdX1 e25 (by decide) rfl u138 dX4_part_78 ?_
          refine g_aload hx hb dX4_part_81 (lv_at hl 4 rfl) ?_
          have g := gbind h
          clear h
          obtain ⟨a26, e27, h⟩ := g
          have t28 := (gtk_of e27).2
          rw [(gtk_of e27).1]
          have g := gbind h
          clear h
          obtain ⟨v30, e29, h⟩ := g
          refine g_callV (As := []) (rest := [va_rf v24, va_rf (some hs), va_rf (some hs)]) hF hM (c_X1_first e29) k_X1_first u553 u214 u215 rfl rfl t28 rfl hl.1 rfl (by simp [rf_cat, ic_cat, lc_cat]) dX4_part_83 ⟨(Nat.le_of_ble_eq_true rfl), (Nat.le_of_ble_eq_true rfl)⟩ ⟨(Nat.le_of_ble_eq_true rfl), (Nat.le_of_ble_eq_true rfl)⟩ (fun H locs hM => ?_)
          refine lv_iload_n hx hb dX4_part_86 rfl (lv_at hl 2 rfl) ?_
          refine lv_iadd hx hb dX4_part_87 ?_
          refine lv_iload hx hb dX4_part_88 (lv_at hl 3 rfl) ?_
          refine lv_iload_n hx hb dX4_part_90 rfl (lv_at hl 2 rfl) ?_
          refine lv_isub hx hb dX4_part_91 ?_
          have g := gbind h
          clear h
          obtain ⟨S32, e31, h⟩ := g
          refine g_callI (As := [va_rf v24, .int (v30 + x3), .int (x4 - x3)]) (rest := [va_rf (some hs)]) hF hM (c_X2_init e31) k_X2_init u554 u555 rfl rfl hl.1 rfl (Nat.le_of_ble_eq_true rfl) dX4_part_92 ⟨(Nat.le_of_ble_eq_true rfl), (Nat.le_of_ble_eq_true rfl)⟩ ⟨(Nat.le_of_ble_eq_true rfl), (Nat.le_of_ble_eq_true rfl)⟩ (fun H locs hM => ?_)
          refine g_astore (i := 6) (lv' := [(0, va_rf (some a0)), (1, .int x1), (3, .int x3), (4, .int x4), (5, va_rf x5)]) hx hb dX4_part_95 hl (by decide) (fun v => by simp [rf_cat, ic_cat, lc_cat]) (fun ls hl => ?_)
          refine g_aload_n hx hb dX4_part_97 rfl (lv_at hl 1 rfl) ?_
          have g := gbind h
          clear h
          obtain ⟨v33, e34, h⟩ := g
          refine g_getR hF hM fdX4 e34 (by decide) rfl u175 dX4_part_98 ?_
          refine lv_iload_n hx hb dX4_part_101 rfl (lv_at hl 2 rfl) ?_
          have g := gbind h
          clear h
          obtain ⟨S35, e36, h⟩ := g
          refine g_new hF hM fdX1 u93 u95 u64 (Nat.le_of_ble_eq_true rfl) (Nat.le_of_ble_eq_true rfl) dX4_part_102 (fun H hM => ?_)
          have hM := hM.eq (Option.some.inj e36)
          refine lv_dup hx hb dX4_part_105 (rf_cat _) ?_
          refine lv_bipush (v := 112) hx hb dX4_part_106 (by decide) ?_
          refine lv_iconst (v := 1) hx hb dX4_part_108 (by decide) ?_
          refine g_aload hx hb dX4_part_109 (lv_at hl 5 rfl) ?_
          have g := gbind h
          clear h
          obtain ⟨v37, e38, h⟩ := g
          refine g_getR hF hM fdX1 e38 (by decide) rfl u135 dX4_part_111 ?_
          refine g_aload hx hb dX4_part_114 (lv_at hl 0 rfl) ?_
          have g := gbind h
          clear h
          obtain ⟨S40, e39, h⟩ := g
          refine g_callI (As := [.int 112, .int 1, va_rf v37, va_rf (some hs)]) (rest := [va_rf (some (hs + 1)), .int x1, va_rf v33]) hF hM (c_X1_init e39) k_X1_init u126 u127 rfl rfl hl.1 rfl (by simp [rf_cat, ic_cat, lc_cat]) dX4_part_116 ⟨(Nat.le_of_ble_eq_true rfl), (Nat.le_of_ble_eq_true rfl)⟩ ⟨(Nat.le_of_ble_eq_true rfl), (Nat.le_of_ble_eq_true rfl)⟩ (fun H locs hM => ?_)
          have g := gckE h
          clear h
          obtain ⟨q43, h⟩ := g
          have g := gbind h
          clear h
          obtain ⟨S41, e42, h⟩ := g
          refine g_aast hF hM e42 (gpn_of q43) dX4_part_119 (fun H locs hM => ?_)
          refine lv_iload hx hb dX4_part_120 (lv_at hl 4 rfl) ?_
          refine lv_iload_n hx hb dX4_part_122 rfl (lv_at hl 3 rfl) ?_
          refine lv_isub hx hb dX4_part_123 ?_
          exact nomatch (Option.some.inj h)
        · replace h := (if_neg c21).symm.trans h
          exact g_throw hF hM hfl hout ew_X4_57_59 (congrArg Sum.inr (Sum.inr.inj (Option.some.inj h)).symm) hl.1 dX4_part_64 dX4_part_67 dX4_part_68 dX4_part_71 (Nat.le_of_ble_eq_true rfl) (Nat.le_of_ble_eq_true rfl) (Nat.le_of_ble_eq_true rfl) (Nat.le_of_ble_eq_true rfl) (Nat.le_of_ble_eq_true rfl) (Nat.le_of_ble_eq_true rfl)
  unfold f_X4_part at h
  refine lv_iload_n hx hb dX4_part_0 rfl (lv_at hl 1 rfl) ?_
  have g := gthE h
  clear h
  rcases g with ⟨w2, e1, h⟩ | ⟨y3, e1, z4⟩
  · refine g_callS (As := [.int x1]) (rest := []) hF hM (c_X4_needPaneSlot e1) k_X4_needPaneSlot u493 u494 rfl hl.1 rfl (Nat.le_of_ble_eq_true rfl) dX4_part_1 ⟨(Nat.le_of_ble_eq_true rfl), (Nat.le_of_ble_eq_true rfl)⟩ ⟨(Nat.le_of_ble_eq_true rfl), (Nat.le_of_ble_eq_true rfl)⟩ (fun H locs hM => ?_)
    refine g_aload_n hx hb dX4_part_4 rfl (lv_at hl 0 rfl) ?_
    refine lv_iload_n hx hb dX4_part_5 rfl (lv_at hl 2 rfl) ?_
    have g := gckE h
    clear h
    obtain ⟨t5, h⟩ := g
    have t5 := eq_of_beq t5
    have g := gthE h
    clear h
    rcases g with ⟨v7, e6, h⟩ | ⟨y8, e6, z9⟩
    · refine g_callV (As := [.int x2]) (rest := []) hF hM (c_X4_held e6) k_X4_held u517 u519 u13 rfl rfl t5 rfl hl.1 rfl (Nat.le_of_ble_eq_true rfl) dX4_part_6 ⟨(Nat.le_of_ble_eq_true rfl), (Nat.le_of_ble_eq_true rfl)⟩ ⟨(Nat.le_of_ble_eq_true rfl), (Nat.le_of_ble_eq_true rfl)⟩ (fun H locs hM => ?_)
      refine g_astore (i := 5) (lv' := [(0, va_rf (some a0)), (1, .int x1), (2, .int x2), (3, .int x3), (4, .int x4)]) hx hb dX4_part_9 hl (by decide) (fun v => rfl) (fun ls hl => ?_)
      refine g_aload hx hb dX4_part_11 (lv_at hl 0 rfl) ?_
      refine g_ifnull (tgt := 36) hx hb dX4_part_13 (by decide) (fun c10 => ?_) (fun c10 => ?_)
      · replace h := (if_pos c10).symm.trans h
        exact g_throw hF hM hfl hout ew_X4_50_52 (congrArg Sum.inr (Sum.inr.inj (Option.some.inj h)).symm) hl.1 dX4_part_36 dX4_part_39 dX4_part_40 dX4_part_43 (Nat.le_of_ble_eq_true rfl) (Nat.le_of_ble_eq_true rfl) (Nat.le_of_ble_eq_true rfl) (Nat.le_of_ble_eq_true rfl) (Nat.le_of_ble_eq_true rfl) (Nat.le_of_ble_eq_true rfl)
      · replace h := (if_neg c10).symm.trans h
        refine g_aload hx hb dX4_part_16 (lv_at hl 0 rfl) ?_
        have g := gbind h
        clear h
        obtain ⟨v11, e12, h⟩ := g
        refine g_getI hF hM fdX1 e12 (by decide) rfl u131 dX4_part_18 ?_
        refine lv_bipush (v := 108) hx hb dX4_part_21 (by decide) ?_
        refine lv_icmp_eq (tgt := 44) hx hb dX4_part_23 (by decide) (fun c13 => ?_) (fun c13 => ?_)
        · replace h := (if_pos c13).symm.trans h
          refine W.widen (k := 0) (n := 0) (Nat.le_of_ble_eq_true rfl) (Nat.le_of_ble_eq_true rfl) ?_
          exact Jb44 _ _ _ _ h _ _ _ hM (lv_sub hl [1, 2, 4, 5, 0] rfl)
        · replace h := (if_neg c13).symm.trans h
          refine g_aload hx hb dX4_part_26 (lv_at hl 0 rfl) ?_
          have g := gbind h
          clear h
          obtain ⟨v44, e45, h⟩ := g
          refine g_getI hF hM fdX1 e45 (by decide) rfl u131 dX4_part_28 ?_
          refine lv_bipush (v := 112) hx hb dX4_part_31 (by decide) ?_
          refine lv_icmp_eq (tgt := 44) hx hb dX4_part_33 (by decide) (fun c46 => ?_) (fun c46 => ?_)
          · replace h := (if_pos c46).symm.trans h
            refine W.widen (k := 0) (n := 0) (Nat.le_of_ble_eq_true rfl) (Nat.le_of_ble_eq_true rfl) ?_
            exact Jb44 _ _ _ _ h _ _ _ hM (lv_sub hl [1, 2, 4, 5, 0] rfl)
          · replace h := (if_neg c46).symm.trans h
            exact g_throw hF hM hfl hout ew_X4_50_52 (congrArg Sum.inr (Sum.inr.inj (Option.some.inj h)).symm) hl.1 dX4_part_36 dX4_part_39 dX4_part_40 dX4_part_43 (Nat.le_of_ble_eq_true rfl) (Nat.le_of_ble_eq_true rfl) (Nat.le_of_ble_eq_true rfl) (Nat.le_of_ble_eq_true rfl) (Nat.le_of_ble_eq_true rfl) (Nat.le_of_ble_eq_true rfl)
    · exact g_callVt (As := [.int x2]) (rest := []) hF hM hout (cx_X4_held hfl e6) k_X4_held u517 u519 u13 rfl rfl t5 rfl hl.1 rfl (Nat.le_of_ble_eq_true rfl) dX4_part_6 ⟨(Nat.le_of_ble_eq_true rfl), (Nat.le_of_ble_eq_true rfl)⟩ ⟨(Nat.le_of_ble_eq_true rfl), (Nat.le_of_ble_eq_true rfl)⟩ (Nat.le_of_ble_eq_true rfl) (Nat.le_of_ble_eq_true rfl) (congrArg Sum.inr (Sum.inr.inj z9))
  · exact g_callSt (As := [.int x1]) (rest := []) hF hM hout (cx_X4_needPaneSlot hfl e1) k_X4_needPaneSlot u493 u494 rfl hl.1 rfl (Nat.le_of_ble_eq_true rfl) dX4_part_1 ⟨(Nat.le_of_ble_eq_true rfl), (Nat.le_of_ble_eq_true rfl)⟩ ⟨(Nat.le_of_ble_eq_true rfl), (Nat.le_of_ble_eq_true rfl)⟩ (Nat.le_of_ble_eq_true rfl) (Nat.le_of_ble_eq_true rfl) (congrArg Sum.inr (Sum.inr.inj z4))
abbrev rm_X4_fixed : Room := { frames := 2, cells := 1, slots := 7, locals := 44 }
theorem k_X4_fixed : gKc yX4_fixed cX4_fixed 4 (some .int) 2 := ⟨u582, u63, by decide +kernel, by decide +kernel, by decide +kernel⟩
set_option maxHeartbeats 4000000 in
set_option maxRecDepth 100000 in
theorem c_X4_fixed {l : Launch} {D : va_G} {Y : Nat → ClassId} {S : GS} {hs : Nat} {a0 : Nat} {x1 : Int32} {x2 : Int32} {r : Int32} {S' : GS} {hs' : Nat} (h : f_X4_fixed S hs a0 x1 x2 = some (.inl (r, S', hs'))) : gMet l yX4_fixed (gWs yX4_fixed cX4_fixed 4 (some .int)) rm_X4_fixed [va_rf (some a0), .int x1, .int x2] D Y S hs (some (.int r)) S' hs' := by
  refine g_ofW (by decide +kernel) (Or.inl ⟨(Nat.le_of_ble_eq_true rfl), (List.forall_mem_cons.mpr ⟨rf_cat _, (List.forall_mem_cons.mpr ⟨rfl, (List.forall_mem_cons.mpr ⟨rfl, (fun _ h => absurd h List.not_mem_nil)⟩)⟩)⟩)⟩) ?_
  intro p e s m args below meth c ls hsz hname hF hM hl
  have hl : lv_has ls 4 [(0, va_rf (some a0)), (1, .int x1), (2, .int x2)] := by rw [g_args [va_rf (some a0), .int x1, .int x2] 0 (List.forall_mem_cons.mpr ⟨rf_cat _, (List.forall_mem_cons.mpr ⟨rfl, (List.forall_mem_cons.mpr ⟨rfl, (fun _ h => absurd h List.not_mem_nil)⟩)⟩)⟩)] at hl; exact hl
  have hF : gF p s m args meth c RX4 cX4_fixed 4 (some .int) D Y (gA S hs) := hF
  have hx := hF.1
  have hb := hF.2.1
  have Jb74 : ∀ (T74 : GS) (m74 : Nat) (x3 : Option Nat) (s0 : Option Nat) (s1 : Int32) (s2 : Option Nat) (s3 : Option Nat) (s4 : Int32), f_X4_fixed_b74 a0 T74 m74 x3 s0 s1 s2 s3 s4 = some (.inl (r, S', hs')) → ∀ (H : Heap) (locs : List Loc) (ls : Array Slot), gM D Y (gA S hs) s.heap T74 m74 H locs → lv_has ls 4 [(3, va_rf x3)] → W p l e rm_X4_fixed s m args below meth c H locs 1 7 (MQ below (gQ (some (.int r)) D Y S' hs' (gA S hs)) args s rm_X4_fixed.cells rm_X4_fixed.slots (gA S hs)) (F0 m 74 ls [.int s4, va_rf s3, va_rf s2, .int s1, va_rf s0]) := by
    intro T74 m74 x3 s0 s1 s2 s3 s4 h H locs ls hM hl
    unfold f_X4_fixed_b74 at h
    refine lv_iconst (v := 0) hx hb dX4_fixed_74 (by decide) ?_
    refine g_aload_n hx hb dX4_fixed_75 rfl (lv_at hl 0 rfl) ?_
    have g := gbind h
    clear h
    obtain ⟨v21, e22, h⟩ := g
    refine g_getR hF hM fdX1 e22 (by decide) rfl u135 dX4_fixed_76 ?_
    refine g_aload_n hx hb dX4_fixed_79 rfl (lv_at hl 0 rfl) ?_
    have g := gbind h
    clear h
    obtain ⟨v23, e24, h⟩ := g
    refine g_getR hF hM fdX1 e24 (by decide) rfl u138 dX4_fixed_80 ?_
    have g := gbind h
    clear h
    obtain ⟨a25, e26, h⟩ := g
    rw [e26]
    have g := gbind h
    clear h
    obtain ⟨S28, e27, h⟩ := g
    refine g_callI (As := [.int s4, .int 0, va_rf v21, va_rf v23]) (rest := [va_rf s2, .int s1, va_rf s0]) hF hM (c_X1_init e27) k_X1_init u126 u127 rfl rfl hl.1 rfl (by simp [rf_cat, ic_cat, lc_cat]) dX4_fixed_83 ⟨(Nat.le_of_ble_eq_true rfl), (Nat.le_of_ble_eq_true rfl)⟩ ⟨(Nat.le_of_ble_eq_true rfl), (Nat.le_of_ble_eq_true rfl)⟩ (fun H locs hM => ?_)
    have g := gckE h
    clear h
    obtain ⟨q31, h⟩ := g
    have g := gbind h
    clear h
    obtain ⟨S29, e30, h⟩ := g
    refine g_aast hF hM e30 (gpn_of q31) dX4_fixed_86 (fun H locs hM => ?_)
    refine g_aload_n hx hb dX4_fixed_87 rfl (lv_at hl 0 rfl) ?_
    have g := gbind h
    clear h
    obtain ⟨a32, e33, h⟩ := g
    have t34 := (gtk_of e33).2
    rw [(gtk_of e33).1]
    have g := gbind h
    clear h
    obtain ⟨v36, e35, h⟩ := g
    refine g_callV (As := []) (rest := []) hF hM (c_X1_count e35) k_X1_count u195 u196 u197 rfl rfl t34 rfl hl.1 rfl (Nat.le_of_ble_eq_true rfl) dX4_fixed_88 ⟨(Nat.le_of_ble_eq_true rfl), (Nat.le_of_ble_eq_true rfl)⟩ ⟨(Nat.le_of_ble_eq_true rfl), (Nat.le_of_ble_eq_true rfl)⟩ (fun H locs hM => ?_)
    obtain ⟨q1, q2⟩ := Prod.mk.inj (Sum.inl.inj (Option.some.inj h))
    obtain ⟨q2, q3⟩ := Prod.mk.inj q2
    rw [← q1, ← q2, ← q3]
    exact g_iret hF hM rfl rfl dX4_fixed_91 (Nat.le_of_ble_eq_true rfl) (Nat.le_of_ble_eq_true rfl)
  have Jb49 : ∀ (x1 : Int32) (x3 : Option Nat), f_X4_fixed_b49 S hs a0 x1 x3 = some (.inl (r, S', hs')) → ∀ (H : Heap) (locs : List Loc) (ls : Array Slot), gM D Y (gA S hs) s.heap S hs H locs → lv_has ls 4 [(0, va_rf (some a0)), (1, .int x1), (3, va_rf x3)] → W p l e rm_X4_fixed s m args below meth c H locs 0 0 (MQ below (gQ (some (.int r)) D Y S' hs' (gA S hs)) args s rm_X4_fixed.cells rm_X4_fixed.slots (gA S hs)) (F0 m 49 ls []) := by
    intro x1 x3 h H locs ls hM hl
    unfold f_X4_fixed_b49 at h
    refine g_aload_n hx hb dX4_fixed_49 rfl (lv_at hl 0 rfl) ?_
    have g := gbind h
    clear h
    obtain ⟨v14, e15, h⟩ := g
    refine g_getR hF hM fdX4 e15 (by decide) rfl u175 dX4_fixed_50 ?_
    refine lv_iload_n hx hb dX4_fixed_53 rfl (lv_at hl 1 rfl) ?_
    have g := gbind h
    clear h
    obtain ⟨S16, e17, h⟩ := g
    refine g_new hF hM fdX1 u93 u95 u64 (Nat.le_of_ble_eq_true rfl) (Nat.le_of_ble_eq_true rfl) dX4_fixed_54 (fun H hM => ?_)
    have hM := hM.eq (Option.some.inj e17)
    refine lv_dup hx hb dX4_fixed_57 (rf_cat _) ?_
    refine g_aload_n hx hb dX4_fixed_58 rfl (lv_at hl 2 rfl) ?_
    have g := gbind h
    clear h
    obtain ⟨v18, e19, h⟩ := g
    refine g_getI hF hM fdX1 e19 (by decide) rfl u131 dX4_fixed_59 ?_
    refine lv_bipush (v := 109) hx hb dX4_fixed_62 (by decide) ?_
    refine lv_icmp_ne (tgt := 72) hx hb dX4_fixed_64 (by decide) (fun c20 => ?_) (fun c20 => ?_)
    · replace h := (if_neg c20).symm.trans h
      refine lv_bipush (v := 102) hx hb dX4_fixed_72 (by decide) ?_
      refine W.widen (k := 1) (n := 7) (Nat.le_of_ble_eq_true rfl) (Nat.le_of_ble_eq_true rfl) ?_
      exact Jb74 _ _ _ _ _ _ _ _ h _ _ _ hM (lv_sub hl [2] rfl)
    · replace h := (if_pos c20).symm.trans h
      refine lv_bipush (v := 70) hx hb dX4_fixed_67 (by decide) ?_
      refine lv_goto (tgt := 74) hx hb dX4_fixed_69 (by decide) ?_
      refine W.widen (k := 1) (n := 7) (Nat.le_of_ble_eq_true rfl) (Nat.le_of_ble_eq_true rfl) ?_
      exact Jb74 _ _ _ _ _ _ _ _ h _ _ _ hM (lv_sub hl [2] rfl)
  unfold f_X4_fixed at h
  refine lv_iload_n hx hb dX4_fixed_0 rfl (lv_at hl 1 rfl) ?_
  have g := gthE h
  clear h
  rcases g with ⟨w2, e1, h⟩ | ⟨y3, e1, z4⟩
  · refine g_callS (As := [.int x1]) (rest := []) hF hM (c_X4_needPaneSlot e1) k_X4_needPaneSlot u493 u494 rfl hl.1 rfl (Nat.le_of_ble_eq_true rfl) dX4_fixed_1 ⟨(Nat.le_of_ble_eq_true rfl), (Nat.le_of_ble_eq_true rfl)⟩ ⟨(Nat.le_of_ble_eq_true rfl), (Nat.le_of_ble_eq_true rfl)⟩ (fun H locs hM => ?_)
    refine g_aload_n hx hb dX4_fixed_4 rfl (lv_at hl 0 rfl) ?_
    refine lv_iload_n hx hb dX4_fixed_5 rfl (lv_at hl 2 rfl) ?_
    have g := gckE h
    clear h
    obtain ⟨t5, h⟩ := g
    have t5 := eq_of_beq t5
    have g := gthE h
    clear h
    rcases g with ⟨v7, e6, h⟩ | ⟨y8, e6, z9⟩
    · refine g_callV (As := [.int x2]) (rest := []) hF hM (c_X4_held e6) k_X4_held u517 u519 u13 rfl rfl t5 rfl hl.1 rfl (Nat.le_of_ble_eq_true rfl) dX4_fixed_6 ⟨(Nat.le_of_ble_eq_true rfl), (Nat.le_of_ble_eq_true rfl)⟩ ⟨(Nat.le_of_ble_eq_true rfl), (Nat.le_of_ble_eq_true rfl)⟩ (fun H locs hM => ?_)
      refine g_astore_n (i := 3) (lv' := [(0, va_rf (some a0)), (1, .int x1), (2, .int x2)]) hx hb dX4_fixed_9 rfl hl (by decide) (fun v => rfl) (fun ls hl => ?_)
      refine g_aload_n hx hb dX4_fixed_10 rfl (lv_at hl 0 rfl) ?_
      refine g_ifnull (tgt := 41) hx hb dX4_fixed_11 (by decide) (fun c10 => ?_) (fun c10 => ?_)
      · replace h := (if_pos c10).symm.trans h
        exact nomatch (Option.some.inj h)
      · replace h := (if_neg c10).symm.trans h
        refine g_aload_n hx hb dX4_fixed_14 rfl (lv_at hl 0 rfl) ?_
        have g := gbind h
        clear h
        obtain ⟨v11, e12, h⟩ := g
        refine g_getI hF hM fdX1 e12 (by decide) rfl u131 dX4_fixed_15 ?_
        refine lv_bipush (v := 108) hx hb dX4_fixed_18 (by decide) ?_
        refine lv_icmp_eq (tgt := 49) hx hb dX4_fixed_20 (by decide) (fun c13 => ?_) (fun c13 => ?_)
        · replace h := (if_pos c13).symm.trans h
          refine W.widen (k := 0) (n := 0) (Nat.le_of_ble_eq_true rfl) (Nat.le_of_ble_eq_true rfl) ?_
          exact Jb49 _ _ h _ _ _ hM (lv_sub hl [1, 2, 0] rfl)
        · replace h := (if_neg c13).symm.trans h
          refine g_aload_n hx hb dX4_fixed_23 rfl (lv_at hl 0 rfl) ?_
          have g := gbind h
          clear h
          obtain ⟨v37, e38, h⟩ := g
          refine g_getI hF hM fdX1 e38 (by decide) rfl u131 dX4_fixed_24 ?_
          refine lv_bipush (v := 112) hx hb dX4_fixed_27 (by decide) ?_
          refine lv_icmp_eq (tgt := 49) hx hb dX4_fixed_29 (by decide) (fun c39 => ?_) (fun c39 => ?_)
          · replace h := (if_pos c39).symm.trans h
            refine W.widen (k := 0) (n := 0) (Nat.le_of_ble_eq_true rfl) (Nat.le_of_ble_eq_true rfl) ?_
            exact Jb49 _ _ h _ _ _ hM (lv_sub hl [1, 2, 0] rfl)
          · replace h := (if_neg c39).symm.trans h
            refine g_aload_n hx hb dX4_fixed_32 rfl (lv_at hl 0 rfl) ?_
            have g := gbind h
            clear h
            obtain ⟨v40, e41, h⟩ := g
            refine g_getI hF hM fdX1 e41 (by decide) rfl u131 dX4_fixed_33 ?_
            refine lv_bipush (v := 109) hx hb dX4_fixed_36 (by decide) ?_
            refine lv_icmp_eq (tgt := 49) hx hb dX4_fixed_38 (by decide) (fun c42 => ?_) (fun c42 => ?_)
            · replace h := (if_pos c42).symm.trans h
              refine W.widen (k := 0) (n := 0) (Nat.le_of_ble_eq_true rfl) (Nat.le_of_ble_eq_true rfl) ?_
              exact Jb49 _ _ h _ _ _ hM (lv_sub hl [1, 2, 0] rfl)
            · replace h := (if_neg c42).symm.trans h
              exact nomatch (Option.some.inj h)
    · exact nomatch z9
  · exact nomatch z4
abbrev rmx_X4_fixed : Room := { frames := 7, cells := 1, slots := 7, locals := 110 }
set_option maxHeartbeats 4000000 in
set_option maxRecDepth 100000 in
theorem cx_X4_fixed {l : Launch} {D : va_G} {Y : Nat → ClassId} {S : GS} {hs : Nat} {a0 : Nat} {x1 : Int32} {x2 : Int32} {x : Nat} (hfl : l.stackTraces = false) (h : f_X4_fixed S hs a0 x1 x2 = some (.inr x)) : gMx l yX4_fixed (gWs yX4_fixed cX4_fixed 4 (some .int)) rmx_X4_fixed [va_rf (some a0), .int x1, .int x2] D Y S hs (.inr x) := by
  refine g_ofWx (by decide +kernel) (Or.inl ⟨(Nat.le_of_ble_eq_true rfl), (List.forall_mem_cons.mpr ⟨rf_cat _, (List.forall_mem_cons.mpr ⟨rfl, (List.forall_mem_cons.mpr ⟨rfl, (fun _ h => absurd h List.not_mem_nil)⟩)⟩)⟩)⟩) ?_
  intro p e s m args below meth c ls hsz hout hF hM hl
  have hl : lv_has ls 4 [(0, va_rf (some a0)), (1, .int x1), (2, .int x2)] := by rw [g_args [va_rf (some a0), .int x1, .int x2] 0 (List.forall_mem_cons.mpr ⟨rf_cat _, (List.forall_mem_cons.mpr ⟨rfl, (List.forall_mem_cons.mpr ⟨rfl, (fun _ h => absurd h List.not_mem_nil)⟩)⟩)⟩)] at hl; exact hl
  have hF : gF p s m args meth c RX4 cX4_fixed 4 (some .int) D Y (gA S hs) := hF
  have hx := hF.1
  have hb := hF.2.1
  have Jb74 : ∀ (T74 : GS) (m74 : Nat) (x3 : Option Nat) (s0 : Option Nat) (s1 : Int32) (s2 : Option Nat) (s3 : Option Nat) (s4 : Int32), f_X4_fixed_b74 a0 T74 m74 x3 s0 s1 s2 s3 s4 = some (.inr x) → ∀ (H : Heap) (locs : List Loc) (ls : Array Slot), gM D Y (gA S hs) s.heap T74 m74 H locs → lv_has ls 4 [(3, va_rf x3)] → W p l e rmx_X4_fixed s m args below meth c H locs 1 7 (vx_MQ below (gQz (.inr x) D Y (gA S hs)) (gXz (.inr x) D Y S (gA S hs)) args s rmx_X4_fixed.cells rmx_X4_fixed.slots (gA S hs)) (F0 m 74 ls [.int s4, va_rf s3, va_rf s2, .int s1, va_rf s0]) := by
    intro T74 m74 x3 s0 s1 s2 s3 s4 h H locs ls hM hl
    unfold f_X4_fixed_b74 at h
    refine lv_iconst (v := 0) hx hb dX4_fixed_74 (by decide) ?_
    refine g_aload_n hx hb dX4_fixed_75 rfl (lv_at hl 0 rfl) ?_
    have g := gbind h
    clear h
    obtain ⟨v21, e22, h⟩ := g
    refine g_getR hF hM fdX1 e22 (by decide) rfl u135 dX4_fixed_76 ?_
    refine g_aload_n hx hb dX4_fixed_79 rfl (lv_at hl 0 rfl) ?_
    have g := gbind h
    clear h
    obtain ⟨v23, e24, h⟩ := g
    refine g_getR hF hM fdX1 e24 (by decide) rfl u138 dX4_fixed_80 ?_
    have g := gbind h
    clear h
    obtain ⟨a25, e26, h⟩ := g
    rw [e26]
    have g := gbind h
    clear h
    obtain ⟨S28, e27, h⟩ := g
    refine g_callI (As := [.int s4, .int 0, va_rf v21, va_rf v23]) (rest := [va_rf s2, .int s1, va_rf s0]) hF hM (c_X1_init e27) k_X1_init u126 u127 rfl rfl hl.1 rfl (by simp [rf_cat, ic_cat, lc_cat]) dX4_fixed_83 ⟨(Nat.le_of_ble_eq_true rfl), (Nat.le_of_ble_eq_true rfl)⟩ ⟨(Nat.le_of_ble_eq_true rfl), (Nat.le_of_ble_eq_true rfl)⟩ (fun H locs hM => ?_)
    have g := gckE h
    clear h
    obtain ⟨q31, h⟩ := g
    have g := gbind h
    clear h
    obtain ⟨S29, e30, h⟩ := g
    refine g_aast hF hM e30 (gpn_of q31) dX4_fixed_86 (fun H locs hM => ?_)
    refine g_aload_n hx hb dX4_fixed_87 rfl (lv_at hl 0 rfl) ?_
    have g := gbind h
    clear h
    obtain ⟨a32, e33, h⟩ := g
    have t34 := (gtk_of e33).2
    rw [(gtk_of e33).1]
    have g := gbind h
    clear h
    obtain ⟨v36, e35, h⟩ := g
    refine g_callV (As := []) (rest := []) hF hM (c_X1_count e35) k_X1_count u195 u196 u197 rfl rfl t34 rfl hl.1 rfl (Nat.le_of_ble_eq_true rfl) dX4_fixed_88 ⟨(Nat.le_of_ble_eq_true rfl), (Nat.le_of_ble_eq_true rfl)⟩ ⟨(Nat.le_of_ble_eq_true rfl), (Nat.le_of_ble_eq_true rfl)⟩ (fun H locs hM => ?_)
    exact nomatch (Option.some.inj h)
  have Jb49 : ∀ (x1 : Int32) (x3 : Option Nat), f_X4_fixed_b49 S hs a0 x1 x3 = some (.inr x) → ∀ (H : Heap) (locs : List Loc) (ls : Array Slot), gM D Y (gA S hs) s.heap S hs H locs → lv_has ls 4 [(0, va_rf (some a0)), (1, .int x1), (3, va_rf x3)] → W p l e rmx_X4_fixed s m args below meth c H locs 0 0 (vx_MQ below (gQz (.inr x) D Y (gA S hs)) (gXz (.inr x) D Y S (gA S hs)) args s rmx_X4_fixed.cells rmx_X4_fixed.slots (gA S hs)) (F0 m 49 ls []) := by
    intro x1 x3 h H locs ls hM hl
    unfold f_X4_fixed_b49 at h
    refine g_aload_n hx hb dX4_fixed_49 rfl (lv_at hl 0 rfl) ?_
    have g := gbind h
    clear h
    obtain ⟨v14, e15, h⟩ := g
    refine g_getR hF hM fdX4 e15 (by decide) rfl u175 dX4_fixed_50 ?_
    refine lv_iload_n hx hb dX4_fixed_53 rfl (lv_at hl 1 rfl) ?_
    have g := gbind h
    clear h
    obtain ⟨S16, e17, h⟩ := g
    refine g_new hF hM fdX1 u93 u95 u64 (Nat.le_of_ble_eq_true rfl) (Nat.le_of_ble_eq_true rfl) dX4_fixed_54 (fun H hM => ?_)
    have hM := hM.eq (Option.some.inj e17)
    refine lv_dup hx hb dX4_fixed_57 (rf_cat _) ?_
    refine g_aload_n hx hb dX4_fixed_58 rfl (lv_at hl 2 rfl) ?_
    have g := gbind h
    clear h
    obtain ⟨v18, e19, h⟩ := g
    refine g_getI hF hM fdX1 e19 (by decide) rfl u131 dX4_fixed_59 ?_
    refine lv_bipush (v := 109) hx hb dX4_fixed_62 (by decide) ?_
    refine lv_icmp_ne (tgt := 72) hx hb dX4_fixed_64 (by decide) (fun c20 => ?_) (fun c20 => ?_)
    · replace h := (if_neg c20).symm.trans h
      refine lv_bipush (v := 102) hx hb dX4_fixed_72 (by decide) ?_
      refine W.widen (k := 1) (n := 7) (Nat.le_of_ble_eq_true rfl) (Nat.le_of_ble_eq_true rfl) ?_
      exact Jb74 _ _ _ _ _ _ _ _ h _ _ _ hM (lv_sub hl [2] rfl)
    · replace h := (if_pos c20).symm.trans h
      refine lv_bipush (v := 70) hx hb dX4_fixed_67 (by decide) ?_
      refine lv_goto (tgt := 74) hx hb dX4_fixed_69 (by decide) ?_
      refine W.widen (k := 1) (n := 7) (Nat.le_of_ble_eq_true rfl) (Nat.le_of_ble_eq_true rfl) ?_
      exact Jb74 _ _ _ _ _ _ _ _ h _ _ _ hM (lv_sub hl [2] rfl)
  unfold f_X4_fixed at h
  refine lv_iload_n hx hb dX4_fixed_0 rfl (lv_at hl 1 rfl) ?_
  have g := gthE h
  clear h
  rcases g with ⟨w2, e1, h⟩ | ⟨y3, e1, z4⟩
  · refine g_callS (As := [.int x1]) (rest := []) hF hM (c_X4_needPaneSlot e1) k_X4_needPaneSlot u493 u494 rfl hl.1 rfl (Nat.le_of_ble_eq_true rfl) dX4_fixed_1 ⟨(Nat.le_of_ble_eq_true rfl), (Nat.le_of_ble_eq_true rfl)⟩ ⟨(Nat.le_of_ble_eq_true rfl), (Nat.le_of_ble_eq_true rfl)⟩ (fun H locs hM => ?_)
    refine g_aload_n hx hb dX4_fixed_4 rfl (lv_at hl 0 rfl) ?_
    refine lv_iload_n hx hb dX4_fixed_5 rfl (lv_at hl 2 rfl) ?_
    have g := gckE h
    clear h
    obtain ⟨t5, h⟩ := g
    have t5 := eq_of_beq t5
    have g := gthE h
    clear h
    rcases g with ⟨v7, e6, h⟩ | ⟨y8, e6, z9⟩
    · refine g_callV (As := [.int x2]) (rest := []) hF hM (c_X4_held e6) k_X4_held u517 u519 u13 rfl rfl t5 rfl hl.1 rfl (Nat.le_of_ble_eq_true rfl) dX4_fixed_6 ⟨(Nat.le_of_ble_eq_true rfl), (Nat.le_of_ble_eq_true rfl)⟩ ⟨(Nat.le_of_ble_eq_true rfl), (Nat.le_of_ble_eq_true rfl)⟩ (fun H locs hM => ?_)
      refine g_astore_n (i := 3) (lv' := [(0, va_rf (some a0)), (1, .int x1), (2, .int x2)]) hx hb dX4_fixed_9 rfl hl (by decide) (fun v => rfl) (fun ls hl => ?_)
      refine g_aload_n hx hb dX4_fixed_10 rfl (lv_at hl 0 rfl) ?_
      refine g_ifnull (tgt := 41) hx hb dX4_fixed_11 (by decide) (fun c10 => ?_) (fun c10 => ?_)
      · replace h := (if_pos c10).symm.trans h
        exact g_throw hF hM hfl hout ew_X4_50_52 (congrArg Sum.inr (Sum.inr.inj (Option.some.inj h)).symm) hl.1 dX4_fixed_41 dX4_fixed_44 dX4_fixed_45 dX4_fixed_48 (Nat.le_of_ble_eq_true rfl) (Nat.le_of_ble_eq_true rfl) (Nat.le_of_ble_eq_true rfl) (Nat.le_of_ble_eq_true rfl) (Nat.le_of_ble_eq_true rfl) (Nat.le_of_ble_eq_true rfl)
      · replace h := (if_neg c10).symm.trans h
        refine g_aload_n hx hb dX4_fixed_14 rfl (lv_at hl 0 rfl) ?_
        have g := gbind h
        clear h
        obtain ⟨v11, e12, h⟩ := g
        refine g_getI hF hM fdX1 e12 (by decide) rfl u131 dX4_fixed_15 ?_
        refine lv_bipush (v := 108) hx hb dX4_fixed_18 (by decide) ?_
        refine lv_icmp_eq (tgt := 49) hx hb dX4_fixed_20 (by decide) (fun c13 => ?_) (fun c13 => ?_)
        · replace h := (if_pos c13).symm.trans h
          refine W.widen (k := 0) (n := 0) (Nat.le_of_ble_eq_true rfl) (Nat.le_of_ble_eq_true rfl) ?_
          exact Jb49 _ _ h _ _ _ hM (lv_sub hl [1, 2, 0] rfl)
        · replace h := (if_neg c13).symm.trans h
          refine g_aload_n hx hb dX4_fixed_23 rfl (lv_at hl 0 rfl) ?_
          have g := gbind h
          clear h
          obtain ⟨v37, e38, h⟩ := g
          refine g_getI hF hM fdX1 e38 (by decide) rfl u131 dX4_fixed_24 ?_
          refine lv_bipush (v := 112) hx hb dX4_fixed_27 (by decide) ?_
          refine lv_icmp_eq (tgt := 49) hx hb dX4_fixed_29 (by decide) (fun c39 => ?_) (fun c39 => ?_)
          · replace h := (if_pos c39).symm.trans h
            refine W.widen (k := 0) (n := 0) (Nat.le_of_ble_eq_true rfl) (Nat.le_of_ble_eq_true rfl) ?_
            exact Jb49 _ _ h _ _ _ hM (lv_sub hl [1, 2, 0] rfl)
          · replace h := (if_neg c39).symm.trans h
            refine g_aload_n hx hb dX4_fixed_32 rfl (lv_at hl 0 rfl) ?_
            have g := gbind h
            clear h
            obtain ⟨v40, e41, h⟩ := g
            refine g_getI hF hM fdX1 e41 (by decide) rfl u131 dX4_fixed_33 ?_
            refine lv_bipush (v := 109) hx hb dX4_fixed_36 (by decide) ?_
            refine lv_icmp_eq (tgt := 49) hx hb dX4_fixed_38 (by decide) (fun c42 => ?_) (fun c42 => ?_)
            · replace h := (if_pos c42).symm.trans h
              refine W.widen (k := 0) (n := 0) (Nat.le_of_ble_eq_true rfl) (Nat.le_of_ble_eq_true rfl) ?_
              exact Jb49 _ _ h _ _ _ hM (lv_sub hl [1, 2, 0] rfl)
            · replace h := (if_neg c42).symm.trans h
              exact g_throw hF hM hfl hout ew_X4_50_52 (congrArg Sum.inr (Sum.inr.inj (Option.some.inj h)).symm) hl.1 dX4_fixed_41 dX4_fixed_44 dX4_fixed_45 dX4_fixed_48 (Nat.le_of_ble_eq_true rfl) (Nat.le_of_ble_eq_true rfl) (Nat.le_of_ble_eq_true rfl) (Nat.le_of_ble_eq_true rfl) (Nat.le_of_ble_eq_true rfl) (Nat.le_of_ble_eq_true rfl)
    · exact g_callVt (As := [.int x2]) (rest := []) hF hM hout (cx_X4_held hfl e6) k_X4_held u517 u519 u13 rfl rfl t5 rfl hl.1 rfl (Nat.le_of_ble_eq_true rfl) dX4_fixed_6 ⟨(Nat.le_of_ble_eq_true rfl), (Nat.le_of_ble_eq_true rfl)⟩ ⟨(Nat.le_of_ble_eq_true rfl), (Nat.le_of_ble_eq_true rfl)⟩ (Nat.le_of_ble_eq_true rfl) (Nat.le_of_ble_eq_true rfl) (congrArg Sum.inr (Sum.inr.inj z9))
  · exact g_callSt (As := [.int x1]) (rest := []) hF hM hout (cx_X4_needPaneSlot hfl e1) k_X4_needPaneSlot u493 u494 rfl hl.1 rfl (Nat.le_of_ble_eq_true rfl) dX4_fixed_1 ⟨(Nat.le_of_ble_eq_true rfl), (Nat.le_of_ble_eq_true rfl)⟩ ⟨(Nat.le_of_ble_eq_true rfl), (Nat.le_of_ble_eq_true rfl)⟩ (Nat.le_of_ble_eq_true rfl) (Nat.le_of_ble_eq_true rfl) (congrArg Sum.inr (Sum.inr.inj z4))
abbrev rm_X4_needThing : Room := { frames := 0, cells := 0, slots := 0, locals := 0 }
theorem k_X4_needThing : gKc yX4_needThing cX4_needThing 2 none 2 := ⟨u592, u63, by decide +kernel, by decide +kernel, by decide +kernel⟩
set_option maxHeartbeats 4000000 in
set_option maxRecDepth 100000 in
theorem c_X4_needThing {l : Launch} {D : va_G} {Y : Nat → ClassId} {S : GS} {hs : Nat} {x0 : Int32} {x1 : Int32} {r : Unit} (h : f_X4_needThing S x0 x1 = some (.inl r)) : gMet l yX4_needThing (gWs yX4_needThing cX4_needThing 2 none) rm_X4_needThing [.int x0, .int x1] D Y S hs none S hs := by
  refine g_ofW (by decide +kernel) (Or.inl ⟨(Nat.le_of_ble_eq_true rfl), (List.forall_mem_cons.mpr ⟨rfl, (List.forall_mem_cons.mpr ⟨rfl, (fun _ h => absurd h List.not_mem_nil)⟩)⟩)⟩) ?_
  intro p e s m args below meth c ls hsz hname hF hM hl
  have hl : lv_has ls 2 [(0, .int x0), (1, .int x1)] := by rw [g_args [.int x0, .int x1] 0 (List.forall_mem_cons.mpr ⟨rfl, (List.forall_mem_cons.mpr ⟨rfl, (fun _ h => absurd h List.not_mem_nil)⟩)⟩)] at hl; exact hl
  have hF : gF p s m args meth c RX4 cX4_needThing 2 none D Y (gA S hs) := hF
  have hx := hF.1
  have hb := hF.2.1
  unfold f_X4_needThing at h
  refine lv_iload_n hx hb dX4_needThing_0 rfl (lv_at hl 0 rfl) ?_
  refine lv_sipush (v := (-999)) hx hb dX4_needThing_1 (by decide) ?_
  refine lv_icmp_lt (tgt := 24) hx hb dX4_needThing_4 (by decide) (fun c1 => ?_) (fun c1 => ?_)
  · replace h := (if_pos c1).symm.trans h
    exact nomatch (Option.some.inj h)
  · replace h := (if_neg c1).symm.trans h
    refine lv_iload_n hx hb dX4_needThing_7 rfl (lv_at hl 0 rfl) ?_
    refine lv_sipush (v := 999) hx hb dX4_needThing_8 (by decide) ?_
    refine lv_icmp_gt (tgt := 24) hx hb dX4_needThing_11 (by decide) (fun c2 => ?_) (fun c2 => ?_)
    · replace h := (if_pos c2).symm.trans h
      exact nomatch (Option.some.inj h)
    · replace h := (if_neg c2).symm.trans h
      refine lv_iload_n hx hb dX4_needThing_14 rfl (lv_at hl 1 rfl) ?_
      refine lv_if_lt (tgt := 24) hx hb dX4_needThing_15 (by decide) (fun c3 => ?_) (fun c3 => ?_)
      · replace h := (if_pos c3).symm.trans h
        exact nomatch (Option.some.inj h)
      · replace h := (if_neg c3).symm.trans h
        refine lv_iload_n hx hb dX4_needThing_18 rfl (lv_at hl 1 rfl) ?_
        refine lv_bipush (v := 99) hx hb dX4_needThing_19 (by decide) ?_
        refine lv_icmp_le (tgt := 32) hx hb dX4_needThing_21 (by decide) (fun c4 => ?_) (fun c4 => ?_)
        · replace h := (if_pos c4).symm.trans h
          exact g_vret hF hM rfl dX4_needThing_32 (Nat.le_of_ble_eq_true rfl) (Nat.le_of_ble_eq_true rfl)
        · replace h := (if_neg c4).symm.trans h
          exact nomatch (Option.some.inj h)
abbrev rmx_X4_needThing : Room := { frames := 6, cells := 1, slots := 6, locals := 89 }
set_option maxHeartbeats 4000000 in
set_option maxRecDepth 100000 in
theorem cx_X4_needThing {l : Launch} {D : va_G} {Y : Nat → ClassId} {S : GS} {hs : Nat} {x0 : Int32} {x1 : Int32} {x : Nat} (hfl : l.stackTraces = false) (h : f_X4_needThing S x0 x1 = some (.inr x)) : gMx l yX4_needThing (gWs yX4_needThing cX4_needThing 2 none) rmx_X4_needThing [.int x0, .int x1] D Y S hs (.inr x) := by
  refine g_ofWx (by decide +kernel) (Or.inl ⟨(Nat.le_of_ble_eq_true rfl), (List.forall_mem_cons.mpr ⟨rfl, (List.forall_mem_cons.mpr ⟨rfl, (fun _ h => absurd h List.not_mem_nil)⟩)⟩)⟩) ?_
  intro p e s m args below meth c ls hsz hout hF hM hl
  have hl : lv_has ls 2 [(0, .int x0), (1, .int x1)] := by rw [g_args [.int x0, .int x1] 0 (List.forall_mem_cons.mpr ⟨rfl, (List.forall_mem_cons.mpr ⟨rfl, (fun _ h => absurd h List.not_mem_nil)⟩)⟩)] at hl; exact hl
  have hF : gF p s m args meth c RX4 cX4_needThing 2 none D Y (gA S hs) := hF
  have hx := hF.1
  have hb := hF.2.1
  unfold f_X4_needThing at h
  refine lv_iload_n hx hb dX4_needThing_0 rfl (lv_at hl 0 rfl) ?_
  refine lv_sipush (v := (-999)) hx hb dX4_needThing_1 (by decide) ?_
  refine lv_icmp_lt (tgt := 24) hx hb dX4_needThing_4 (by decide) (fun c1 => ?_) (fun c1 => ?_)
  · replace h := (if_pos c1).symm.trans h
    exact g_throw hF hM hfl hout ew_X4_57_59 (congrArg Sum.inr (Sum.inr.inj (Option.some.inj h)).symm) hl.1 dX4_needThing_24 dX4_needThing_27 dX4_needThing_28 dX4_needThing_31 (Nat.le_of_ble_eq_true rfl) (Nat.le_of_ble_eq_true rfl) (Nat.le_of_ble_eq_true rfl) (Nat.le_of_ble_eq_true rfl) (Nat.le_of_ble_eq_true rfl) (Nat.le_of_ble_eq_true rfl)
  · replace h := (if_neg c1).symm.trans h
    refine lv_iload_n hx hb dX4_needThing_7 rfl (lv_at hl 0 rfl) ?_
    refine lv_sipush (v := 999) hx hb dX4_needThing_8 (by decide) ?_
    refine lv_icmp_gt (tgt := 24) hx hb dX4_needThing_11 (by decide) (fun c2 => ?_) (fun c2 => ?_)
    · replace h := (if_pos c2).symm.trans h
      exact g_throw hF hM hfl hout ew_X4_57_59 (congrArg Sum.inr (Sum.inr.inj (Option.some.inj h)).symm) hl.1 dX4_needThing_24 dX4_needThing_27 dX4_needThing_28 dX4_needThing_31 (Nat.le_of_ble_eq_true rfl) (Nat.le_of_ble_eq_true rfl) (Nat.le_of_ble_eq_true rfl) (Nat.le_of_ble_eq_true rfl) (Nat.le_of_ble_eq_true rfl) (Nat.le_of_ble_eq_true rfl)
    · replace h := (if_neg c2).symm.trans h
      refine lv_iload_n hx hb dX4_needThing_14 rfl (lv_at hl 1 rfl) ?_
      refine lv_if_lt (tgt := 24) hx hb dX4_needThing_15 (by decide) (fun c3 => ?_) (fun c3 => ?_)
      · replace h := (if_pos c3).symm.trans h
        exact g_throw hF hM hfl hout ew_X4_57_59 (congrArg Sum.inr (Sum.inr.inj (Option.some.inj h)).symm) hl.1 dX4_needThing_24 dX4_needThing_27 dX4_needThing_28 dX4_needThing_31 (Nat.le_of_ble_eq_true rfl) (Nat.le_of_ble_eq_true rfl) (Nat.le_of_ble_eq_true rfl) (Nat.le_of_ble_eq_true rfl) (Nat.le_of_ble_eq_true rfl) (Nat.le_of_ble_eq_true rfl)
      · replace h := (if_neg c3).symm.trans h
        refine lv_iload_n hx hb dX4_needThing_18 rfl (lv_at hl 1 rfl) ?_
        refine lv_bipush (v := 99) hx hb dX4_needThing_19 (by decide) ?_
        refine lv_icmp_le (tgt := 32) hx hb dX4_needThing_21 (by decide) (fun c4 => ?_) (fun c4 => ?_)
        · replace h := (if_pos c4).symm.trans h
          exact nomatch (Option.some.inj h)
        · replace h := (if_neg c4).symm.trans h
          exact g_throw hF hM hfl hout ew_X4_57_59 (congrArg Sum.inr (Sum.inr.inj (Option.some.inj h)).symm) hl.1 dX4_needThing_24 dX4_needThing_27 dX4_needThing_28 dX4_needThing_31 (Nat.le_of_ble_eq_true rfl) (Nat.le_of_ble_eq_true rfl) (Nat.le_of_ble_eq_true rfl) (Nat.le_of_ble_eq_true rfl) (Nat.le_of_ble_eq_true rfl) (Nat.le_of_ble_eq_true rfl)
abbrev rm_X4_copies : Room := { frames := 2, cells := 1, slots := 7, locals := 44 }
theorem k_X4_copies : gKc yX4_copies cX4_copies 5 (some .int) 4 := ⟨u589, u63, by decide +kernel, by decide +kernel, by decide +kernel⟩
set_option maxHeartbeats 4000000 in
set_option maxRecDepth 100000 in
theorem c_X4_copies {l : Launch} {D : va_G} {Y : Nat → ClassId} {S : GS} {hs : Nat} {a0 : Nat} {x1 : Int32} {x2 : Int32} {x3 : Int32} {x4 : Int32} {r : Int32} {S' : GS} {hs' : Nat} (h : f_X4_copies S hs a0 x1 x2 x3 x4 = some (.inl (r, S', hs'))) : gMet l yX4_copies (gWs yX4_copies cX4_copies 5 (some .int)) rm_X4_copies [va_rf (some a0), .int x1, .int x2, .int x3, .int x4] D Y S hs (some (.int r)) S' hs' := by
  refine g_ofW (by decide +kernel) (Or.inl ⟨(Nat.le_of_ble_eq_true rfl), (List.forall_mem_cons.mpr ⟨rf_cat _, (List.forall_mem_cons.mpr ⟨rfl, (List.forall_mem_cons.mpr ⟨rfl, (List.forall_mem_cons.mpr ⟨rfl, (List.forall_mem_cons.mpr ⟨rfl, (fun _ h => absurd h List.not_mem_nil)⟩)⟩)⟩)⟩)⟩)⟩) ?_
  intro p e s m args below meth c ls hsz hname hF hM hl
  have hl : lv_has ls 5 [(0, va_rf (some a0)), (1, .int x1), (2, .int x2), (3, .int x3), (4, .int x4)] := by rw [g_args [va_rf (some a0), .int x1, .int x2, .int x3, .int x4] 0 (List.forall_mem_cons.mpr ⟨rf_cat _, (List.forall_mem_cons.mpr ⟨rfl, (List.forall_mem_cons.mpr ⟨rfl, (List.forall_mem_cons.mpr ⟨rfl, (List.forall_mem_cons.mpr ⟨rfl, (fun _ h => absurd h List.not_mem_nil)⟩)⟩)⟩)⟩)⟩)] at hl; exact hl
  have hF : gF p s m args meth c RX4 cX4_copies 5 (some .int) D Y (gA S hs) := hF
  have hx := hF.1
  have hb := hF.2.1
  unfold f_X4_copies at h
  refine lv_iload_n hx hb dX4_copies_0 rfl (lv_at hl 1 rfl) ?_
  have g := gthE h
  clear h
  rcases g with ⟨w2, e1, h⟩ | ⟨y3, e1, z4⟩
  · refine g_callS (As := [.int x1]) (rest := []) hF hM (c_X4_needPaneSlot e1) k_X4_needPaneSlot u493 u494 rfl hl.1 rfl (Nat.le_of_ble_eq_true rfl) dX4_copies_1 ⟨(Nat.le_of_ble_eq_true rfl), (Nat.le_of_ble_eq_true rfl)⟩ ⟨(Nat.le_of_ble_eq_true rfl), (Nat.le_of_ble_eq_true rfl)⟩ (fun H locs hM => ?_)
    refine lv_iload_n hx hb dX4_copies_4 rfl (lv_at hl 2 rfl) ?_
    refine lv_if_lt (tgt := 14) hx hb dX4_copies_5 (by decide) (fun c5 => ?_) (fun c5 => ?_)
    · replace h := (if_pos c5).symm.trans h
      exact nomatch (Option.some.inj h)
    · replace h := (if_neg c5).symm.trans h
      refine lv_iload_n hx hb dX4_copies_8 rfl (lv_at hl 2 rfl) ?_
      refine lv_bipush (v := 24) hx hb dX4_copies_9 (by decide) ?_
      refine lv_icmp_le (tgt := 22) hx hb dX4_copies_11 (by decide) (fun c6 => ?_) (fun c6 => ?_)
      · replace h := (if_pos c6).symm.trans h
        refine lv_iload_n hx hb dX4_copies_22 rfl (lv_at hl 3 rfl) ?_
        refine lv_iload hx hb dX4_copies_23 (lv_at hl 4 rfl) ?_
        have g := gthE h
        clear h
        rcases g with ⟨w8, e7, h⟩ | ⟨y9, e7, z10⟩
        · refine g_callS (As := [.int x3, .int x4]) (rest := []) hF hM (c_X4_needThing e7) k_X4_needThing u590 u591 rfl hl.1 rfl (Nat.le_of_ble_eq_true rfl) dX4_copies_25 ⟨(Nat.le_of_ble_eq_true rfl), (Nat.le_of_ble_eq_true rfl)⟩ ⟨(Nat.le_of_ble_eq_true rfl), (Nat.le_of_ble_eq_true rfl)⟩ (fun H locs hM => ?_)
          refine g_aload_n hx hb dX4_copies_28 rfl (lv_at hl 0 rfl) ?_
          have g := gbind h
          clear h
          obtain ⟨v11, e12, h⟩ := g
          refine g_getR hF hM fdX4 e12 (by decide) rfl u175 dX4_copies_29 ?_
          refine lv_iload_n hx hb dX4_copies_32 rfl (lv_at hl 1 rfl) ?_
          have g := gbind h
          clear h
          obtain ⟨S13, e14, h⟩ := g
          refine g_new hF hM fdX1 u93 u95 u64 (Nat.le_of_ble_eq_true rfl) (Nat.le_of_ble_eq_true rfl) dX4_copies_33 (fun H hM => ?_)
          have hM := hM.eq (Option.some.inj e14)
          refine lv_dup hx hb dX4_copies_36 (rf_cat _) ?_
          refine lv_bipush (v := 99) hx hb dX4_copies_37 (by decide) ?_
          refine lv_iload_n hx hb dX4_copies_39 rfl (lv_at hl 2 rfl) ?_
          refine lv_iload_n hx hb dX4_copies_40 rfl (lv_at hl 3 rfl) ?_
          refine lv_iload hx hb dX4_copies_41 (lv_at hl 4 rfl) ?_
          have g := gbind h
          clear h
          obtain ⟨S16, e15, h⟩ := g
          refine g_callI (As := [.int 99, .int x2, .int x3, .int x4]) (rest := [va_rf (some hs), .int x1, va_rf v11]) hF hM (c_X1_init_ e15) k_X1_init_ u593 u594 rfl rfl hl.1 rfl (by simp [rf_cat, ic_cat, lc_cat]) dX4_copies_43 ⟨(Nat.le_of_ble_eq_true rfl), (Nat.le_of_ble_eq_true rfl)⟩ ⟨(Nat.le_of_ble_eq_true rfl), (Nat.le_of_ble_eq_true rfl)⟩ (fun H locs hM => ?_)
          have g := gckE h
          clear h
          obtain ⟨q19, h⟩ := g
          have g := gbind h
          clear h
          obtain ⟨S17, e18, h⟩ := g
          refine g_aast hF hM e18 (gpn_of q19) dX4_copies_46 (fun H locs hM => ?_)
          refine lv_iload_n hx hb dX4_copies_47 rfl (lv_at hl 2 rfl) ?_
          obtain ⟨q1, q2⟩ := Prod.mk.inj (Sum.inl.inj (Option.some.inj h))
          obtain ⟨q2, q3⟩ := Prod.mk.inj q2
          rw [← q1, ← q2, ← q3]
          exact g_iret hF hM rfl rfl dX4_copies_48 (Nat.le_of_ble_eq_true rfl) (Nat.le_of_ble_eq_true rfl)
        · exact nomatch z10
      · replace h := (if_neg c6).symm.trans h
        exact nomatch (Option.some.inj h)
  · exact nomatch z4
abbrev rmx_X4_copies : Room := { frames := 7, cells := 1, slots := 7, locals := 110 }
set_option maxHeartbeats 4000000 in
set_option maxRecDepth 100000 in
theorem cx_X4_copies {l : Launch} {D : va_G} {Y : Nat → ClassId} {S : GS} {hs : Nat} {a0 : Nat} {x1 : Int32} {x2 : Int32} {x3 : Int32} {x4 : Int32} {x : Nat} (hfl : l.stackTraces = false) (h : f_X4_copies S hs a0 x1 x2 x3 x4 = some (.inr x)) : gMx l yX4_copies (gWs yX4_copies cX4_copies 5 (some .int)) rmx_X4_copies [va_rf (some a0), .int x1, .int x2, .int x3, .int x4] D Y S hs (.inr x) := by
  refine g_ofWx (by decide +kernel) (Or.inl ⟨(Nat.le_of_ble_eq_true rfl), (List.forall_mem_cons.mpr ⟨rf_cat _, (List.forall_mem_cons.mpr ⟨rfl, (List.forall_mem_cons.mpr ⟨rfl, (List.forall_mem_cons.mpr ⟨rfl, (List.forall_mem_cons.mpr ⟨rfl, (fun _ h => absurd h List.not_mem_nil)⟩)⟩)⟩)⟩)⟩)⟩) ?_
  intro p e s m args below meth c ls hsz hout hF hM hl
  have hl : lv_has ls 5 [(0, va_rf (some a0)), (1, .int x1), (2, .int x2), (3, .int x3), (4, .int x4)] := by rw [g_args [va_rf (some a0), .int x1, .int x2, .int x3, .int x4] 0 (List.forall_mem_cons.mpr ⟨rf_cat _, (List.forall_mem_cons.mpr ⟨rfl, (List.forall_mem_cons.mpr ⟨rfl, (List.forall_mem_cons.mpr ⟨rfl, (List.forall_mem_cons.mpr ⟨rfl, (fun _ h => absurd h List.not_mem_nil)⟩)⟩)⟩)⟩)⟩)] at hl; exact hl
  have hF : gF p s m args meth c RX4 cX4_copies 5 (some .int) D Y (gA S hs) := hF
  have hx := hF.1
  have hb := hF.2.1
  unfold f_X4_copies at h
  refine lv_iload_n hx hb dX4_copies_0 rfl (lv_at hl 1 rfl) ?_
  have g := gthE h
  clear h
  rcases g with ⟨w2, e1, h⟩ | ⟨y3, e1, z4⟩
  · refine g_callS (As := [.int x1]) (rest := []) hF hM (c_X4_needPaneSlot e1) k_X4_needPaneSlot u493 u494 rfl hl.1 rfl (Nat.le_of_ble_eq_true rfl) dX4_copies_1 ⟨(Nat.le_of_ble_eq_true rfl), (Nat.le_of_ble_eq_true rfl)⟩ ⟨(Nat.le_of_ble_eq_true rfl), (Nat.le_of_ble_eq_true rfl)⟩ (fun H locs hM => ?_)
    refine lv_iload_n hx hb dX4_copies_4 rfl (lv_at hl 2 rfl) ?_
    refine lv_if_lt (tgt := 14) hx hb dX4_copies_5 (by decide) (fun c5 => ?_) (fun c5 => ?_)
    · replace h := (if_pos c5).symm.trans h
      exact g_throw hF hM hfl hout ew_X4_57_59 (congrArg Sum.inr (Sum.inr.inj (Option.some.inj h)).symm) hl.1 dX4_copies_14 dX4_copies_17 dX4_copies_18 dX4_copies_21 (Nat.le_of_ble_eq_true rfl) (Nat.le_of_ble_eq_true rfl) (Nat.le_of_ble_eq_true rfl) (Nat.le_of_ble_eq_true rfl) (Nat.le_of_ble_eq_true rfl) (Nat.le_of_ble_eq_true rfl)
    · replace h := (if_neg c5).symm.trans h
      refine lv_iload_n hx hb dX4_copies_8 rfl (lv_at hl 2 rfl) ?_
      refine lv_bipush (v := 24) hx hb dX4_copies_9 (by decide) ?_
      refine lv_icmp_le (tgt := 22) hx hb dX4_copies_11 (by decide) (fun c6 => ?_) (fun c6 => ?_)
      · replace h := (if_pos c6).symm.trans h
        refine lv_iload_n hx hb dX4_copies_22 rfl (lv_at hl 3 rfl) ?_
        refine lv_iload hx hb dX4_copies_23 (lv_at hl 4 rfl) ?_
        have g := gthE h
        clear h
        rcases g with ⟨w8, e7, h⟩ | ⟨y9, e7, z10⟩
        · refine g_callS (As := [.int x3, .int x4]) (rest := []) hF hM (c_X4_needThing e7) k_X4_needThing u590 u591 rfl hl.1 rfl (Nat.le_of_ble_eq_true rfl) dX4_copies_25 ⟨(Nat.le_of_ble_eq_true rfl), (Nat.le_of_ble_eq_true rfl)⟩ ⟨(Nat.le_of_ble_eq_true rfl), (Nat.le_of_ble_eq_true rfl)⟩ (fun H locs hM => ?_)
          refine g_aload_n hx hb dX4_copies_28 rfl (lv_at hl 0 rfl) ?_
          have g := gbind h
          clear h
          obtain ⟨v11, e12, h⟩ := g
          refine g_getR hF hM fdX4 e12 (by decide) rfl u175 dX4_copies_29 ?_
          refine lv_iload_n hx hb dX4_copies_32 rfl (lv_at hl 1 rfl) ?_
          have g := gbind h
          clear h
          obtain ⟨S13, e14, h⟩ := g
          refine g_new hF hM fdX1 u93 u95 u64 (Nat.le_of_ble_eq_true rfl) (Nat.le_of_ble_eq_true rfl) dX4_copies_33 (fun H hM => ?_)
          have hM := hM.eq (Option.some.inj e14)
          refine lv_dup hx hb dX4_copies_36 (rf_cat _) ?_
          refine lv_bipush (v := 99) hx hb dX4_copies_37 (by decide) ?_
          refine lv_iload_n hx hb dX4_copies_39 rfl (lv_at hl 2 rfl) ?_
          refine lv_iload_n hx hb dX4_copies_40 rfl (lv_at hl 3 rfl) ?_
          refine lv_iload hx hb dX4_copies_41 (lv_at hl 4 rfl) ?_
          have g := gbind h
          clear h
          obtain ⟨S16, e15, h⟩ := g
          refine g_callI (As := [.int 99, .int x2, .int x3, .int x4]) (rest := [va_rf (some hs), .int x1, va_rf v11]) hF hM (c_X1_init_ e15) k_X1_init_ u593 u594 rfl rfl hl.1 rfl (by simp [rf_cat, ic_cat, lc_cat]) dX4_copies_43 ⟨(Nat.le_of_ble_eq_true rfl), (Nat.le_of_ble_eq_true rfl)⟩ ⟨(Nat.le_of_ble_eq_true rfl), (Nat.le_of_ble_eq_true rfl)⟩ (fun H locs hM => ?_)
          have g := gckE h
          clear h
          obtain ⟨q19, h⟩ := g
          have g := gbind h
          clear h
          obtain ⟨S17, e18, h⟩ := g
          refine g_aast hF hM e18 (gpn_of q19) dX4_copies_46 (fun H locs hM => ?_)
          refine lv_iload_n hx hb dX4_copies_47 rfl (lv_at hl 2 rfl) ?_
          exact nomatch (Option.some.inj h)
        · exact g_callSt (As := [.int x3, .int x4]) (rest := []) hF hM hout (cx_X4_needThing hfl e7) k_X4_needThing u590 u591 rfl hl.1 rfl (Nat.le_of_ble_eq_true rfl) dX4_copies_25 ⟨(Nat.le_of_ble_eq_true rfl), (Nat.le_of_ble_eq_true rfl)⟩ ⟨(Nat.le_of_ble_eq_true rfl), (Nat.le_of_ble_eq_true rfl)⟩ (Nat.le_of_ble_eq_true rfl) (Nat.le_of_ble_eq_true rfl) (congrArg Sum.inr (Sum.inr.inj z10))
      · replace h := (if_neg c6).symm.trans h
        exact g_throw hF hM hfl hout ew_X4_57_59 (congrArg Sum.inr (Sum.inr.inj (Option.some.inj h)).symm) hl.1 dX4_copies_14 dX4_copies_17 dX4_copies_18 dX4_copies_21 (Nat.le_of_ble_eq_true rfl) (Nat.le_of_ble_eq_true rfl) (Nat.le_of_ble_eq_true rfl) (Nat.le_of_ble_eq_true rfl) (Nat.le_of_ble_eq_true rfl) (Nat.le_of_ble_eq_true rfl)
  · exact g_callSt (As := [.int x1]) (rest := []) hF hM hout (cx_X4_needPaneSlot hfl e1) k_X4_needPaneSlot u493 u494 rfl hl.1 rfl (Nat.le_of_ble_eq_true rfl) dX4_copies_1 ⟨(Nat.le_of_ble_eq_true rfl), (Nat.le_of_ble_eq_true rfl)⟩ ⟨(Nat.le_of_ble_eq_true rfl), (Nat.le_of_ble_eq_true rfl)⟩ (Nat.le_of_ble_eq_true rfl) (Nat.le_of_ble_eq_true rfl) (congrArg Sum.inr (Sum.inr.inj z4))
abbrev rm_X4_alone : Room := { frames := 4, cells := 1, slots := 7, locals := 85 }
theorem k_X4_alone : gKc yX4_alone cX4_alone 5 (some .int) 3 := ⟨u602, u63, by decide +kernel, by decide +kernel, by decide +kernel⟩
set_option maxHeartbeats 4000000 in
set_option maxRecDepth 100000 in
theorem c_X4_alone {l : Launch} {D : va_G} {Y : Nat → ClassId} {S : GS} {hs : Nat} {a0 : Nat} {x1 : Int32} {x2 : Int32} {x3 : Int32} {r : Int32} {S' : GS} {hs' : Nat} (h : f_X4_alone S hs a0 x1 x2 x3 = some (.inl (r, S', hs'))) : gMet l yX4_alone (gWs yX4_alone cX4_alone 5 (some .int)) rm_X4_alone [va_rf (some a0), .int x1, .int x2, .int x3] D Y S hs (some (.int r)) S' hs' := by
  refine g_ofW (by decide +kernel) (Or.inl ⟨(Nat.le_of_ble_eq_true rfl), (List.forall_mem_cons.mpr ⟨rf_cat _, (List.forall_mem_cons.mpr ⟨rfl, (List.forall_mem_cons.mpr ⟨rfl, (List.forall_mem_cons.mpr ⟨rfl, (fun _ h => absurd h List.not_mem_nil)⟩)⟩)⟩)⟩)⟩) ?_
  intro p e s m args below meth c ls hsz hname hF hM hl
  have hl : lv_has ls 5 [(0, va_rf (some a0)), (1, .int x1), (2, .int x2), (3, .int x3)] := by rw [g_args [va_rf (some a0), .int x1, .int x2, .int x3] 0 (List.forall_mem_cons.mpr ⟨rf_cat _, (List.forall_mem_cons.mpr ⟨rfl, (List.forall_mem_cons.mpr ⟨rfl, (List.forall_mem_cons.mpr ⟨rfl, (fun _ h => absurd h List.not_mem_nil)⟩)⟩)⟩)⟩)] at hl; exact hl
  have hF : gF p s m args meth c RX4 cX4_alone 5 (some .int) D Y (gA S hs) := hF
  have hx := hF.1
  have hb := hF.2.1
  unfold f_X4_alone at h
  refine lv_iload_n hx hb dX4_alone_0 rfl (lv_at hl 1 rfl) ?_
  have g := gthE h
  clear h
  rcases g with ⟨w2, e1, h⟩ | ⟨y3, e1, z4⟩
  · refine g_callS (As := [.int x1]) (rest := []) hF hM (c_X4_needPaneSlot e1) k_X4_needPaneSlot u493 u494 rfl hl.1 rfl (Nat.le_of_ble_eq_true rfl) dX4_alone_1 ⟨(Nat.le_of_ble_eq_true rfl), (Nat.le_of_ble_eq_true rfl)⟩ ⟨(Nat.le_of_ble_eq_true rfl), (Nat.le_of_ble_eq_true rfl)⟩ (fun H locs hM => ?_)
    refine lv_iload_n hx hb dX4_alone_4 rfl (lv_at hl 2 rfl) ?_
    refine lv_iload_n hx hb dX4_alone_5 rfl (lv_at hl 3 rfl) ?_
    have g := gthE h
    clear h
    rcases g with ⟨w6, e5, h⟩ | ⟨y7, e5, z8⟩
    · refine g_callS (As := [.int x2, .int x3]) (rest := []) hF hM (c_X4_needThing e5) k_X4_needThing u590 u591 rfl hl.1 rfl (Nat.le_of_ble_eq_true rfl) dX4_alone_6 ⟨(Nat.le_of_ble_eq_true rfl), (Nat.le_of_ble_eq_true rfl)⟩ ⟨(Nat.le_of_ble_eq_true rfl), (Nat.le_of_ble_eq_true rfl)⟩ (fun H locs hM => ?_)
      have g := gbind h
      clear h
      obtain ⟨S9, e10, h⟩ := g
      refine g_new hF hM fdX1 u93 u95 u64 (Nat.le_of_ble_eq_true rfl) (Nat.le_of_ble_eq_true rfl) dX4_alone_9 (fun H hM => ?_)
      have hM := hM.eq (Option.some.inj e10)
      refine lv_dup hx hb dX4_alone_12 (rf_cat _) ?_
      refine lv_bipush (v := 97) hx hb dX4_alone_13 (by decide) ?_
      refine lv_iconst (v := 1) hx hb dX4_alone_15 (by decide) ?_
      refine lv_iload_n hx hb dX4_alone_16 rfl (lv_at hl 2 rfl) ?_
      refine lv_iload_n hx hb dX4_alone_17 rfl (lv_at hl 3 rfl) ?_
      have g := gbind h
      clear h
      obtain ⟨S12, e11, h⟩ := g
      refine g_callI (As := [.int 97, .int 1, .int x2, .int x3]) (rest := [va_rf (some hs)]) hF hM (c_X1_init_ e11) k_X1_init_ u593 u594 rfl rfl hl.1 rfl (Nat.le_of_ble_eq_true rfl) dX4_alone_18 ⟨(Nat.le_of_ble_eq_true rfl), (Nat.le_of_ble_eq_true rfl)⟩ ⟨(Nat.le_of_ble_eq_true rfl), (Nat.le_of_ble_eq_true rfl)⟩ (fun H locs hM => ?_)
      refine g_astore (i := 4) (lv' := [(0, va_rf (some a0)), (1, .int x1), (2, .int x2), (3, .int x3)]) hx hb dX4_alone_21 hl (by decide) (fun v => rfl) (fun ls hl => ?_)
      refine g_aload_n hx hb dX4_alone_23 rfl (lv_at hl 1 rfl) ?_
      have g := gbind h
      clear h
      obtain ⟨v13, e14, h⟩ := g
      refine g_getR hF hM fdX4 e14 (by decide) rfl u175 dX4_alone_24 ?_
      refine lv_iload_n hx hb dX4_alone_27 rfl (lv_at hl 2 rfl) ?_
      refine g_aload hx hb dX4_alone_28 (lv_at hl 0 rfl) ?_
      have g := gckE h
      clear h
      obtain ⟨q17, h⟩ := g
      have g := gbind h
      clear h
      obtain ⟨S15, e16, h⟩ := g
      refine g_aast hF hM e16 (gpn_of q17) dX4_alone_30 (fun H locs hM => ?_)
      refine g_aload hx hb dX4_alone_31 (lv_at hl 0 rfl) ?_
      have g := gckE h
      clear h
      obtain ⟨t18, h⟩ := g
      have t18 := eq_of_beq t18
      have g := gbind h
      clear h
      obtain ⟨v20, e19, h⟩ := g
      refine g_callV (As := []) (rest := []) hF hM (c_X1_listHash e19) k_X1_listHash u603 u391 u392 rfl rfl t18 rfl hl.1 rfl (Nat.le_of_ble_eq_true rfl) dX4_alone_33 ⟨(Nat.le_of_ble_eq_true rfl), (Nat.le_of_ble_eq_true rfl)⟩ ⟨(Nat.le_of_ble_eq_true rfl), (Nat.le_of_ble_eq_true rfl)⟩ (fun H locs hM => ?_)
      obtain ⟨q1, q2⟩ := Prod.mk.inj (Sum.inl.inj (Option.some.inj h))
      obtain ⟨q2, q3⟩ := Prod.mk.inj q2
      rw [← q1, ← q2, ← q3]
      exact g_iret hF hM rfl rfl dX4_alone_36 (Nat.le_of_ble_eq_true rfl) (Nat.le_of_ble_eq_true rfl)
    · exact nomatch z8
  · exact nomatch z4
abbrev rmx_X4_alone : Room := { frames := 7, cells := 1, slots := 7, locals := 110 }
set_option maxHeartbeats 4000000 in
set_option maxRecDepth 100000 in
theorem cx_X4_alone {l : Launch} {D : va_G} {Y : Nat → ClassId} {S : GS} {hs : Nat} {a0 : Nat} {x1 : Int32} {x2 : Int32} {x3 : Int32} {x : Nat} (hfl : l.stackTraces = false) (h : f_X4_alone S hs a0 x1 x2 x3 = some (.inr x)) : gMx l yX4_alone (gWs yX4_alone cX4_alone 5 (some .int)) rmx_X4_alone [va_rf (some a0), .int x1, .int x2, .int x3] D Y S hs (.inr x) := by
  refine g_ofWx (by decide +kernel) (Or.inl ⟨(Nat.le_of_ble_eq_true rfl), (List.forall_mem_cons.mpr ⟨rf_cat _, (List.forall_mem_cons.mpr ⟨rfl, (List.forall_mem_cons.mpr ⟨rfl, (List.forall_mem_cons.mpr ⟨rfl, (fun _ h => absurd h List.not_mem_nil)⟩)⟩)⟩)⟩)⟩) ?_
  intro p e s m args below meth c ls hsz hout hF hM hl
  have hl : lv_has ls 5 [(0, va_rf (some a0)), (1, .int x1), (2, .int x2), (3, .int x3)] := by rw [g_args [va_rf (some a0), .int x1, .int x2, .int x3] 0 (List.forall_mem_cons.mpr ⟨rf_cat _, (List.forall_mem_cons.mpr ⟨rfl, (List.forall_mem_cons.mpr ⟨rfl, (List.forall_mem_cons.mpr ⟨rfl, (fun _ h => absurd h List.not_mem_nil)⟩)⟩)⟩)⟩)] at hl; exact hl
  have hF : gF p s m args meth c RX4 cX4_alone 5 (some .int) D Y (gA S hs) := hF
  have hx := hF.1
  have hb := hF.2.1
  unfold f_X4_alone at h
  refine lv_iload_n hx hb dX4_alone_0 rfl (lv_at hl 1 rfl) ?_
  have g := gthE h
  clear h
  rcases g with ⟨w2, e1, h⟩ | ⟨y3, e1, z4⟩
  · refine g_callS (As := [.int x1]) (rest := []) hF hM (c_X4_needPaneSlot e1) k_X4_needPaneSlot u493 u494 rfl hl.1 rfl (Nat.le_of_ble_eq_true rfl) dX4_alone_1 ⟨(Nat.le_of_ble_eq_true rfl), (Nat.le_of_ble_eq_true rfl)⟩ ⟨(Nat.le_of_ble_eq_true rfl), (Nat.le_of_ble_eq_true rfl)⟩ (fun H locs hM => ?_)
    refine lv_iload_n hx hb dX4_alone_4 rfl (lv_at hl 2 rfl) ?_
    refine lv_iload_n hx hb dX4_alone_5 rfl (lv_at hl 3 rfl) ?_
    have g := gthE h
    clear h
    rcases g with ⟨w6, e5, h⟩ | ⟨y7, e5, z8⟩
    · refine g_callS (As := [.int x2, .int x3]) (rest := []) hF hM (c_X4_needThing e5) k_X4_needThing u590 u591 rfl hl.1 rfl (Nat.le_of_ble_eq_true rfl) dX4_alone_6 ⟨(Nat.le_of_ble_eq_true rfl), (Nat.le_of_ble_eq_true rfl)⟩ ⟨(Nat.le_of_ble_eq_true rfl), (Nat.le_of_ble_eq_true rfl)⟩ (fun H locs hM => ?_)
      have g := gbind h
      clear h
      obtain ⟨S9, e10, h⟩ := g
      refine g_new hF hM fdX1 u93 u95 u64 (Nat.le_of_ble_eq_true rfl) (Nat.le_of_ble_eq_true rfl) dX4_alone_9 (fun H hM => ?_)
      have hM := hM.eq (Option.some.inj e10)
      refine lv_dup hx hb dX4_alone_12 (rf_cat _) ?_
      refine lv_bipush (v := 97) hx hb dX4_alone_13 (by decide) ?_
      refine lv_iconst (v := 1) hx hb dX4_alone_15 (by decide) ?_
      refine lv_iload_n hx hb dX4_alone_16 rfl (lv_at hl 2 rfl) ?_
      refine lv_iload_n hx hb dX4_alone_17 rfl (lv_at hl 3 rfl) ?_
      have g := gbind h
      clear h
      obtain ⟨S12, e11, h⟩ := g
      refine g_callI (As := [.int 97, .int 1, .int x2, .int x3]) (rest := [va_rf (some hs)]) hF hM (c_X1_init_ e11) k_X1_init_ u593 u594 rfl rfl hl.1 rfl (Nat.le_of_ble_eq_true rfl) dX4_alone_18 ⟨(Nat.le_of_ble_eq_true rfl), (Nat.le_of_ble_eq_true rfl)⟩ ⟨(Nat.le_of_ble_eq_true rfl), (Nat.le_of_ble_eq_true rfl)⟩ (fun H locs hM => ?_)
      refine g_astore (i := 4) (lv' := [(0, va_rf (some a0)), (1, .int x1), (2, .int x2), (3, .int x3)]) hx hb dX4_alone_21 hl (by decide) (fun v => rfl) (fun ls hl => ?_)
      refine g_aload_n hx hb dX4_alone_23 rfl (lv_at hl 1 rfl) ?_
      have g := gbind h
      clear h
      obtain ⟨v13, e14, h⟩ := g
      refine g_getR hF hM fdX4 e14 (by decide) rfl u175 dX4_alone_24 ?_
      refine lv_iload_n hx hb dX4_alone_27 rfl (lv_at hl 2 rfl) ?_
      refine g_aload hx hb dX4_alone_28 (lv_at hl 0 rfl) ?_
      have g := gckE h
      clear h
      obtain ⟨q17, h⟩ := g
      have g := gbind h
      clear h
      obtain ⟨S15, e16, h⟩ := g
      refine g_aast hF hM e16 (gpn_of q17) dX4_alone_30 (fun H locs hM => ?_)
      refine g_aload hx hb dX4_alone_31 (lv_at hl 0 rfl) ?_
      have g := gckE h
      clear h
      obtain ⟨t18, h⟩ := g
      have t18 := eq_of_beq t18
      have g := gbind h
      clear h
      obtain ⟨v20, e19, h⟩ := g
      refine g_callV (As := []) (rest := []) hF hM (c_X1_listHash e19) k_X1_listHash u603 u391 u392 rfl rfl t18 rfl hl.1 rfl (Nat.le_of_ble_eq_true rfl) dX4_alone_33 ⟨(Nat.le_of_ble_eq_true rfl), (Nat.le_of_ble_eq_true rfl)⟩ ⟨(Nat.le_of_ble_eq_true rfl), (Nat.le_of_ble_eq_true rfl)⟩ (fun H locs hM => ?_)
      exact nomatch (Option.some.inj h)
    · exact g_callSt (As := [.int x2, .int x3]) (rest := []) hF hM hout (cx_X4_needThing hfl e5) k_X4_needThing u590 u591 rfl hl.1 rfl (Nat.le_of_ble_eq_true rfl) dX4_alone_6 ⟨(Nat.le_of_ble_eq_true rfl), (Nat.le_of_ble_eq_true rfl)⟩ ⟨(Nat.le_of_ble_eq_true rfl), (Nat.le_of_ble_eq_true rfl)⟩ (Nat.le_of_ble_eq_true rfl) (Nat.le_of_ble_eq_true rfl) (congrArg Sum.inr (Sum.inr.inj z8))
  · exact g_callSt (As := [.int x1]) (rest := []) hF hM hout (cx_X4_needPaneSlot hfl e1) k_X4_needPaneSlot u493 u494 rfl hl.1 rfl (Nat.le_of_ble_eq_true rfl) dX4_alone_1 ⟨(Nat.le_of_ble_eq_true rfl), (Nat.le_of_ble_eq_true rfl)⟩ ⟨(Nat.le_of_ble_eq_true rfl), (Nat.le_of_ble_eq_true rfl)⟩ (Nat.le_of_ble_eq_true rfl) (Nat.le_of_ble_eq_true rfl) (congrArg Sum.inr (Sum.inr.inj z4))
abbrev rm_X4_none : Room := { frames := 2, cells := 1, slots := 7, locals := 44 }
theorem k_X4_none : gKc yX4_none cX4_none 4 (some .int) 1 := ⟨u610, u63, by decide +kernel, by decide +kernel, by decide +kernel⟩
set_option maxHeartbeats 4000000 in
set_option maxRecDepth 100000 in
theorem c_X4_none {l : Launch} {D : va_G} {Y : Nat → ClassId} {S : GS} {hs : Nat} {a0 : Nat} {x1 : Int32} {r : Int32} {S' : GS} {hs' : Nat} (h : f_X4_none S hs a0 x1 = some (.inl (r, S', hs'))) : gMet l yX4_none (gWs yX4_none cX4_none 4 (some .int)) rm_X4_none [va_rf (some a0), .int x1] D Y S hs (some (.int r)) S' hs' := by
  refine g_ofW (by decide +kernel) (Or.inl ⟨(Nat.le_of_ble_eq_true rfl), (List.forall_mem_cons.mpr ⟨rf_cat _, (List.forall_mem_cons.mpr ⟨rfl, (fun _ h => absurd h List.not_mem_nil)⟩)⟩)⟩) ?_
  intro p e s m args below meth c ls hsz hname hF hM hl
  have hl : lv_has ls 4 [(0, va_rf (some a0)), (1, .int x1)] := by rw [g_args [va_rf (some a0), .int x1] 0 (List.forall_mem_cons.mpr ⟨rf_cat _, (List.forall_mem_cons.mpr ⟨rfl, (fun _ h => absurd h List.not_mem_nil)⟩)⟩)] at hl; exact hl
  have hF : gF p s m args meth c RX4 cX4_none 4 (some .int) D Y (gA S hs) := hF
  have hx := hF.1
  have hb := hF.2.1
  have Jb44 : ∀ (k26 : GS → Nat → Int32 → Int32 → Option ((Int32 × GS × Nat) ⊕ Nat)) (hk26 : ∀ (T26 : GS) (m26 : Nat) (x2 : Int32) (x3 : Int32), k26 T26 m26 x2 x3 = some (.inl (r, S', hs')) → ∀ (H : Heap) (locs : List Loc) (ls : Array Slot), gM D Y (gA S hs) s.heap T26 m26 H locs → lv_has ls 4 [(0, va_rf (some a0)), (2, .int x2), (3, .int x3)] → W p l e rm_X4_none s m args below meth c H locs 1 7 (MQ below (gQ (some (.int r)) D Y S' hs' (gA S hs)) args s rm_X4_none.cells rm_X4_none.slots (gA S hs)) (F0 m 26 ls [])) (T44 : GS) (m44 : Nat) (x2 : Int32) (x3 : Int32), f_X4_none_b44 k26 a0 T44 m44 x2 x3 = some (.inl (r, S', hs')) → ∀ (H : Heap) (locs : List Loc) (ls : Array Slot), gM D Y (gA S hs) s.heap T44 m44 H locs → lv_has ls 4 [(0, va_rf (some a0)), (2, .int x2), (3, .int x3)] → W p l e rm_X4_none s m args below meth c H locs 1 7 (MQ below (gQ (some (.int r)) D Y S' hs' (gA S hs)) args s rm_X4_none.cells rm_X4_none.slots (gA S hs)) (F0 m 44 ls []) := by
    intro k26 hk26 T44 m44 x2 x3 h H locs ls hM hl
    unfold f_X4_none_b44 at h
    refine lv_iinc (v := (x3 + 1)) (lv' := [(3, .int (x3 + 1)), (0, va_rf (some a0)), (2, .int x2)]) hx hb dX4_none_44 hl (k := 2) rfl rfl (by decide) rfl (fun ls hl => ?_)
    refine lv_goto (tgt := 26) hx hb dX4_none_47 (by decide) ?_
    refine W.widen (k := 1) (n := 7) (Nat.le_of_ble_eq_true rfl) (Nat.le_of_ble_eq_true rfl) ?_
    exact hk26 _ _ _ _ h _ _ _ hM (lv_sub hl [1, 2, 0] rfl)
  have JL26 : ∀ (n : Nat) (T26 : GS) (m26 : Nat) (x2 : Int32) (x3 : Int32), f_X4_none_L26 a0 n T26 m26 x2 x3 = some (.inl (r, S', hs')) → ∀ (H : Heap) (locs : List Loc) (ls : Array Slot), gM D Y (gA S hs) s.heap T26 m26 H locs → lv_has ls 4 [(0, va_rf (some a0)), (2, .int x2), (3, .int x3)] → W p l e rm_X4_none s m args below meth c H locs 1 7 (MQ below (gQ (some (.int r)) D Y S' hs' (gA S hs)) args s rm_X4_none.cells rm_X4_none.slots (gA S hs)) (F0 m 26 ls []) := by
    intro n
    induction n with
    | zero => intro T26 m26 x2 x3 h; unfold f_X4_none_L26 at h; exact nomatch h
    | succ n ih =>
      intro T26 m26 x2 x3 h H locs ls hM hl
      unfold f_X4_none_L26 at h
      refine lv_iload_n hx hb dX4_none_26 rfl (lv_at hl 2 rfl) ?_
      refine lv_bipush (v := 12) hx hb dX4_none_27 (by decide) ?_
      refine lv_icmp_ge (tgt := 50) hx hb dX4_none_29 (by decide) (fun c14 => ?_) (fun c14 => ?_)
      · replace h := (if_pos c14).symm.trans h
        refine lv_iload_n hx hb dX4_none_50 rfl (lv_at hl 1 rfl) ?_
        obtain ⟨q1, q2⟩ := Prod.mk.inj (Sum.inl.inj (Option.some.inj h))
        obtain ⟨q2, q3⟩ := Prod.mk.inj q2
        rw [← q1, ← q2, ← q3]
        exact g_iret hF hM rfl rfl dX4_none_51 (Nat.le_of_ble_eq_true rfl) (Nat.le_of_ble_eq_true rfl)
      · replace h := (if_neg c14).symm.trans h
        refine g_aload_n hx hb dX4_none_32 rfl (lv_at hl 0 rfl) ?_
        have g := gbind h
        clear h
        obtain ⟨v15, e16, h⟩ := g
        refine g_getR hF hM fdX4 e16 (by decide) rfl u175 dX4_none_33 ?_
        refine lv_iload_n hx hb dX4_none_36 rfl (lv_at hl 2 rfl) ?_
        have g := gbind h
        clear h
        obtain ⟨v17, e18, h⟩ := g
        refine g_aald hF hM (by decide) e18 dX4_none_37 ?_
        refine g_ifnull (tgt := 44) hx hb dX4_none_38 (by decide) (fun c19 => ?_) (fun c19 => ?_)
        · replace h := (if_pos c19).symm.trans h
          refine W.widen (k := 1) (n := 7) (Nat.le_of_ble_eq_true rfl) (Nat.le_of_ble_eq_true rfl) ?_
          exact Jb44 _ ih _ _ _ _ h _ _ _ hM (lv_sub hl [0, 1, 2] rfl)
        · replace h := (if_neg c19).symm.trans h
          refine lv_iinc (v := (x2 + 1)) (lv' := [(2, .int (x2 + 1)), (0, va_rf (some a0)), (3, .int x3)]) hx hb dX4_none_41 hl (k := 1) rfl rfl (by decide) rfl (fun ls hl => ?_)
          refine W.widen (k := 1) (n := 7) (Nat.le_of_ble_eq_true rfl) (Nat.le_of_ble_eq_true rfl) ?_
          exact Jb44 _ ih _ _ _ _ h _ _ _ hM (lv_sub hl [1, 0, 2] rfl)
  unfold f_X4_none at h
  refine lv_iload_n hx hb dX4_none_0 rfl (lv_at hl 1 rfl) ?_
  have g := gthE h
  clear h
  rcases g with ⟨w2, e1, h⟩ | ⟨y3, e1, z4⟩
  · refine g_callS (As := [.int x1]) (rest := []) hF hM (c_X4_needPaneSlot e1) k_X4_needPaneSlot u493 u494 rfl hl.1 rfl (Nat.le_of_ble_eq_true rfl) dX4_none_1 ⟨(Nat.le_of_ble_eq_true rfl), (Nat.le_of_ble_eq_true rfl)⟩ ⟨(Nat.le_of_ble_eq_true rfl), (Nat.le_of_ble_eq_true rfl)⟩ (fun H locs hM => ?_)
    refine g_aload_n hx hb dX4_none_4 rfl (lv_at hl 0 rfl) ?_
    have g := gbind h
    clear h
    obtain ⟨v5, e6, h⟩ := g
    refine g_getR hF hM fdX4 e6 (by decide) rfl u175 dX4_none_5 ?_
    refine lv_iload_n hx hb dX4_none_8 rfl (lv_at hl 1 rfl) ?_
    have g := gbind h
    clear h
    obtain ⟨S7, e8, h⟩ := g
    refine g_new hF hM fdX1 u93 u95 u64 (Nat.le_of_ble_eq_true rfl) (Nat.le_of_ble_eq_true rfl) dX4_none_9 (fun H hM => ?_)
    have hM := hM.eq (Option.some.inj e8)
    refine lv_dup hx hb dX4_none_12 (rf_cat _) ?_
    refine lv_bipush (v := 101) hx hb dX4_none_13 (by decide) ?_
    refine lv_iconst (v := 0) hx hb dX4_none_15 (by decide) ?_
    refine lv_iconst (v := 0) hx hb dX4_none_16 (by decide) ?_
    refine lv_iconst (v := 0) hx hb dX4_none_17 (by decide) ?_
    have g := gbind h
    clear h
    obtain ⟨S10, e9, h⟩ := g
    refine g_callI (As := [.int 101, .int 0, .int 0, .int 0]) (rest := [va_rf (some hs), .int x1, va_rf v5]) hF hM (c_X1_init_ e9) k_X1_init_ u593 u594 rfl rfl hl.1 rfl (by simp [rf_cat, ic_cat, lc_cat]) dX4_none_18 ⟨(Nat.le_of_ble_eq_true rfl), (Nat.le_of_ble_eq_true rfl)⟩ ⟨(Nat.le_of_ble_eq_true rfl), (Nat.le_of_ble_eq_true rfl)⟩ (fun H locs hM => ?_)
    have g := gckE h
    clear h
    obtain ⟨q13, h⟩ := g
    have g := gbind h
    clear h
    obtain ⟨S11, e12, h⟩ := g
    refine g_aast hF hM e12 (gpn_of q13) dX4_none_21 (fun H locs hM => ?_)
    refine lv_iconst (v := 0) hx hb dX4_none_22 (by decide) ?_
    refine lv_istore_n (i := 2) (lv' := [(2, .int 0), (0, va_rf (some a0)), (1, .int x1)]) hx hb dX4_none_23 rfl hl (by decide) rfl (fun ls hl => ?_)
    refine lv_iconst (v := 4) hx hb dX4_none_24 (by decide) ?_
    refine lv_istore_n (i := 3) (lv' := [(3, .int 4), (2, .int 0), (0, va_rf (some a0)), (1, .int x1)]) hx hb dX4_none_25 rfl hl (by decide) rfl (fun ls hl => ?_)
    refine W.widen (k := 1) (n := 7) (Nat.le_of_ble_eq_true rfl) (Nat.le_of_ble_eq_true rfl) ?_
    exact JL26 gN _ _ _ _ h _ _ _ hM (lv_sub hl [2, 1, 0] rfl)
  · exact nomatch z4
abbrev rmx_X4_none : Room := { frames := 7, cells := 1, slots := 7, locals := 109 }
set_option maxHeartbeats 4000000 in
set_option maxRecDepth 100000 in
theorem cx_X4_none {l : Launch} {D : va_G} {Y : Nat → ClassId} {S : GS} {hs : Nat} {a0 : Nat} {x1 : Int32} {x : Nat} (hfl : l.stackTraces = false) (h : f_X4_none S hs a0 x1 = some (.inr x)) : gMx l yX4_none (gWs yX4_none cX4_none 4 (some .int)) rmx_X4_none [va_rf (some a0), .int x1] D Y S hs (.inr x) := by
  refine g_ofWx (by decide +kernel) (Or.inl ⟨(Nat.le_of_ble_eq_true rfl), (List.forall_mem_cons.mpr ⟨rf_cat _, (List.forall_mem_cons.mpr ⟨rfl, (fun _ h => absurd h List.not_mem_nil)⟩)⟩)⟩) ?_
  intro p e s m args below meth c ls hsz hout hF hM hl
  have hl : lv_has ls 4 [(0, va_rf (some a0)), (1, .int x1)] := by rw [g_args [va_rf (some a0), .int x1] 0 (List.forall_mem_cons.mpr ⟨rf_cat _, (List.forall_mem_cons.mpr ⟨rfl, (fun _ h => absurd h List.not_mem_nil)⟩)⟩)] at hl; exact hl
  have hF : gF p s m args meth c RX4 cX4_none 4 (some .int) D Y (gA S hs) := hF
  have hx := hF.1
  have hb := hF.2.1
  have Jb44 : ∀ (k26 : GS → Nat → Int32 → Int32 → Option ((Int32 × GS × Nat) ⊕ Nat)) (hk26 : ∀ (T26 : GS) (m26 : Nat) (x2 : Int32) (x3 : Int32), k26 T26 m26 x2 x3 = some (.inr x) → ∀ (H : Heap) (locs : List Loc) (ls : Array Slot), gM D Y (gA S hs) s.heap T26 m26 H locs → lv_has ls 4 [(0, va_rf (some a0)), (2, .int x2), (3, .int x3)] → W p l e rmx_X4_none s m args below meth c H locs 1 7 (vx_MQ below (gQz (.inr x) D Y (gA S hs)) (gXz (.inr x) D Y S (gA S hs)) args s rmx_X4_none.cells rmx_X4_none.slots (gA S hs)) (F0 m 26 ls [])) (T44 : GS) (m44 : Nat) (x2 : Int32) (x3 : Int32), f_X4_none_b44 k26 a0 T44 m44 x2 x3 = some (.inr x) → ∀ (H : Heap) (locs : List Loc) (ls : Array Slot), gM D Y (gA S hs) s.heap T44 m44 H locs → lv_has ls 4 [(0, va_rf (some a0)), (2, .int x2), (3, .int x3)] → W p l e rmx_X4_none s m args below meth c H locs 1 7 (vx_MQ below (gQz (.inr x) D Y (gA S hs)) (gXz (.inr x) D Y S (gA S hs)) args s rmx_X4_none.cells rmx_X4_none.slots (gA S hs)) (F0 m 44 ls []) := by
    intro k26 hk26 T44 m44 x2 x3 h H locs ls hM hl
    unfold f_X4_none_b44 at h
    refine lv_iinc (v := (x3 + 1)) (lv' := [(3, .int (x3 + 1)), (0, va_rf (some a0)), (2, .int x2)]) hx hb dX4_none_44 hl (k := 2) rfl rfl (by decide) rfl (fun ls hl => ?_)
    refine lv_goto (tgt := 26) hx hb dX4_none_47 (by decide) ?_
    refine W.widen (k := 1) (n := 7) (Nat.le_of_ble_eq_true rfl) (Nat.le_of_ble_eq_true rfl) ?_
    exact hk26 _ _ _ _ h _ _ _ hM (lv_sub hl [1, 2, 0] rfl)
  have JL26 : ∀ (n : Nat) (T26 : GS) (m26 : Nat) (x2 : Int32) (x3 : Int32), f_X4_none_L26 a0 n T26 m26 x2 x3 = some (.inr x) → ∀ (H : Heap) (locs : List Loc) (ls : Array Slot), gM D Y (gA S hs) s.heap T26 m26 H locs → lv_has ls 4 [(0, va_rf (some a0)), (2, .int x2), (3, .int x3)] → W p l e rmx_X4_none s m args below meth c H locs 1 7 (vx_MQ below (gQz (.inr x) D Y (gA S hs)) (gXz (.inr x) D Y S (gA S hs)) args s rmx_X4_none.cells rmx_X4_none.slots (gA S hs)) (F0 m 26 ls []) := by
    intro n
    induction n with
    | zero => intro T26 m26 x2 x3 h; unfold f_X4_none_L26 at h; exact nomatch h
    | succ n ih =>
      intro T26 m26 x2 x3 h H locs ls hM hl
      unfold f_X4_none_L26 at h
      refine lv_iload_n hx hb dX4_none_26 rfl (lv_at hl 2 rfl) ?_
      refine lv_bipush (v := 12) hx hb dX4_none_27 (by decide) ?_
      refine lv_icmp_ge (tgt := 50) hx hb dX4_none_29 (by decide) (fun c14 => ?_) (fun c14 => ?_)
      · replace h := (if_pos c14).symm.trans h
        refine lv_iload_n hx hb dX4_none_50 rfl (lv_at hl 1 rfl) ?_
        exact nomatch (Option.some.inj h)
      · replace h := (if_neg c14).symm.trans h
        refine g_aload_n hx hb dX4_none_32 rfl (lv_at hl 0 rfl) ?_
        have g := gbind h
        clear h
        obtain ⟨v15, e16, h⟩ := g
        refine g_getR hF hM fdX4 e16 (by decide) rfl u175 dX4_none_33 ?_
        refine lv_iload_n hx hb dX4_none_36 rfl (lv_at hl 2 rfl) ?_
        have g := gbind h
        clear h
        obtain ⟨v17, e18, h⟩ := g
        refine g_aald hF hM (by decide) e18 dX4_none_37 ?_
        refine g_ifnull (tgt := 44) hx hb dX4_none_38 (by decide) (fun c19 => ?_) (fun c19 => ?_)
        · replace h := (if_pos c19).symm.trans h
          refine W.widen (k := 1) (n := 7) (Nat.le_of_ble_eq_true rfl) (Nat.le_of_ble_eq_true rfl) ?_
          exact Jb44 _ ih _ _ _ _ h _ _ _ hM (lv_sub hl [0, 1, 2] rfl)
        · replace h := (if_neg c19).symm.trans h
          refine lv_iinc (v := (x2 + 1)) (lv' := [(2, .int (x2 + 1)), (0, va_rf (some a0)), (3, .int x3)]) hx hb dX4_none_41 hl (k := 1) rfl rfl (by decide) rfl (fun ls hl => ?_)
          refine W.widen (k := 1) (n := 7) (Nat.le_of_ble_eq_true rfl) (Nat.le_of_ble_eq_true rfl) ?_
          exact Jb44 _ ih _ _ _ _ h _ _ _ hM (lv_sub hl [1, 0, 2] rfl)
  unfold f_X4_none at h
  refine lv_iload_n hx hb dX4_none_0 rfl (lv_at hl 1 rfl) ?_
  have g := gthE h
  clear h
  rcases g with ⟨w2, e1, h⟩ | ⟨y3, e1, z4⟩
  · refine g_callS (As := [.int x1]) (rest := []) hF hM (c_X4_needPaneSlot e1) k_X4_needPaneSlot u493 u494 rfl hl.1 rfl (Nat.le_of_ble_eq_true rfl) dX4_none_1 ⟨(Nat.le_of_ble_eq_true rfl), (Nat.le_of_ble_eq_true rfl)⟩ ⟨(Nat.le_of_ble_eq_true rfl), (Nat.le_of_ble_eq_true rfl)⟩ (fun H locs hM => ?_)
    refine g_aload_n hx hb dX4_none_4 rfl (lv_at hl 0 rfl) ?_
    have g := gbind h
    clear h
    obtain ⟨v5, e6, h⟩ := g
    refine g_getR hF hM fdX4 e6 (by decide) rfl u175 dX4_none_5 ?_
    refine lv_iload_n hx hb dX4_none_8 rfl (lv_at hl 1 rfl) ?_
    have g := gbind h
    clear h
    obtain ⟨S7, e8, h⟩ := g
    refine g_new hF hM fdX1 u93 u95 u64 (Nat.le_of_ble_eq_true rfl) (Nat.le_of_ble_eq_true rfl) dX4_none_9 (fun H hM => ?_)
    have hM := hM.eq (Option.some.inj e8)
    refine lv_dup hx hb dX4_none_12 (rf_cat _) ?_
    refine lv_bipush (v := 101) hx hb dX4_none_13 (by decide) ?_
    refine lv_iconst (v := 0) hx hb dX4_none_15 (by decide) ?_
    refine lv_iconst (v := 0) hx hb dX4_none_16 (by decide) ?_
    refine lv_iconst (v := 0) hx hb dX4_none_17 (by decide) ?_
    have g := gbind h
    clear h
    obtain ⟨S10, e9, h⟩ := g
    refine g_callI (As := [.int 101, .int 0, .int 0, .int 0]) (rest := [va_rf (some hs), .int x1, va_rf v5]) hF hM (c_X1_init_ e9) k_X1_init_ u593 u594 rfl rfl hl.1 rfl (by simp [rf_cat, ic_cat, lc_cat]) dX4_none_18 ⟨(Nat.le_of_ble_eq_true rfl), (Nat.le_of_ble_eq_true rfl)⟩ ⟨(Nat.le_of_ble_eq_true rfl), (Nat.le_of_ble_eq_true rfl)⟩ (fun H locs hM => ?_)
    have g := gckE h
    clear h
    obtain ⟨q13, h⟩ := g
    have g := gbind h
    clear h
    obtain ⟨S11, e12, h⟩ := g
    refine g_aast hF hM e12 (gpn_of q13) dX4_none_21 (fun H locs hM => ?_)
    refine lv_iconst (v := 0) hx hb dX4_none_22 (by decide) ?_
    refine lv_istore_n (i := 2) (lv' := [(2, .int 0), (0, va_rf (some a0)), (1, .int x1)]) hx hb dX4_none_23 rfl hl (by decide) rfl (fun ls hl => ?_)
    refine lv_iconst (v := 4) hx hb dX4_none_24 (by decide) ?_
    refine lv_istore_n (i := 3) (lv' := [(3, .int 4), (2, .int 0), (0, va_rf (some a0)), (1, .int x1)]) hx hb dX4_none_25 rfl hl (by decide) rfl (fun ls hl => ?_)
    refine W.widen (k := 1) (n := 7) (Nat.le_of_ble_eq_true rfl) (Nat.le_of_ble_eq_true rfl) ?_
    exact JL26 gN _ _ _ _ h _ _ _ hM (lv_sub hl [2, 1, 0] rfl)
  · exact g_callSt (As := [.int x1]) (rest := []) hF hM hout (cx_X4_needPaneSlot hfl e1) k_X4_needPaneSlot u493 u494 rfl hl.1 rfl (Nat.le_of_ble_eq_true rfl) dX4_none_1 ⟨(Nat.le_of_ble_eq_true rfl), (Nat.le_of_ble_eq_true rfl)⟩ ⟨(Nat.le_of_ble_eq_true rfl), (Nat.le_of_ble_eq_true rfl)⟩ (Nat.le_of_ble_eq_true rfl) (Nat.le_of_ble_eq_true rfl) (congrArg Sum.inr (Sum.inr.inj z4))
abbrev rm_X4_needMap : Room := { frames := 1, cells := 0, slots := 0, locals := 21 }
theorem k_X4_needMap : gKc yX4_needMap cX4_needMap 3 (some (.object "Viewhouse$Pane")) 1 := ⟨u625, u63, by decide +kernel, by decide +kernel, by decide +kernel⟩
set_option maxHeartbeats 4000000 in
set_option maxRecDepth 100000 in
theorem c_X4_needMap {l : Launch} {D : va_G} {Y : Nat → ClassId} {S : GS} {hs : Nat} {a0 : Nat} {x1 : Int32} {r : Option Nat} (h : f_X4_needMap S a0 x1 = some (.inl r)) : gMet l yX4_needMap (gWs yX4_needMap cX4_needMap 3 (some (.object "Viewhouse$Pane"))) rm_X4_needMap [va_rf (some a0), .int x1] D Y S hs (some (va_rf r)) S hs := by
  refine g_ofW (by decide +kernel) (Or.inl ⟨(Nat.le_of_ble_eq_true rfl), (List.forall_mem_cons.mpr ⟨rf_cat _, (List.forall_mem_cons.mpr ⟨rfl, (fun _ h => absurd h List.not_mem_nil)⟩)⟩)⟩) ?_
  intro p e s m args below meth c ls hsz hname hF hM hl
  have hl : lv_has ls 3 [(0, va_rf (some a0)), (1, .int x1)] := by rw [g_args [va_rf (some a0), .int x1] 0 (List.forall_mem_cons.mpr ⟨rf_cat _, (List.forall_mem_cons.mpr ⟨rfl, (fun _ h => absurd h List.not_mem_nil)⟩)⟩)] at hl; exact hl
  have hF : gF p s m args meth c RX4 cX4_needMap 3 (some (.object "Viewhouse$Pane")) D Y (gA S hs) := hF
  have hx := hF.1
  have hb := hF.2.1
  unfold f_X4_needMap at h
  refine g_aload_n hx hb dX4_needMap_0 rfl (lv_at hl 0 rfl) ?_
  refine lv_iload_n hx hb dX4_needMap_1 rfl (lv_at hl 1 rfl) ?_
  have g := gckE h
  clear h
  obtain ⟨t1, h⟩ := g
  have t1 := eq_of_beq t1
  have g := gthE h
  clear h
  rcases g with ⟨v3, e2, h⟩ | ⟨y4, e2, z5⟩
  · refine g_callV (As := [.int x1]) (rest := []) hF hM (c_X4_held e2) k_X4_held u517 u519 u13 rfl rfl t1 rfl hl.1 rfl (Nat.le_of_ble_eq_true rfl) dX4_needMap_2 ⟨(Nat.le_of_ble_eq_true rfl), (Nat.le_of_ble_eq_true rfl)⟩ ⟨(Nat.le_of_ble_eq_true rfl), (Nat.le_of_ble_eq_true rfl)⟩ (fun H locs hM => ?_)
    refine g_astore_n (i := 2) (lv' := [(0, va_rf (some a0)), (1, .int x1)]) hx hb dX4_needMap_5 rfl hl (by decide) (fun v => rfl) (fun ls hl => ?_)
    refine g_aload_n hx hb dX4_needMap_6 rfl (lv_at hl 0 rfl) ?_
    refine g_ifnull (tgt := 17) hx hb dX4_needMap_7 (by decide) (fun c6 => ?_) (fun c6 => ?_)
    · replace h := (if_pos c6).symm.trans h
      exact nomatch (Option.some.inj h)
    · replace h := (if_neg c6).symm.trans h
      refine g_aload_n hx hb dX4_needMap_10 rfl (lv_at hl 0 rfl) ?_
      have g := gbind h
      clear h
      obtain ⟨a7, e8, h⟩ := g
      have t9 := (gtk_of e8).2
      rw [(gtk_of e8).1]
      have g := gbind h
      clear h
      obtain ⟨v11, e10, h⟩ := g
      refine g_callV (As := []) (rest := []) hF hM (c_X1_isMap e10) k_X1_isMap u626 u205 u206 rfl rfl t9 rfl hl.1 rfl (Nat.le_of_ble_eq_true rfl) dX4_needMap_11 ⟨(Nat.le_of_ble_eq_true rfl), (Nat.le_of_ble_eq_true rfl)⟩ ⟨(Nat.le_of_ble_eq_true rfl), (Nat.le_of_ble_eq_true rfl)⟩ (fun H locs hM => ?_)
      refine lv_if_ne (tgt := 25) hx hb dX4_needMap_14 (by decide) (fun c12 => ?_) (fun c12 => ?_)
      · replace h := (if_neg c12).symm.trans h
        refine g_aload_n hx hb dX4_needMap_25 rfl (lv_at hl 0 rfl) ?_
        rw [← (Sum.inl.inj (Option.some.inj h))]
        exact g_aret hF hM rfl (Or.inl ⟨_, rfl⟩) dX4_needMap_26 (Nat.le_of_ble_eq_true rfl) (Nat.le_of_ble_eq_true rfl)
      · replace h := (if_pos c12).symm.trans h
        exact nomatch (Option.some.inj h)
  · exact nomatch z5
abbrev rmx_X4_needMap : Room := { frames := 7, cells := 1, slots := 6, locals := 110 }
set_option maxHeartbeats 4000000 in
set_option maxRecDepth 100000 in
theorem cx_X4_needMap {l : Launch} {D : va_G} {Y : Nat → ClassId} {S : GS} {hs : Nat} {a0 : Nat} {x1 : Int32} {x : Nat} (hfl : l.stackTraces = false) (h : f_X4_needMap S a0 x1 = some (.inr x)) : gMx l yX4_needMap (gWs yX4_needMap cX4_needMap 3 (some (.object "Viewhouse$Pane"))) rmx_X4_needMap [va_rf (some a0), .int x1] D Y S hs (.inr x) := by
  refine g_ofWx (by decide +kernel) (Or.inl ⟨(Nat.le_of_ble_eq_true rfl), (List.forall_mem_cons.mpr ⟨rf_cat _, (List.forall_mem_cons.mpr ⟨rfl, (fun _ h => absurd h List.not_mem_nil)⟩)⟩)⟩) ?_
  intro p e s m args below meth c ls hsz hout hF hM hl
  have hl : lv_has ls 3 [(0, va_rf (some a0)), (1, .int x1)] := by rw [g_args [va_rf (some a0), .int x1] 0 (List.forall_mem_cons.mpr ⟨rf_cat _, (List.forall_mem_cons.mpr ⟨rfl, (fun _ h => absurd h List.not_mem_nil)⟩)⟩)] at hl; exact hl
  have hF : gF p s m args meth c RX4 cX4_needMap 3 (some (.object "Viewhouse$Pane")) D Y (gA S hs) := hF
  have hx := hF.1
  have hb := hF.2.1
  unfold f_X4_needMap at h
  refine g_aload_n hx hb dX4_needMap_0 rfl (lv_at hl 0 rfl) ?_
  refine lv_iload_n hx hb dX4_needMap_1 rfl (lv_at hl 1 rfl) ?_
  have g := gckE h
  clear h
  obtain ⟨t1, h⟩ := g
  have t1 := eq_of_beq t1
  have g := gthE h
  clear h
  rcases g with ⟨v3, e2, h⟩ | ⟨y4, e2, z5⟩
  · refine g_callV (As := [.int x1]) (rest := []) hF hM (c_X4_held e2) k_X4_held u517 u519 u13 rfl rfl t1 rfl hl.1 rfl (Nat.le_of_ble_eq_true rfl) dX4_needMap_2 ⟨(Nat.le_of_ble_eq_true rfl), (Nat.le_of_ble_eq_true rfl)⟩ ⟨(Nat.le_of_ble_eq_true rfl), (Nat.le_of_ble_eq_true rfl)⟩ (fun H locs hM => ?_)
    refine g_astore_n (i := 2) (lv' := [(0, va_rf (some a0)), (1, .int x1)]) hx hb dX4_needMap_5 rfl hl (by decide) (fun v => rfl) (fun ls hl => ?_)
    refine g_aload_n hx hb dX4_needMap_6 rfl (lv_at hl 0 rfl) ?_
    refine g_ifnull (tgt := 17) hx hb dX4_needMap_7 (by decide) (fun c6 => ?_) (fun c6 => ?_)
    · replace h := (if_pos c6).symm.trans h
      exact g_throw hF hM hfl hout ew_X4_50_52 (congrArg Sum.inr (Sum.inr.inj (Option.some.inj h)).symm) hl.1 dX4_needMap_17 dX4_needMap_20 dX4_needMap_21 dX4_needMap_24 (Nat.le_of_ble_eq_true rfl) (Nat.le_of_ble_eq_true rfl) (Nat.le_of_ble_eq_true rfl) (Nat.le_of_ble_eq_true rfl) (Nat.le_of_ble_eq_true rfl) (Nat.le_of_ble_eq_true rfl)
    · replace h := (if_neg c6).symm.trans h
      refine g_aload_n hx hb dX4_needMap_10 rfl (lv_at hl 0 rfl) ?_
      have g := gbind h
      clear h
      obtain ⟨a7, e8, h⟩ := g
      have t9 := (gtk_of e8).2
      rw [(gtk_of e8).1]
      have g := gbind h
      clear h
      obtain ⟨v11, e10, h⟩ := g
      refine g_callV (As := []) (rest := []) hF hM (c_X1_isMap e10) k_X1_isMap u626 u205 u206 rfl rfl t9 rfl hl.1 rfl (Nat.le_of_ble_eq_true rfl) dX4_needMap_11 ⟨(Nat.le_of_ble_eq_true rfl), (Nat.le_of_ble_eq_true rfl)⟩ ⟨(Nat.le_of_ble_eq_true rfl), (Nat.le_of_ble_eq_true rfl)⟩ (fun H locs hM => ?_)
      refine lv_if_ne (tgt := 25) hx hb dX4_needMap_14 (by decide) (fun c12 => ?_) (fun c12 => ?_)
      · replace h := (if_neg c12).symm.trans h
        refine g_aload_n hx hb dX4_needMap_25 rfl (lv_at hl 0 rfl) ?_
        exact nomatch (Option.some.inj h)
      · replace h := (if_pos c12).symm.trans h
        exact g_throw hF hM hfl hout ew_X4_50_52 (congrArg Sum.inr (Sum.inr.inj (Option.some.inj h)).symm) hl.1 dX4_needMap_17 dX4_needMap_20 dX4_needMap_21 dX4_needMap_24 (Nat.le_of_ble_eq_true rfl) (Nat.le_of_ble_eq_true rfl) (Nat.le_of_ble_eq_true rfl) (Nat.le_of_ble_eq_true rfl) (Nat.le_of_ble_eq_true rfl) (Nat.le_of_ble_eq_true rfl)
  · exact g_callVt (As := [.int x1]) (rest := []) hF hM hout (cx_X4_held hfl e2) k_X4_held u517 u519 u13 rfl rfl t1 rfl hl.1 rfl (Nat.le_of_ble_eq_true rfl) dX4_needMap_2 ⟨(Nat.le_of_ble_eq_true rfl), (Nat.le_of_ble_eq_true rfl)⟩ ⟨(Nat.le_of_ble_eq_true rfl), (Nat.le_of_ble_eq_true rfl)⟩ (Nat.le_of_ble_eq_true rfl) (Nat.le_of_ble_eq_true rfl) (congrArg Sum.inr (Sum.inr.inj z5))
abbrev rm_X4_lookOnMap : Room := { frames := 2, cells := 1, slots := 7, locals := 44 }
theorem k_X4_lookOnMap : gKc yX4_lookOnMap cX4_lookOnMap 5 (some .int) 3 := ⟨u621, u63, by decide +kernel, by decide +kernel, by decide +kernel⟩
set_option maxHeartbeats 4000000 in
set_option maxRecDepth 100000 in
theorem c_X4_lookOnMap {l : Launch} {D : va_G} {Y : Nat → ClassId} {S : GS} {hs : Nat} {a0 : Nat} {x1 : Int32} {x2 : Int32} {x3 : Int32} {r : Int32} {S' : GS} {hs' : Nat} (h : f_X4_lookOnMap S hs a0 x1 x2 x3 = some (.inl (r, S', hs'))) : gMet l yX4_lookOnMap (gWs yX4_lookOnMap cX4_lookOnMap 5 (some .int)) rm_X4_lookOnMap [va_rf (some a0), .int x1, .int x2, .int x3] D Y S hs (some (.int r)) S' hs' := by
  refine g_ofW (by decide +kernel) (Or.inl ⟨(Nat.le_of_ble_eq_true rfl), (List.forall_mem_cons.mpr ⟨rf_cat _, (List.forall_mem_cons.mpr ⟨rfl, (List.forall_mem_cons.mpr ⟨rfl, (List.forall_mem_cons.mpr ⟨rfl, (fun _ h => absurd h List.not_mem_nil)⟩)⟩)⟩)⟩)⟩) ?_
  intro p e s m args below meth c ls hsz hname hF hM hl
  have hl : lv_has ls 5 [(0, va_rf (some a0)), (1, .int x1), (2, .int x2), (3, .int x3)] := by rw [g_args [va_rf (some a0), .int x1, .int x2, .int x3] 0 (List.forall_mem_cons.mpr ⟨rf_cat _, (List.forall_mem_cons.mpr ⟨rfl, (List.forall_mem_cons.mpr ⟨rfl, (List.forall_mem_cons.mpr ⟨rfl, (fun _ h => absurd h List.not_mem_nil)⟩)⟩)⟩)⟩)] at hl; exact hl
  have hF : gF p s m args meth c RX4 cX4_lookOnMap 5 (some .int) D Y (gA S hs) := hF
  have hx := hF.1
  have hb := hF.2.1
  unfold f_X4_lookOnMap at h
  refine lv_iload_n hx hb dX4_lookOnMap_0 rfl (lv_at hl 1 rfl) ?_
  have g := gthE h
  clear h
  rcases g with ⟨w2, e1, h⟩ | ⟨y3, e1, z4⟩
  · refine g_callS (As := [.int x1]) (rest := []) hF hM (c_X4_needPaneSlot e1) k_X4_needPaneSlot u493 u494 rfl hl.1 rfl (Nat.le_of_ble_eq_true rfl) dX4_lookOnMap_1 ⟨(Nat.le_of_ble_eq_true rfl), (Nat.le_of_ble_eq_true rfl)⟩ ⟨(Nat.le_of_ble_eq_true rfl), (Nat.le_of_ble_eq_true rfl)⟩ (fun H locs hM => ?_)
    refine g_aload_n hx hb dX4_lookOnMap_4 rfl (lv_at hl 0 rfl) ?_
    refine lv_iload_n hx hb dX4_lookOnMap_5 rfl (lv_at hl 2 rfl) ?_
    have g := gckE h
    clear h
    obtain ⟨t5, h⟩ := g
    have t5 := eq_of_beq t5
    have g := gthE h
    clear h
    rcases g with ⟨v7, e6, h⟩ | ⟨y8, e6, z9⟩
    · refine g_callV (As := [.int x2]) (rest := []) hF hM (c_X4_needMap e6) k_X4_needMap u622 u624 u15 rfl rfl t5 rfl hl.1 rfl (Nat.le_of_ble_eq_true rfl) dX4_lookOnMap_6 ⟨(Nat.le_of_ble_eq_true rfl), (Nat.le_of_ble_eq_true rfl)⟩ ⟨(Nat.le_of_ble_eq_true rfl), (Nat.le_of_ble_eq_true rfl)⟩ (fun H locs hM => ?_)
      refine g_astore (i := 4) (lv' := [(0, va_rf (some a0)), (1, .int x1), (2, .int x2), (3, .int x3)]) hx hb dX4_lookOnMap_9 hl (by decide) (fun v => rfl) (fun ls hl => ?_)
      refine g_aload_n hx hb dX4_lookOnMap_11 rfl (lv_at hl 1 rfl) ?_
      have g := gbind h
      clear h
      obtain ⟨v10, e11, h⟩ := g
      refine g_getR hF hM fdX4 e11 (by decide) rfl u175 dX4_lookOnMap_12 ?_
      refine lv_iload_n hx hb dX4_lookOnMap_15 rfl (lv_at hl 2 rfl) ?_
      have g := gbind h
      clear h
      obtain ⟨S12, e13, h⟩ := g
      refine g_new hF hM fdX1 u93 u95 u64 (Nat.le_of_ble_eq_true rfl) (Nat.le_of_ble_eq_true rfl) dX4_lookOnMap_16 (fun H hM => ?_)
      have hM := hM.eq (Option.some.inj e13)
      refine lv_dup hx hb dX4_lookOnMap_19 (rf_cat _) ?_
      refine lv_iload_n hx hb dX4_lookOnMap_20 rfl (lv_at hl 4 rfl) ?_
      refine g_aload hx hb dX4_lookOnMap_21 (lv_at hl 0 rfl) ?_
      have g := gbind h
      clear h
      obtain ⟨v14, e15, h⟩ := g
      refine g_getI hF hM fdX1 e15 (by decide) rfl u133 dX4_lookOnMap_23 ?_
      refine g_aload hx hb dX4_lookOnMap_26 (lv_at hl 0 rfl) ?_
      have g := gbind h
      clear h
      obtain ⟨v16, e17, h⟩ := g
      refine g_getR hF hM fdX1 e17 (by decide) rfl u135 dX4_lookOnMap_28 ?_
      refine g_null hx hb dX4_lookOnMap_31 ?_
      have g := gbind h
      clear h
      obtain ⟨S19, e18, h⟩ := g
      refine g_callI (As := [.int x3, .int v14, va_rf v16, va_rf none]) (rest := [va_rf (some hs), .int x1, va_rf v10]) hF hM (c_X1_init e18) k_X1_init u126 u127 rfl rfl hl.1 rfl (by simp [rf_cat, ic_cat, lc_cat]) dX4_lookOnMap_32 ⟨(Nat.le_of_ble_eq_true rfl), (Nat.le_of_ble_eq_true rfl)⟩ ⟨(Nat.le_of_ble_eq_true rfl), (Nat.le_of_ble_eq_true rfl)⟩ (fun H locs hM => ?_)
      have g := gckE h
      clear h
      obtain ⟨q22, h⟩ := g
      have g := gbind h
      clear h
      obtain ⟨S20, e21, h⟩ := g
      refine g_aast hF hM e21 (gpn_of q22) dX4_lookOnMap_35 (fun H locs hM => ?_)
      refine g_aload hx hb dX4_lookOnMap_36 (lv_at hl 0 rfl) ?_
      have g := gbind h
      clear h
      obtain ⟨a23, e24, h⟩ := g
      have t25 := (gtk_of e24).2
      rw [(gtk_of e24).1]
      have g := gbind h
      clear h
      obtain ⟨v27, e26, h⟩ := g
      refine g_callV (As := []) (rest := []) hF hM (c_X1_count e26) k_X1_count u195 u196 u197 rfl rfl t25 rfl hl.1 rfl (Nat.le_of_ble_eq_true rfl) dX4_lookOnMap_38 ⟨(Nat.le_of_ble_eq_true rfl), (Nat.le_of_ble_eq_true rfl)⟩ ⟨(Nat.le_of_ble_eq_true rfl), (Nat.le_of_ble_eq_true rfl)⟩ (fun H locs hM => ?_)
      obtain ⟨q1, q2⟩ := Prod.mk.inj (Sum.inl.inj (Option.some.inj h))
      obtain ⟨q2, q3⟩ := Prod.mk.inj q2
      rw [← q1, ← q2, ← q3]
      exact g_iret hF hM rfl rfl dX4_lookOnMap_41 (Nat.le_of_ble_eq_true rfl) (Nat.le_of_ble_eq_true rfl)
    · exact nomatch z9
  · exact nomatch z4
abbrev rmx_X4_lookOnMap : Room := { frames := 8, cells := 1, slots := 7, locals := 132 }
set_option maxHeartbeats 4000000 in
set_option maxRecDepth 100000 in
theorem cx_X4_lookOnMap {l : Launch} {D : va_G} {Y : Nat → ClassId} {S : GS} {hs : Nat} {a0 : Nat} {x1 : Int32} {x2 : Int32} {x3 : Int32} {x : Nat} (hfl : l.stackTraces = false) (h : f_X4_lookOnMap S hs a0 x1 x2 x3 = some (.inr x)) : gMx l yX4_lookOnMap (gWs yX4_lookOnMap cX4_lookOnMap 5 (some .int)) rmx_X4_lookOnMap [va_rf (some a0), .int x1, .int x2, .int x3] D Y S hs (.inr x) := by
  refine g_ofWx (by decide +kernel) (Or.inl ⟨(Nat.le_of_ble_eq_true rfl), (List.forall_mem_cons.mpr ⟨rf_cat _, (List.forall_mem_cons.mpr ⟨rfl, (List.forall_mem_cons.mpr ⟨rfl, (List.forall_mem_cons.mpr ⟨rfl, (fun _ h => absurd h List.not_mem_nil)⟩)⟩)⟩)⟩)⟩) ?_
  intro p e s m args below meth c ls hsz hout hF hM hl
  have hl : lv_has ls 5 [(0, va_rf (some a0)), (1, .int x1), (2, .int x2), (3, .int x3)] := by rw [g_args [va_rf (some a0), .int x1, .int x2, .int x3] 0 (List.forall_mem_cons.mpr ⟨rf_cat _, (List.forall_mem_cons.mpr ⟨rfl, (List.forall_mem_cons.mpr ⟨rfl, (List.forall_mem_cons.mpr ⟨rfl, (fun _ h => absurd h List.not_mem_nil)⟩)⟩)⟩)⟩)] at hl; exact hl
  have hF : gF p s m args meth c RX4 cX4_lookOnMap 5 (some .int) D Y (gA S hs) := hF
  have hx := hF.1
  have hb := hF.2.1
  unfold f_X4_lookOnMap at h
  refine lv_iload_n hx hb dX4_lookOnMap_0 rfl (lv_at hl 1 rfl) ?_
  have g := gthE h
  clear h
  rcases g with ⟨w2, e1, h⟩ | ⟨y3, e1, z4⟩
  · refine g_callS (As := [.int x1]) (rest := []) hF hM (c_X4_needPaneSlot e1) k_X4_needPaneSlot u493 u494 rfl hl.1 rfl (Nat.le_of_ble_eq_true rfl) dX4_lookOnMap_1 ⟨(Nat.le_of_ble_eq_true rfl), (Nat.le_of_ble_eq_true rfl)⟩ ⟨(Nat.le_of_ble_eq_true rfl), (Nat.le_of_ble_eq_true rfl)⟩ (fun H locs hM => ?_)
    refine g_aload_n hx hb dX4_lookOnMap_4 rfl (lv_at hl 0 rfl) ?_
    refine lv_iload_n hx hb dX4_lookOnMap_5 rfl (lv_at hl 2 rfl) ?_
    have g := gckE h
    clear h
    obtain ⟨t5, h⟩ := g
    have t5 := eq_of_beq t5
    have g := gthE h
    clear h
    rcases g with ⟨v7, e6, h⟩ | ⟨y8, e6, z9⟩
    · refine g_callV (As := [.int x2]) (rest := []) hF hM (c_X4_needMap e6) k_X4_needMap u622 u624 u15 rfl rfl t5 rfl hl.1 rfl (Nat.le_of_ble_eq_true rfl) dX4_lookOnMap_6 ⟨(Nat.le_of_ble_eq_true rfl), (Nat.le_of_ble_eq_true rfl)⟩ ⟨(Nat.le_of_ble_eq_true rfl), (Nat.le_of_ble_eq_true rfl)⟩ (fun H locs hM => ?_)
      refine g_astore (i := 4) (lv' := [(0, va_rf (some a0)), (1, .int x1), (2, .int x2), (3, .int x3)]) hx hb dX4_lookOnMap_9 hl (by decide) (fun v => rfl) (fun ls hl => ?_)
      refine g_aload_n hx hb dX4_lookOnMap_11 rfl (lv_at hl 1 rfl) ?_
      have g := gbind h
      clear h
      obtain ⟨v10, e11, h⟩ := g
      refine g_getR hF hM fdX4 e11 (by decide) rfl u175 dX4_lookOnMap_12 ?_
      refine lv_iload_n hx hb dX4_lookOnMap_15 rfl (lv_at hl 2 rfl) ?_
      have g := gbind h
      clear h
      obtain ⟨S12, e13, h⟩ := g
      refine g_new hF hM fdX1 u93 u95 u64 (Nat.le_of_ble_eq_true rfl) (Nat.le_of_ble_eq_true rfl) dX4_lookOnMap_16 (fun H hM => ?_)
      have hM := hM.eq (Option.some.inj e13)
      refine lv_dup hx hb dX4_lookOnMap_19 (rf_cat _) ?_
      refine lv_iload_n hx hb dX4_lookOnMap_20 rfl (lv_at hl 4 rfl) ?_
      refine g_aload hx hb dX4_lookOnMap_21 (lv_at hl 0 rfl) ?_
      have g := gbind h
      clear h
      obtain ⟨v14, e15, h⟩ := g
      refine g_getI hF hM fdX1 e15 (by decide) rfl u133 dX4_lookOnMap_23 ?_
      refine g_aload hx hb dX4_lookOnMap_26 (lv_at hl 0 rfl) ?_
      have g := gbind h
      clear h
      obtain ⟨v16, e17, h⟩ := g
      refine g_getR hF hM fdX1 e17 (by decide) rfl u135 dX4_lookOnMap_28 ?_
      refine g_null hx hb dX4_lookOnMap_31 ?_
      have g := gbind h
      clear h
      obtain ⟨S19, e18, h⟩ := g
      refine g_callI (As := [.int x3, .int v14, va_rf v16, va_rf none]) (rest := [va_rf (some hs), .int x1, va_rf v10]) hF hM (c_X1_init e18) k_X1_init u126 u127 rfl rfl hl.1 rfl (by simp [rf_cat, ic_cat, lc_cat]) dX4_lookOnMap_32 ⟨(Nat.le_of_ble_eq_true rfl), (Nat.le_of_ble_eq_true rfl)⟩ ⟨(Nat.le_of_ble_eq_true rfl), (Nat.le_of_ble_eq_true rfl)⟩ (fun H locs hM => ?_)
      have g := gckE h
      clear h
      obtain ⟨q22, h⟩ := g
      have g := gbind h
      clear h
      obtain ⟨S20, e21, h⟩ := g
      refine g_aast hF hM e21 (gpn_of q22) dX4_lookOnMap_35 (fun H locs hM => ?_)
      refine g_aload hx hb dX4_lookOnMap_36 (lv_at hl 0 rfl) ?_
      have g := gbind h
      clear h
      obtain ⟨a23, e24, h⟩ := g
      have t25 := (gtk_of e24).2
      rw [(gtk_of e24).1]
      have g := gbind h
      clear h
      obtain ⟨v27, e26, h⟩ := g
      refine g_callV (As := []) (rest := []) hF hM (c_X1_count e26) k_X1_count u195 u196 u197 rfl rfl t25 rfl hl.1 rfl (Nat.le_of_ble_eq_true rfl) dX4_lookOnMap_38 ⟨(Nat.le_of_ble_eq_true rfl), (Nat.le_of_ble_eq_true rfl)⟩ ⟨(Nat.le_of_ble_eq_true rfl), (Nat.le_of_ble_eq_true rfl)⟩ (fun H locs hM => ?_)
      exact nomatch (Option.some.inj h)
    · exact g_callVt (As := [.int x2]) (rest := []) hF hM hout (cx_X4_needMap hfl e6) k_X4_needMap u622 u624 u15 rfl rfl t5 rfl hl.1 rfl (Nat.le_of_ble_eq_true rfl) dX4_lookOnMap_6 ⟨(Nat.le_of_ble_eq_true rfl), (Nat.le_of_ble_eq_true rfl)⟩ ⟨(Nat.le_of_ble_eq_true rfl), (Nat.le_of_ble_eq_true rfl)⟩ (Nat.le_of_ble_eq_true rfl) (Nat.le_of_ble_eq_true rfl) (congrArg Sum.inr (Sum.inr.inj z9))
  · exact g_callSt (As := [.int x1]) (rest := []) hF hM hout (cx_X4_needPaneSlot hfl e1) k_X4_needPaneSlot u493 u494 rfl hl.1 rfl (Nat.le_of_ble_eq_true rfl) dX4_lookOnMap_1 ⟨(Nat.le_of_ble_eq_true rfl), (Nat.le_of_ble_eq_true rfl)⟩ ⟨(Nat.le_of_ble_eq_true rfl), (Nat.le_of_ble_eq_true rfl)⟩ (Nat.le_of_ble_eq_true rfl) (Nat.le_of_ble_eq_true rfl) (congrArg Sum.inr (Sum.inr.inj z4))
abbrev rm_X4_keys : Room := { frames := 3, cells := 1, slots := 7, locals := 68 }
theorem k_X4_keys : gKc yX4_keys cX4_keys 3 (some .int) 2 := ⟨u617, u63, by decide +kernel, by decide +kernel, by decide +kernel⟩
set_option maxHeartbeats 4000000 in
set_option maxRecDepth 100000 in
theorem c_X4_keys {l : Launch} {D : va_G} {Y : Nat → ClassId} {S : GS} {hs : Nat} {a0 : Nat} {x1 : Int32} {x2 : Int32} {r : Int32} {S' : GS} {hs' : Nat} (h : f_X4_keys S hs a0 x1 x2 = some (.inl (r, S', hs'))) : gMet l yX4_keys (gWs yX4_keys cX4_keys 3 (some .int)) rm_X4_keys [va_rf (some a0), .int x1, .int x2] D Y S hs (some (.int r)) S' hs' := by
  refine g_ofW (by decide +kernel) (Or.inl ⟨(Nat.le_of_ble_eq_true rfl), (List.forall_mem_cons.mpr ⟨rf_cat _, (List.forall_mem_cons.mpr ⟨rfl, (List.forall_mem_cons.mpr ⟨rfl, (fun _ h => absurd h List.not_mem_nil)⟩)⟩)⟩)⟩) ?_
  intro p e s m args below meth c ls hsz hname hF hM hl
  have hl : lv_has ls 3 [(0, va_rf (some a0)), (1, .int x1), (2, .int x2)] := by rw [g_args [va_rf (some a0), .int x1, .int x2] 0 (List.forall_mem_cons.mpr ⟨rf_cat _, (List.forall_mem_cons.mpr ⟨rfl, (List.forall_mem_cons.mpr ⟨rfl, (fun _ h => absurd h List.not_mem_nil)⟩)⟩)⟩)] at hl; exact hl
  have hF : gF p s m args meth c RX4 cX4_keys 3 (some .int) D Y (gA S hs) := hF
  have hx := hF.1
  have hb := hF.2.1
  unfold f_X4_keys at h
  refine g_aload_n hx hb dX4_keys_0 rfl (lv_at hl 0 rfl) ?_
  refine lv_iload_n hx hb dX4_keys_1 rfl (lv_at hl 1 rfl) ?_
  refine lv_iload_n hx hb dX4_keys_2 rfl (lv_at hl 2 rfl) ?_
  refine lv_bipush (v := 107) hx hb dX4_keys_3 (by decide) ?_
  have g := gckE h
  clear h
  obtain ⟨t1, h⟩ := g
  have t1 := eq_of_beq t1
  have g := gth3E h
  clear h
  rcases g with ⟨v3, S4, n5, e2, h⟩ | ⟨y6, e2, z7⟩
  · refine g_callV (As := [.int x1, .int x2, .int 107]) (rest := []) hF hM (c_X4_lookOnMap e2) k_X4_lookOnMap u618 u620 u14 rfl rfl t1 rfl hl.1 rfl (Nat.le_of_ble_eq_true rfl) dX4_keys_5 ⟨(Nat.le_of_ble_eq_true rfl), (Nat.le_of_ble_eq_true rfl)⟩ ⟨(Nat.le_of_ble_eq_true rfl), (Nat.le_of_ble_eq_true rfl)⟩ (fun H locs hM => ?_)
    obtain ⟨q1, q2⟩ := Prod.mk.inj (Sum.inl.inj (Option.some.inj h))
    obtain ⟨q2, q3⟩ := Prod.mk.inj q2
    rw [← q1, ← q2, ← q3]
    exact g_iret hF hM rfl rfl dX4_keys_8 (Nat.le_of_ble_eq_true rfl) (Nat.le_of_ble_eq_true rfl)
  · exact nomatch z7
abbrev rmx_X4_keys : Room := { frames := 9, cells := 1, slots := 7, locals := 156 }
set_option maxHeartbeats 4000000 in
set_option maxRecDepth 100000 in
theorem cx_X4_keys {l : Launch} {D : va_G} {Y : Nat → ClassId} {S : GS} {hs : Nat} {a0 : Nat} {x1 : Int32} {x2 : Int32} {x : Nat} (hfl : l.stackTraces = false) (h : f_X4_keys S hs a0 x1 x2 = some (.inr x)) : gMx l yX4_keys (gWs yX4_keys cX4_keys 3 (some .int)) rmx_X4_keys [va_rf (some a0), .int x1, .int x2] D Y S hs (.inr x) := by
  refine g_ofWx (by decide +kernel) (Or.inl ⟨(Nat.le_of_ble_eq_true rfl), (List.forall_mem_cons.mpr ⟨rf_cat _, (List.forall_mem_cons.mpr ⟨rfl, (List.forall_mem_cons.mpr ⟨rfl, (fun _ h => absurd h List.not_mem_nil)⟩)⟩)⟩)⟩) ?_
  intro p e s m args below meth c ls hsz hout hF hM hl
  have hl : lv_has ls 3 [(0, va_rf (some a0)), (1, .int x1), (2, .int x2)] := by rw [g_args [va_rf (some a0), .int x1, .int x2] 0 (List.forall_mem_cons.mpr ⟨rf_cat _, (List.forall_mem_cons.mpr ⟨rfl, (List.forall_mem_cons.mpr ⟨rfl, (fun _ h => absurd h List.not_mem_nil)⟩)⟩)⟩)] at hl; exact hl
  have hF : gF p s m args meth c RX4 cX4_keys 3 (some .int) D Y (gA S hs) := hF
  have hx := hF.1
  have hb := hF.2.1
  unfold f_X4_keys at h
  refine g_aload_n hx hb dX4_keys_0 rfl (lv_at hl 0 rfl) ?_
  refine lv_iload_n hx hb dX4_keys_1 rfl (lv_at hl 1 rfl) ?_
  refine lv_iload_n hx hb dX4_keys_2 rfl (lv_at hl 2 rfl) ?_
  refine lv_bipush (v := 107) hx hb dX4_keys_3 (by decide) ?_
  have g := gckE h
  clear h
  obtain ⟨t1, h⟩ := g
  have t1 := eq_of_beq t1
  have g := gth3E h
  clear h
  rcases g with ⟨v3, S4, n5, e2, h⟩ | ⟨y6, e2, z7⟩
  · refine g_callV (As := [.int x1, .int x2, .int 107]) (rest := []) hF hM (c_X4_lookOnMap e2) k_X4_lookOnMap u618 u620 u14 rfl rfl t1 rfl hl.1 rfl (Nat.le_of_ble_eq_true rfl) dX4_keys_5 ⟨(Nat.le_of_ble_eq_true rfl), (Nat.le_of_ble_eq_true rfl)⟩ ⟨(Nat.le_of_ble_eq_true rfl), (Nat.le_of_ble_eq_true rfl)⟩ (fun H locs hM => ?_)
    exact nomatch (Option.some.inj h)
  · exact g_callVt (As := [.int x1, .int x2, .int 107]) (rest := []) hF hM hout (cx_X4_lookOnMap hfl e2) k_X4_lookOnMap u618 u620 u14 rfl rfl t1 rfl hl.1 rfl (Nat.le_of_ble_eq_true rfl) dX4_keys_5 ⟨(Nat.le_of_ble_eq_true rfl), (Nat.le_of_ble_eq_true rfl)⟩ ⟨(Nat.le_of_ble_eq_true rfl), (Nat.le_of_ble_eq_true rfl)⟩ (Nat.le_of_ble_eq_true rfl) (Nat.le_of_ble_eq_true rfl) (congrArg Sum.inr (Sum.inr.inj z7))
abbrev rm_X4_values : Room := { frames := 3, cells := 1, slots := 7, locals := 68 }
theorem k_X4_values : gKc yX4_values cX4_values 3 (some .int) 2 := ⟨u633, u63, by decide +kernel, by decide +kernel, by decide +kernel⟩
set_option maxHeartbeats 4000000 in
set_option maxRecDepth 100000 in
theorem c_X4_values {l : Launch} {D : va_G} {Y : Nat → ClassId} {S : GS} {hs : Nat} {a0 : Nat} {x1 : Int32} {x2 : Int32} {r : Int32} {S' : GS} {hs' : Nat} (h : f_X4_values S hs a0 x1 x2 = some (.inl (r, S', hs'))) : gMet l yX4_values (gWs yX4_values cX4_values 3 (some .int)) rm_X4_values [va_rf (some a0), .int x1, .int x2] D Y S hs (some (.int r)) S' hs' := by
  refine g_ofW (by decide +kernel) (Or.inl ⟨(Nat.le_of_ble_eq_true rfl), (List.forall_mem_cons.mpr ⟨rf_cat _, (List.forall_mem_cons.mpr ⟨rfl, (List.forall_mem_cons.mpr ⟨rfl, (fun _ h => absurd h List.not_mem_nil)⟩)⟩)⟩)⟩) ?_
  intro p e s m args below meth c ls hsz hname hF hM hl
  have hl : lv_has ls 3 [(0, va_rf (some a0)), (1, .int x1), (2, .int x2)] := by rw [g_args [va_rf (some a0), .int x1, .int x2] 0 (List.forall_mem_cons.mpr ⟨rf_cat _, (List.forall_mem_cons.mpr ⟨rfl, (List.forall_mem_cons.mpr ⟨rfl, (fun _ h => absurd h List.not_mem_nil)⟩)⟩)⟩)] at hl; exact hl
  have hF : gF p s m args meth c RX4 cX4_values 3 (some .int) D Y (gA S hs) := hF
  have hx := hF.1
  have hb := hF.2.1
  unfold f_X4_values at h
  refine g_aload_n hx hb dX4_values_0 rfl (lv_at hl 0 rfl) ?_
  refine lv_iload_n hx hb dX4_values_1 rfl (lv_at hl 1 rfl) ?_
  refine lv_iload_n hx hb dX4_values_2 rfl (lv_at hl 2 rfl) ?_
  refine lv_bipush (v := 118) hx hb dX4_values_3 (by decide) ?_
  have g := gckE h
  clear h
  obtain ⟨t1, h⟩ := g
  have t1 := eq_of_beq t1
  have g := gth3E h
  clear h
  rcases g with ⟨v3, S4, n5, e2, h⟩ | ⟨y6, e2, z7⟩
  · refine g_callV (As := [.int x1, .int x2, .int 118]) (rest := []) hF hM (c_X4_lookOnMap e2) k_X4_lookOnMap u618 u620 u14 rfl rfl t1 rfl hl.1 rfl (Nat.le_of_ble_eq_true rfl) dX4_values_5 ⟨(Nat.le_of_ble_eq_true rfl), (Nat.le_of_ble_eq_true rfl)⟩ ⟨(Nat.le_of_ble_eq_true rfl), (Nat.le_of_ble_eq_true rfl)⟩ (fun H locs hM => ?_)
    obtain ⟨q1, q2⟩ := Prod.mk.inj (Sum.inl.inj (Option.some.inj h))
    obtain ⟨q2, q3⟩ := Prod.mk.inj q2
    rw [← q1, ← q2, ← q3]
    exact g_iret hF hM rfl rfl dX4_values_8 (Nat.le_of_ble_eq_true rfl) (Nat.le_of_ble_eq_true rfl)
  · exact nomatch z7
abbrev rmx_X4_values : Room := { frames := 9, cells := 1, slots := 7, locals := 156 }
set_option maxHeartbeats 4000000 in
set_option maxRecDepth 100000 in
theorem cx_X4_values {l : Launch} {D : va_G} {Y : Nat → ClassId} {S : GS} {hs : Nat} {a0 : Nat} {x1 : Int32} {x2 : Int32} {x : Nat} (hfl : l.stackTraces = false) (h : f_X4_values S hs a0 x1 x2 = some (.inr x)) : gMx l yX4_values (gWs yX4_values cX4_values 3 (some .int)) rmx_X4_values [va_rf (some a0), .int x1, .int x2] D Y S hs (.inr x) := by
  refine g_ofWx (by decide +kernel) (Or.inl ⟨(Nat.le_of_ble_eq_true rfl), (List.forall_mem_cons.mpr ⟨rf_cat _, (List.forall_mem_cons.mpr ⟨rfl, (List.forall_mem_cons.mpr ⟨rfl, (fun _ h => absurd h List.not_mem_nil)⟩)⟩)⟩)⟩) ?_
  intro p e s m args below meth c ls hsz hout hF hM hl
  have hl : lv_has ls 3 [(0, va_rf (some a0)), (1, .int x1), (2, .int x2)] := by rw [g_args [va_rf (some a0), .int x1, .int x2] 0 (List.forall_mem_cons.mpr ⟨rf_cat _, (List.forall_mem_cons.mpr ⟨rfl, (List.forall_mem_cons.mpr ⟨rfl, (fun _ h => absurd h List.not_mem_nil)⟩)⟩)⟩)] at hl; exact hl
  have hF : gF p s m args meth c RX4 cX4_values 3 (some .int) D Y (gA S hs) := hF
  have hx := hF.1
  have hb := hF.2.1
  unfold f_X4_values at h
  refine g_aload_n hx hb dX4_values_0 rfl (lv_at hl 0 rfl) ?_
  refine lv_iload_n hx hb dX4_values_1 rfl (lv_at hl 1 rfl) ?_
  refine lv_iload_n hx hb dX4_values_2 rfl (lv_at hl 2 rfl) ?_
  refine lv_bipush (v := 118) hx hb dX4_values_3 (by decide) ?_
  have g := gckE h
  clear h
  obtain ⟨t1, h⟩ := g
  have t1 := eq_of_beq t1
  have g := gth3E h
  clear h
  rcases g with ⟨v3, S4, n5, e2, h⟩ | ⟨y6, e2, z7⟩
  · refine g_callV (As := [.int x1, .int x2, .int 118]) (rest := []) hF hM (c_X4_lookOnMap e2) k_X4_lookOnMap u618 u620 u14 rfl rfl t1 rfl hl.1 rfl (Nat.le_of_ble_eq_true rfl) dX4_values_5 ⟨(Nat.le_of_ble_eq_true rfl), (Nat.le_of_ble_eq_true rfl)⟩ ⟨(Nat.le_of_ble_eq_true rfl), (Nat.le_of_ble_eq_true rfl)⟩ (fun H locs hM => ?_)
    exact nomatch (Option.some.inj h)
  · exact g_callVt (As := [.int x1, .int x2, .int 118]) (rest := []) hF hM hout (cx_X4_lookOnMap hfl e2) k_X4_lookOnMap u618 u620 u14 rfl rfl t1 rfl hl.1 rfl (Nat.le_of_ble_eq_true rfl) dX4_values_5 ⟨(Nat.le_of_ble_eq_true rfl), (Nat.le_of_ble_eq_true rfl)⟩ ⟨(Nat.le_of_ble_eq_true rfl), (Nat.le_of_ble_eq_true rfl)⟩ (Nat.le_of_ble_eq_true rfl) (Nat.le_of_ble_eq_true rfl) (congrArg Sum.inr (Sum.inr.inj z7))
abbrev rm_X4_kind : Room := { frames := 1, cells := 0, slots := 0, locals := 21 }
theorem k_X4_kind : gKc yX4_kind cX4_kind 3 (some .char) 1 := ⟨u640, u63, by decide +kernel, by decide +kernel, by decide +kernel⟩
set_option maxHeartbeats 4000000 in
set_option maxRecDepth 100000 in
theorem c_X4_kind {l : Launch} {D : va_G} {Y : Nat → ClassId} {S : GS} {hs : Nat} {a0 : Nat} {x1 : Int32} {r : Int32} (h : f_X4_kind S a0 x1 = some (.inl r)) : gMet l yX4_kind (gWs yX4_kind cX4_kind 3 (some .char)) rm_X4_kind [va_rf (some a0), .int x1] D Y S hs (some (.int r)) S hs := by
  refine g_ofW (by decide +kernel) (Or.inl ⟨(Nat.le_of_ble_eq_true rfl), (List.forall_mem_cons.mpr ⟨rf_cat _, (List.forall_mem_cons.mpr ⟨rfl, (fun _ h => absurd h List.not_mem_nil)⟩)⟩)⟩) ?_
  intro p e s m args below meth c ls hsz hname hF hM hl
  have hl : lv_has ls 3 [(0, va_rf (some a0)), (1, .int x1)] := by rw [g_args [va_rf (some a0), .int x1] 0 (List.forall_mem_cons.mpr ⟨rf_cat _, (List.forall_mem_cons.mpr ⟨rfl, (fun _ h => absurd h List.not_mem_nil)⟩)⟩)] at hl; exact hl
  have hF : gF p s m args meth c RX4 cX4_kind 3 (some .char) D Y (gA S hs) := hF
  have hx := hF.1
  have hb := hF.2.1
  unfold f_X4_kind at h
  refine g_aload_n hx hb dX4_kind_0 rfl (lv_at hl 0 rfl) ?_
  refine lv_iload_n hx hb dX4_kind_1 rfl (lv_at hl 1 rfl) ?_
  have g := gckE h
  clear h
  obtain ⟨t1, h⟩ := g
  have t1 := eq_of_beq t1
  have g := gthE h
  clear h
  rcases g with ⟨v3, e2, h⟩ | ⟨y4, e2, z5⟩
  · refine g_callV (As := [.int x1]) (rest := []) hF hM (c_X4_held e2) k_X4_held u517 u519 u13 rfl rfl t1 rfl hl.1 rfl (Nat.le_of_ble_eq_true rfl) dX4_kind_2 ⟨(Nat.le_of_ble_eq_true rfl), (Nat.le_of_ble_eq_true rfl)⟩ ⟨(Nat.le_of_ble_eq_true rfl), (Nat.le_of_ble_eq_true rfl)⟩ (fun H locs hM => ?_)
    refine g_astore_n (i := 2) (lv' := [(0, va_rf (some a0)), (1, .int x1)]) hx hb dX4_kind_5 rfl hl (by decide) (fun v => rfl) (fun ls hl => ?_)
    refine g_aload_n hx hb dX4_kind_6 rfl (lv_at hl 0 rfl) ?_
    refine g_ifnonnull (tgt := 15) hx hb dX4_kind_7 (by decide) (fun c6 => ?_) (fun c6 => ?_)
    · replace h := (if_neg c6).symm.trans h
      refine g_aload_n hx hb dX4_kind_15 rfl (lv_at hl 0 rfl) ?_
      have g := gbind h
      clear h
      obtain ⟨v7, e8, h⟩ := g
      refine g_getI hF hM fdX1 e8 (by decide) rfl u131 dX4_kind_16 ?_
      have g := gckE h
      clear h
      obtain ⟨q9, h⟩ := g
      rw [← (Sum.inl.inj (Option.some.inj h))]
      exact g_iret hF hM rfl (gnr_of (Or.inr (Or.inr rfl)) q9).1 dX4_kind_19 (Nat.le_of_ble_eq_true rfl) (Nat.le_of_ble_eq_true rfl)
    · replace h := (if_pos c6).symm.trans h
      refine lv_bipush (v := 45) hx hb dX4_kind_10 (by decide) ?_
      refine lv_goto (tgt := 19) hx hb dX4_kind_12 (by decide) ?_
      rw [← (Sum.inl.inj (Option.some.inj h))]
      exact g_iret hF hM rfl rfl dX4_kind_19 (Nat.le_of_ble_eq_true rfl) (Nat.le_of_ble_eq_true rfl)
  · exact nomatch z5
abbrev rmx_X4_kind : Room := { frames := 7, cells := 1, slots := 6, locals := 110 }
set_option maxHeartbeats 4000000 in
set_option maxRecDepth 100000 in
theorem cx_X4_kind {l : Launch} {D : va_G} {Y : Nat → ClassId} {S : GS} {hs : Nat} {a0 : Nat} {x1 : Int32} {x : Nat} (hfl : l.stackTraces = false) (h : f_X4_kind S a0 x1 = some (.inr x)) : gMx l yX4_kind (gWs yX4_kind cX4_kind 3 (some .char)) rmx_X4_kind [va_rf (some a0), .int x1] D Y S hs (.inr x) := by
  refine g_ofWx (by decide +kernel) (Or.inl ⟨(Nat.le_of_ble_eq_true rfl), (List.forall_mem_cons.mpr ⟨rf_cat _, (List.forall_mem_cons.mpr ⟨rfl, (fun _ h => absurd h List.not_mem_nil)⟩)⟩)⟩) ?_
  intro p e s m args below meth c ls hsz hout hF hM hl
  have hl : lv_has ls 3 [(0, va_rf (some a0)), (1, .int x1)] := by rw [g_args [va_rf (some a0), .int x1] 0 (List.forall_mem_cons.mpr ⟨rf_cat _, (List.forall_mem_cons.mpr ⟨rfl, (fun _ h => absurd h List.not_mem_nil)⟩)⟩)] at hl; exact hl
  have hF : gF p s m args meth c RX4 cX4_kind 3 (some .char) D Y (gA S hs) := hF
  have hx := hF.1
  have hb := hF.2.1
  unfold f_X4_kind at h
  refine g_aload_n hx hb dX4_kind_0 rfl (lv_at hl 0 rfl) ?_
  refine lv_iload_n hx hb dX4_kind_1 rfl (lv_at hl 1 rfl) ?_
  have g := gckE h
  clear h
  obtain ⟨t1, h⟩ := g
  have t1 := eq_of_beq t1
  have g := gthE h
  clear h
  rcases g with ⟨v3, e2, h⟩ | ⟨y4, e2, z5⟩
  · refine g_callV (As := [.int x1]) (rest := []) hF hM (c_X4_held e2) k_X4_held u517 u519 u13 rfl rfl t1 rfl hl.1 rfl (Nat.le_of_ble_eq_true rfl) dX4_kind_2 ⟨(Nat.le_of_ble_eq_true rfl), (Nat.le_of_ble_eq_true rfl)⟩ ⟨(Nat.le_of_ble_eq_true rfl), (Nat.le_of_ble_eq_true rfl)⟩ (fun H locs hM => ?_)
    refine g_astore_n (i := 2) (lv' := [(0, va_rf (some a0)), (1, .int x1)]) hx hb dX4_kind_5 rfl hl (by decide) (fun v => rfl) (fun ls hl => ?_)
    refine g_aload_n hx hb dX4_kind_6 rfl (lv_at hl 0 rfl) ?_
    refine g_ifnonnull (tgt := 15) hx hb dX4_kind_7 (by decide) (fun c6 => ?_) (fun c6 => ?_)
    · replace h := (if_neg c6).symm.trans h
      refine g_aload_n hx hb dX4_kind_15 rfl (lv_at hl 0 rfl) ?_
      have g := gbind h
      clear h
      obtain ⟨v7, e8, h⟩ := g
      refine g_getI hF hM fdX1 e8 (by decide) rfl u131 dX4_kind_16 ?_
      have g := gckE h
      clear h
      obtain ⟨q9, h⟩ := g
      exact nomatch (Option.some.inj h)
    · replace h := (if_pos c6).symm.trans h
      refine lv_bipush (v := 45) hx hb dX4_kind_10 (by decide) ?_
      refine lv_goto (tgt := 19) hx hb dX4_kind_12 (by decide) ?_
      exact nomatch (Option.some.inj h)
  · exact g_callVt (As := [.int x1]) (rest := []) hF hM hout (cx_X4_held hfl e2) k_X4_held u517 u519 u13 rfl rfl t1 rfl hl.1 rfl (Nat.le_of_ble_eq_true rfl) dX4_kind_2 ⟨(Nat.le_of_ble_eq_true rfl), (Nat.le_of_ble_eq_true rfl)⟩ ⟨(Nat.le_of_ble_eq_true rfl), (Nat.le_of_ble_eq_true rfl)⟩ (Nat.le_of_ble_eq_true rfl) (Nat.le_of_ble_eq_true rfl) (congrArg Sum.inr (Sum.inr.inj z5))
abbrev rm_X4_needSomething : Room := { frames := 1, cells := 0, slots := 0, locals := 21 }
theorem k_X4_needSomething : gKc yX4_needSomething cX4_needSomething 3 (some (.object "Viewhouse$Pane")) 1 := ⟨u651, u63, by decide +kernel, by decide +kernel, by decide +kernel⟩
set_option maxHeartbeats 4000000 in
set_option maxRecDepth 100000 in
theorem c_X4_needSomething {l : Launch} {D : va_G} {Y : Nat → ClassId} {S : GS} {hs : Nat} {a0 : Nat} {x1 : Int32} {r : Option Nat} (h : f_X4_needSomething S a0 x1 = some (.inl r)) : gMet l yX4_needSomething (gWs yX4_needSomething cX4_needSomething 3 (some (.object "Viewhouse$Pane"))) rm_X4_needSomething [va_rf (some a0), .int x1] D Y S hs (some (va_rf r)) S hs := by
  refine g_ofW (by decide +kernel) (Or.inl ⟨(Nat.le_of_ble_eq_true rfl), (List.forall_mem_cons.mpr ⟨rf_cat _, (List.forall_mem_cons.mpr ⟨rfl, (fun _ h => absurd h List.not_mem_nil)⟩)⟩)⟩) ?_
  intro p e s m args below meth c ls hsz hname hF hM hl
  have hl : lv_has ls 3 [(0, va_rf (some a0)), (1, .int x1)] := by rw [g_args [va_rf (some a0), .int x1] 0 (List.forall_mem_cons.mpr ⟨rf_cat _, (List.forall_mem_cons.mpr ⟨rfl, (fun _ h => absurd h List.not_mem_nil)⟩)⟩)] at hl; exact hl
  have hF : gF p s m args meth c RX4 cX4_needSomething 3 (some (.object "Viewhouse$Pane")) D Y (gA S hs) := hF
  have hx := hF.1
  have hb := hF.2.1
  unfold f_X4_needSomething at h
  refine g_aload_n hx hb dX4_needSomething_0 rfl (lv_at hl 0 rfl) ?_
  refine lv_iload_n hx hb dX4_needSomething_1 rfl (lv_at hl 1 rfl) ?_
  have g := gckE h
  clear h
  obtain ⟨t1, h⟩ := g
  have t1 := eq_of_beq t1
  have g := gthE h
  clear h
  rcases g with ⟨v3, e2, h⟩ | ⟨y4, e2, z5⟩
  · refine g_callV (As := [.int x1]) (rest := []) hF hM (c_X4_held e2) k_X4_held u517 u519 u13 rfl rfl t1 rfl hl.1 rfl (Nat.le_of_ble_eq_true rfl) dX4_needSomething_2 ⟨(Nat.le_of_ble_eq_true rfl), (Nat.le_of_ble_eq_true rfl)⟩ ⟨(Nat.le_of_ble_eq_true rfl), (Nat.le_of_ble_eq_true rfl)⟩ (fun H locs hM => ?_)
    refine g_astore_n (i := 2) (lv' := [(0, va_rf (some a0)), (1, .int x1)]) hx hb dX4_needSomething_5 rfl hl (by decide) (fun v => rfl) (fun ls hl => ?_)
    refine g_aload_n hx hb dX4_needSomething_6 rfl (lv_at hl 0 rfl) ?_
    refine g_ifnonnull (tgt := 18) hx hb dX4_needSomething_7 (by decide) (fun c6 => ?_) (fun c6 => ?_)
    · replace h := (if_neg c6).symm.trans h
      refine g_aload_n hx hb dX4_needSomething_18 rfl (lv_at hl 0 rfl) ?_
      rw [← (Sum.inl.inj (Option.some.inj h))]
      exact g_aret hF hM rfl (Or.inl ⟨_, rfl⟩) dX4_needSomething_19 (Nat.le_of_ble_eq_true rfl) (Nat.le_of_ble_eq_true rfl)
    · replace h := (if_pos c6).symm.trans h
      exact nomatch (Option.some.inj h)
  · exact nomatch z5
abbrev rmx_X4_needSomething : Room := { frames := 7, cells := 1, slots := 6, locals := 110 }
set_option maxHeartbeats 4000000 in
set_option maxRecDepth 100000 in
theorem cx_X4_needSomething {l : Launch} {D : va_G} {Y : Nat → ClassId} {S : GS} {hs : Nat} {a0 : Nat} {x1 : Int32} {x : Nat} (hfl : l.stackTraces = false) (h : f_X4_needSomething S a0 x1 = some (.inr x)) : gMx l yX4_needSomething (gWs yX4_needSomething cX4_needSomething 3 (some (.object "Viewhouse$Pane"))) rmx_X4_needSomething [va_rf (some a0), .int x1] D Y S hs (.inr x) := by
  refine g_ofWx (by decide +kernel) (Or.inl ⟨(Nat.le_of_ble_eq_true rfl), (List.forall_mem_cons.mpr ⟨rf_cat _, (List.forall_mem_cons.mpr ⟨rfl, (fun _ h => absurd h List.not_mem_nil)⟩)⟩)⟩) ?_
  intro p e s m args below meth c ls hsz hout hF hM hl
  have hl : lv_has ls 3 [(0, va_rf (some a0)), (1, .int x1)] := by rw [g_args [va_rf (some a0), .int x1] 0 (List.forall_mem_cons.mpr ⟨rf_cat _, (List.forall_mem_cons.mpr ⟨rfl, (fun _ h => absurd h List.not_mem_nil)⟩)⟩)] at hl; exact hl
  have hF : gF p s m args meth c RX4 cX4_needSomething 3 (some (.object "Viewhouse$Pane")) D Y (gA S hs) := hF
  have hx := hF.1
  have hb := hF.2.1
  unfold f_X4_needSomething at h
  refine g_aload_n hx hb dX4_needSomething_0 rfl (lv_at hl 0 rfl) ?_
  refine lv_iload_n hx hb dX4_needSomething_1 rfl (lv_at hl 1 rfl) ?_
  have g := gckE h
  clear h
  obtain ⟨t1, h⟩ := g
  have t1 := eq_of_beq t1
  have g := gthE h
  clear h
  rcases g with ⟨v3, e2, h⟩ | ⟨y4, e2, z5⟩
  · refine g_callV (As := [.int x1]) (rest := []) hF hM (c_X4_held e2) k_X4_held u517 u519 u13 rfl rfl t1 rfl hl.1 rfl (Nat.le_of_ble_eq_true rfl) dX4_needSomething_2 ⟨(Nat.le_of_ble_eq_true rfl), (Nat.le_of_ble_eq_true rfl)⟩ ⟨(Nat.le_of_ble_eq_true rfl), (Nat.le_of_ble_eq_true rfl)⟩ (fun H locs hM => ?_)
    refine g_astore_n (i := 2) (lv' := [(0, va_rf (some a0)), (1, .int x1)]) hx hb dX4_needSomething_5 rfl hl (by decide) (fun v => rfl) (fun ls hl => ?_)
    refine g_aload_n hx hb dX4_needSomething_6 rfl (lv_at hl 0 rfl) ?_
    refine g_ifnonnull (tgt := 18) hx hb dX4_needSomething_7 (by decide) (fun c6 => ?_) (fun c6 => ?_)
    · replace h := (if_neg c6).symm.trans h
      refine g_aload_n hx hb dX4_needSomething_18 rfl (lv_at hl 0 rfl) ?_
      exact nomatch (Option.some.inj h)
    · replace h := (if_pos c6).symm.trans h
      exact g_throw hF hM hfl hout ew_X4_50_52 (congrArg Sum.inr (Sum.inr.inj (Option.some.inj h)).symm) hl.1 dX4_needSomething_10 dX4_needSomething_13 dX4_needSomething_14 dX4_needSomething_17 (Nat.le_of_ble_eq_true rfl) (Nat.le_of_ble_eq_true rfl) (Nat.le_of_ble_eq_true rfl) (Nat.le_of_ble_eq_true rfl) (Nat.le_of_ble_eq_true rfl) (Nat.le_of_ble_eq_true rfl)
  · exact g_callVt (As := [.int x1]) (rest := []) hF hM hout (cx_X4_held hfl e2) k_X4_held u517 u519 u13 rfl rfl t1 rfl hl.1 rfl (Nat.le_of_ble_eq_true rfl) dX4_needSomething_2 ⟨(Nat.le_of_ble_eq_true rfl), (Nat.le_of_ble_eq_true rfl)⟩ ⟨(Nat.le_of_ble_eq_true rfl), (Nat.le_of_ble_eq_true rfl)⟩ (Nat.le_of_ble_eq_true rfl) (Nat.le_of_ble_eq_true rfl) (congrArg Sum.inr (Sum.inr.inj z5))
abbrev rm_X4_size : Room := { frames := 2, cells := 0, slots := 0, locals := 43 }
theorem k_X4_size : gKc yX4_size cX4_size 2 (some .int) 1 := ⟨u647, u63, by decide +kernel, by decide +kernel, by decide +kernel⟩
set_option maxHeartbeats 4000000 in
set_option maxRecDepth 100000 in
theorem c_X4_size {l : Launch} {D : va_G} {Y : Nat → ClassId} {S : GS} {hs : Nat} {a0 : Nat} {x1 : Int32} {r : Int32} (h : f_X4_size S a0 x1 = some (.inl r)) : gMet l yX4_size (gWs yX4_size cX4_size 2 (some .int)) rm_X4_size [va_rf (some a0), .int x1] D Y S hs (some (.int r)) S hs := by
  refine g_ofW (by decide +kernel) (Or.inl ⟨(Nat.le_of_ble_eq_true rfl), (List.forall_mem_cons.mpr ⟨rf_cat _, (List.forall_mem_cons.mpr ⟨rfl, (fun _ h => absurd h List.not_mem_nil)⟩)⟩)⟩) ?_
  intro p e s m args below meth c ls hsz hname hF hM hl
  have hl : lv_has ls 2 [(0, va_rf (some a0)), (1, .int x1)] := by rw [g_args [va_rf (some a0), .int x1] 0 (List.forall_mem_cons.mpr ⟨rf_cat _, (List.forall_mem_cons.mpr ⟨rfl, (fun _ h => absurd h List.not_mem_nil)⟩)⟩)] at hl; exact hl
  have hF : gF p s m args meth c RX4 cX4_size 2 (some .int) D Y (gA S hs) := hF
  have hx := hF.1
  have hb := hF.2.1
  unfold f_X4_size at h
  refine g_aload_n hx hb dX4_size_0 rfl (lv_at hl 0 rfl) ?_
  refine lv_iload_n hx hb dX4_size_1 rfl (lv_at hl 1 rfl) ?_
  have g := gckE h
  clear h
  obtain ⟨t1, h⟩ := g
  have t1 := eq_of_beq t1
  have g := gthE h
  clear h
  rcases g with ⟨v3, e2, h⟩ | ⟨y4, e2, z5⟩
  · refine g_callV (As := [.int x1]) (rest := []) hF hM (c_X4_needSomething e2) k_X4_needSomething u648 u650 u16 rfl rfl t1 rfl hl.1 rfl (Nat.le_of_ble_eq_true rfl) dX4_size_2 ⟨(Nat.le_of_ble_eq_true rfl), (Nat.le_of_ble_eq_true rfl)⟩ ⟨(Nat.le_of_ble_eq_true rfl), (Nat.le_of_ble_eq_true rfl)⟩ (fun H locs hM => ?_)
    have g := gbind h
    clear h
    obtain ⟨a6, e7, h⟩ := g
    have t8 := (gtk_of e7).2
    rw [(gtk_of e7).1]
    have g := gbind h
    clear h
    obtain ⟨v10, e9, h⟩ := g
    refine g_callV (As := []) (rest := []) hF hM (c_X1_count e9) k_X1_count u195 u196 u197 rfl rfl t8 rfl hl.1 rfl (Nat.le_of_ble_eq_true rfl) dX4_size_5 ⟨(Nat.le_of_ble_eq_true rfl), (Nat.le_of_ble_eq_true rfl)⟩ ⟨(Nat.le_of_ble_eq_true rfl), (Nat.le_of_ble_eq_true rfl)⟩ (fun H locs hM => ?_)
    rw [← (Sum.inl.inj (Option.some.inj h))]
    exact g_iret hF hM rfl rfl dX4_size_8 (Nat.le_of_ble_eq_true rfl) (Nat.le_of_ble_eq_true rfl)
  · exact nomatch z5
abbrev rmx_X4_size : Room := { frames := 8, cells := 1, slots := 6, locals := 132 }
set_option maxHeartbeats 4000000 in
set_option maxRecDepth 100000 in
theorem cx_X4_size {l : Launch} {D : va_G} {Y : Nat → ClassId} {S : GS} {hs : Nat} {a0 : Nat} {x1 : Int32} {x : Nat} (hfl : l.stackTraces = false) (h : f_X4_size S a0 x1 = some (.inr x)) : gMx l yX4_size (gWs yX4_size cX4_size 2 (some .int)) rmx_X4_size [va_rf (some a0), .int x1] D Y S hs (.inr x) := by
  refine g_ofWx (by decide +kernel) (Or.inl ⟨(Nat.le_of_ble_eq_true rfl), (List.forall_mem_cons.mpr ⟨rf_cat _, (List.forall_mem_cons.mpr ⟨rfl, (fun _ h => absurd h List.not_mem_nil)⟩)⟩)⟩) ?_
  intro p e s m args below meth c ls hsz hout hF hM hl
  have hl : lv_has ls 2 [(0, va_rf (some a0)), (1, .int x1)] := by rw [g_args [va_rf (some a0), .int x1] 0 (List.forall_mem_cons.mpr ⟨rf_cat _, (List.forall_mem_cons.mpr ⟨rfl, (fun _ h => absurd h List.not_mem_nil)⟩)⟩)] at hl; exact hl
  have hF : gF p s m args meth c RX4 cX4_size 2 (some .int) D Y (gA S hs) := hF
  have hx := hF.1
  have hb := hF.2.1
  unfold f_X4_size at h
  refine g_aload_n hx hb dX4_size_0 rfl (lv_at hl 0 rfl) ?_
  refine lv_iload_n hx hb dX4_size_1 rfl (lv_at hl 1 rfl) ?_
  have g := gckE h
  clear h
  obtain ⟨t1, h⟩ := g
  have t1 := eq_of_beq t1
  have g := gthE h
  clear h
  rcases g with ⟨v3, e2, h⟩ | ⟨y4, e2, z5⟩
  · refine g_callV (As := [.int x1]) (rest := []) hF hM (c_X4_needSomething e2) k_X4_needSomething u648 u650 u16 rfl rfl t1 rfl hl.1 rfl (Nat.le_of_ble_eq_true rfl) dX4_size_2 ⟨(Nat.le_of_ble_eq_true rfl), (Nat.le_of_ble_eq_true rfl)⟩ ⟨(Nat.le_of_ble_eq_true rfl), (Nat.le_of_ble_eq_true rfl)⟩ (fun H locs hM => ?_)
    have g := gbind h
    clear h
    obtain ⟨a6, e7, h⟩ := g
    have t8 := (gtk_of e7).2
    rw [(gtk_of e7).1]
    have g := gbind h
    clear h
    obtain ⟨v10, e9, h⟩ := g
    refine g_callV (As := []) (rest := []) hF hM (c_X1_count e9) k_X1_count u195 u196 u197 rfl rfl t8 rfl hl.1 rfl (Nat.le_of_ble_eq_true rfl) dX4_size_5 ⟨(Nat.le_of_ble_eq_true rfl), (Nat.le_of_ble_eq_true rfl)⟩ ⟨(Nat.le_of_ble_eq_true rfl), (Nat.le_of_ble_eq_true rfl)⟩ (fun H locs hM => ?_)
    exact nomatch (Option.some.inj h)
  · exact g_callVt (As := [.int x1]) (rest := []) hF hM hout (cx_X4_needSomething hfl e2) k_X4_needSomething u648 u650 u16 rfl rfl t1 rfl hl.1 rfl (Nat.le_of_ble_eq_true rfl) dX4_size_2 ⟨(Nat.le_of_ble_eq_true rfl), (Nat.le_of_ble_eq_true rfl)⟩ ⟨(Nat.le_of_ble_eq_true rfl), (Nat.le_of_ble_eq_true rfl)⟩ (Nat.le_of_ble_eq_true rfl) (Nat.le_of_ble_eq_true rfl) (congrArg Sum.inr (Sum.inr.inj z5))
abbrev rm_X4_walk : Room := { frames := 4, cells := 0, slots := 0, locals := 89 }
theorem k_X4_walk : gKc yX4_walk cX4_walk 4 (some .long) 2 := ⟨u658, u63, by decide +kernel, by decide +kernel, by decide +kernel⟩
set_option maxHeartbeats 4000000 in
set_option maxRecDepth 100000 in
theorem c_X4_walk {l : Launch} {D : va_G} {Y : Nat → ClassId} {S : GS} {hs : Nat} {a0 : Nat} {x1 : Int32} {x2 : Int32} {r : Int64} (h : f_X4_walk S a0 x1 x2 = some (.inl r)) : gMet l yX4_walk (gWs yX4_walk cX4_walk 4 (some .long)) rm_X4_walk [va_rf (some a0), .int x1, .int x2] D Y S hs (some (.long r)) S hs := by
  refine g_ofW (by decide +kernel) (Or.inl ⟨(Nat.le_of_ble_eq_true rfl), (List.forall_mem_cons.mpr ⟨rf_cat _, (List.forall_mem_cons.mpr ⟨rfl, (List.forall_mem_cons.mpr ⟨rfl, (fun _ h => absurd h List.not_mem_nil)⟩)⟩)⟩)⟩) ?_
  intro p e s m args below meth c ls hsz hname hF hM hl
  have hl : lv_has ls 4 [(0, va_rf (some a0)), (1, .int x1), (2, .int x2)] := by rw [g_args [va_rf (some a0), .int x1, .int x2] 0 (List.forall_mem_cons.mpr ⟨rf_cat _, (List.forall_mem_cons.mpr ⟨rfl, (List.forall_mem_cons.mpr ⟨rfl, (fun _ h => absurd h List.not_mem_nil)⟩)⟩)⟩)] at hl; exact hl
  have hF : gF p s m args meth c RX4 cX4_walk 4 (some .long) D Y (gA S hs) := hF
  have hx := hF.1
  have hb := hF.2.1
  have Jb25 : ∀ (x2 : Int32) (x3 : Option Nat), f_X4_walk_b25 S a0 x2 x3 = some (.inl r) → ∀ (H : Heap) (locs : List Loc) (ls : Array Slot), gM D Y (gA S hs) s.heap S hs H locs → lv_has ls 4 [(2, .int x2), (3, va_rf x3)] → W p l e rm_X4_walk s m args below meth c H locs 0 0 (MQ below (gQ (some (.long r)) D Y S hs (gA S hs)) args s rm_X4_walk.cells rm_X4_walk.slots (gA S hs)) (F0 m 25 ls []) := by
    intro x2 x3 h H locs ls hM hl
    unfold f_X4_walk_b25 at h
    refine g_aload_n hx hb dX4_walk_25 rfl (lv_at hl 1 rfl) ?_
    refine lv_ldc2 (v := 7) hx hb hF.2.2.2.1 (hF.2.2.2.2.1 _ u192) dX4_walk_26 ?_
    refine lv_iload_n hx hb dX4_walk_29 rfl (lv_at hl 0 rfl) ?_
    have g := gbind h
    clear h
    obtain ⟨a7, e8, h⟩ := g
    have t9 := (gtk_of e8).2
    rw [(gtk_of e8).1]
    have g := gbind h
    clear h
    obtain ⟨v11, e10, h⟩ := g
    refine g_callV (As := [.long 7, .int x2]) (rest := []) hF hM (c_X1_addAllTo e10) k_X1_addAllTo u199 u200 u201 rfl rfl t9 rfl hl.1 rfl (Nat.le_of_ble_eq_true rfl) dX4_walk_30 ⟨(Nat.le_of_ble_eq_true rfl), (Nat.le_of_ble_eq_true rfl)⟩ ⟨(Nat.le_of_ble_eq_true rfl), (Nat.le_of_ble_eq_true rfl)⟩ (fun H locs hM => ?_)
    rw [← (Sum.inl.inj (Option.some.inj h))]
    exact g_lret hF hM rfl dX4_walk_33 (Nat.le_of_ble_eq_true rfl) (Nat.le_of_ble_eq_true rfl)
  unfold f_X4_walk at h
  refine g_aload_n hx hb dX4_walk_0 rfl (lv_at hl 0 rfl) ?_
  refine lv_iload_n hx hb dX4_walk_1 rfl (lv_at hl 1 rfl) ?_
  have g := gckE h
  clear h
  obtain ⟨t1, h⟩ := g
  have t1 := eq_of_beq t1
  have g := gthE h
  clear h
  rcases g with ⟨v3, e2, h⟩ | ⟨y4, e2, z5⟩
  · refine g_callV (As := [.int x1]) (rest := []) hF hM (c_X4_needSomething e2) k_X4_needSomething u648 u650 u16 rfl rfl t1 rfl hl.1 rfl (Nat.le_of_ble_eq_true rfl) dX4_walk_2 ⟨(Nat.le_of_ble_eq_true rfl), (Nat.le_of_ble_eq_true rfl)⟩ ⟨(Nat.le_of_ble_eq_true rfl), (Nat.le_of_ble_eq_true rfl)⟩ (fun H locs hM => ?_)
    refine g_astore_n (i := 3) (lv' := [(0, va_rf (some a0)), (1, .int x1), (2, .int x2)]) hx hb dX4_walk_5 rfl hl (by decide) (fun v => rfl) (fun ls hl => ?_)
    refine lv_iload_n hx hb dX4_walk_6 rfl (lv_at hl 3 rfl) ?_
    refine lv_if_eq (tgt := 25) hx hb dX4_walk_7 (by decide) (fun c6 => ?_) (fun c6 => ?_)
    · replace h := (if_pos c6).symm.trans h
      refine W.widen (k := 0) (n := 0) (Nat.le_of_ble_eq_true rfl) (Nat.le_of_ble_eq_true rfl) ?_
      exact Jb25 _ _ h _ _ _ hM (lv_sub hl [3, 0] rfl)
    · replace h := (if_neg c6).symm.trans h
      refine g_aload_n hx hb dX4_walk_10 rfl (lv_at hl 0 rfl) ?_
      have g := gbind h
      clear h
      obtain ⟨a12, e13, h⟩ := g
      have t14 := (gtk_of e13).2
      rw [(gtk_of e13).1]
      have g := gbind h
      clear h
      obtain ⟨v16, e15, h⟩ := g
      refine g_callV (As := []) (rest := []) hF hM (c_X1_isList e15) k_X1_isList u659 u250 u251 rfl rfl t14 rfl hl.1 rfl (Nat.le_of_ble_eq_true rfl) dX4_walk_11 ⟨(Nat.le_of_ble_eq_true rfl), (Nat.le_of_ble_eq_true rfl)⟩ ⟨(Nat.le_of_ble_eq_true rfl), (Nat.le_of_ble_eq_true rfl)⟩ (fun H locs hM => ?_)
      refine lv_if_ne (tgt := 25) hx hb dX4_walk_14 (by decide) (fun c17 => ?_) (fun c17 => ?_)
      · replace h := (if_neg c17).symm.trans h
        refine W.widen (k := 0) (n := 0) (Nat.le_of_ble_eq_true rfl) (Nat.le_of_ble_eq_true rfl) ?_
        exact Jb25 _ _ h _ _ _ hM (lv_sub hl [3, 0] rfl)
      · replace h := (if_pos c17).symm.trans h
        exact nomatch (Option.some.inj h)
  · exact nomatch z5
abbrev rmx_X4_walk : Room := { frames := 8, cells := 1, slots := 6, locals := 132 }
set_option maxHeartbeats 4000000 in
set_option maxRecDepth 100000 in
theorem cx_X4_walk {l : Launch} {D : va_G} {Y : Nat → ClassId} {S : GS} {hs : Nat} {a0 : Nat} {x1 : Int32} {x2 : Int32} {x : Nat} (hfl : l.stackTraces = false) (h : f_X4_walk S a0 x1 x2 = some (.inr x)) : gMx l yX4_walk (gWs yX4_walk cX4_walk 4 (some .long)) rmx_X4_walk [va_rf (some a0), .int x1, .int x2] D Y S hs (.inr x) := by
  refine g_ofWx (by decide +kernel) (Or.inl ⟨(Nat.le_of_ble_eq_true rfl), (List.forall_mem_cons.mpr ⟨rf_cat _, (List.forall_mem_cons.mpr ⟨rfl, (List.forall_mem_cons.mpr ⟨rfl, (fun _ h => absurd h List.not_mem_nil)⟩)⟩)⟩)⟩) ?_
  intro p e s m args below meth c ls hsz hout hF hM hl
  have hl : lv_has ls 4 [(0, va_rf (some a0)), (1, .int x1), (2, .int x2)] := by rw [g_args [va_rf (some a0), .int x1, .int x2] 0 (List.forall_mem_cons.mpr ⟨rf_cat _, (List.forall_mem_cons.mpr ⟨rfl, (List.forall_mem_cons.mpr ⟨rfl, (fun _ h => absurd h List.not_mem_nil)⟩)⟩)⟩)] at hl; exact hl
  have hF : gF p s m args meth c RX4 cX4_walk 4 (some .long) D Y (gA S hs) := hF
  have hx := hF.1
  have hb := hF.2.1
  have Jb25 : ∀ (x2 : Int32) (x3 : Option Nat), f_X4_walk_b25 S a0 x2 x3 = some (.inr x) → ∀ (H : Heap) (locs : List Loc) (ls : Array Slot), gM D Y (gA S hs) s.heap S hs H locs → lv_has ls 4 [(2, .int x2), (3, va_rf x3)] → W p l e rmx_X4_walk s m args below meth c H locs 0 0 (vx_MQ below (gQz (.inr x) D Y (gA S hs)) (gXz (.inr x) D Y S (gA S hs)) args s rmx_X4_walk.cells rmx_X4_walk.slots (gA S hs)) (F0 m 25 ls []) := by
    intro x2 x3 h H locs ls hM hl
    unfold f_X4_walk_b25 at h
    refine g_aload_n hx hb dX4_walk_25 rfl (lv_at hl 1 rfl) ?_
    refine lv_ldc2 (v := 7) hx hb hF.2.2.2.1 (hF.2.2.2.2.1 _ u192) dX4_walk_26 ?_
    refine lv_iload_n hx hb dX4_walk_29 rfl (lv_at hl 0 rfl) ?_
    have g := gbind h
    clear h
    obtain ⟨a7, e8, h⟩ := g
    have t9 := (gtk_of e8).2
    rw [(gtk_of e8).1]
    have g := gbind h
    clear h
    obtain ⟨v11, e10, h⟩ := g
    refine g_callV (As := [.long 7, .int x2]) (rest := []) hF hM (c_X1_addAllTo e10) k_X1_addAllTo u199 u200 u201 rfl rfl t9 rfl hl.1 rfl (Nat.le_of_ble_eq_true rfl) dX4_walk_30 ⟨(Nat.le_of_ble_eq_true rfl), (Nat.le_of_ble_eq_true rfl)⟩ ⟨(Nat.le_of_ble_eq_true rfl), (Nat.le_of_ble_eq_true rfl)⟩ (fun H locs hM => ?_)
    exact nomatch (Option.some.inj h)
  unfold f_X4_walk at h
  refine g_aload_n hx hb dX4_walk_0 rfl (lv_at hl 0 rfl) ?_
  refine lv_iload_n hx hb dX4_walk_1 rfl (lv_at hl 1 rfl) ?_
  have g := gckE h
  clear h
  obtain ⟨t1, h⟩ := g
  have t1 := eq_of_beq t1
  have g := gthE h
  clear h
  rcases g with ⟨v3, e2, h⟩ | ⟨y4, e2, z5⟩
  · refine g_callV (As := [.int x1]) (rest := []) hF hM (c_X4_needSomething e2) k_X4_needSomething u648 u650 u16 rfl rfl t1 rfl hl.1 rfl (Nat.le_of_ble_eq_true rfl) dX4_walk_2 ⟨(Nat.le_of_ble_eq_true rfl), (Nat.le_of_ble_eq_true rfl)⟩ ⟨(Nat.le_of_ble_eq_true rfl), (Nat.le_of_ble_eq_true rfl)⟩ (fun H locs hM => ?_)
    refine g_astore_n (i := 3) (lv' := [(0, va_rf (some a0)), (1, .int x1), (2, .int x2)]) hx hb dX4_walk_5 rfl hl (by decide) (fun v => rfl) (fun ls hl => ?_)
    refine lv_iload_n hx hb dX4_walk_6 rfl (lv_at hl 3 rfl) ?_
    refine lv_if_eq (tgt := 25) hx hb dX4_walk_7 (by decide) (fun c6 => ?_) (fun c6 => ?_)
    · replace h := (if_pos c6).symm.trans h
      refine W.widen (k := 0) (n := 0) (Nat.le_of_ble_eq_true rfl) (Nat.le_of_ble_eq_true rfl) ?_
      exact Jb25 _ _ h _ _ _ hM (lv_sub hl [3, 0] rfl)
    · replace h := (if_neg c6).symm.trans h
      refine g_aload_n hx hb dX4_walk_10 rfl (lv_at hl 0 rfl) ?_
      have g := gbind h
      clear h
      obtain ⟨a12, e13, h⟩ := g
      have t14 := (gtk_of e13).2
      rw [(gtk_of e13).1]
      have g := gbind h
      clear h
      obtain ⟨v16, e15, h⟩ := g
      refine g_callV (As := []) (rest := []) hF hM (c_X1_isList e15) k_X1_isList u659 u250 u251 rfl rfl t14 rfl hl.1 rfl (Nat.le_of_ble_eq_true rfl) dX4_walk_11 ⟨(Nat.le_of_ble_eq_true rfl), (Nat.le_of_ble_eq_true rfl)⟩ ⟨(Nat.le_of_ble_eq_true rfl), (Nat.le_of_ble_eq_true rfl)⟩ (fun H locs hM => ?_)
      refine lv_if_ne (tgt := 25) hx hb dX4_walk_14 (by decide) (fun c17 => ?_) (fun c17 => ?_)
      · replace h := (if_neg c17).symm.trans h
        refine W.widen (k := 0) (n := 0) (Nat.le_of_ble_eq_true rfl) (Nat.le_of_ble_eq_true rfl) ?_
        exact Jb25 _ _ h _ _ _ hM (lv_sub hl [3, 0] rfl)
      · replace h := (if_pos c17).symm.trans h
        exact g_throw hF hM hfl hout ew_X4_57_59 (congrArg Sum.inr (Sum.inr.inj (Option.some.inj h)).symm) hl.1 dX4_walk_17 dX4_walk_20 dX4_walk_21 dX4_walk_24 (Nat.le_of_ble_eq_true rfl) (Nat.le_of_ble_eq_true rfl) (Nat.le_of_ble_eq_true rfl) (Nat.le_of_ble_eq_true rfl) (Nat.le_of_ble_eq_true rfl) (Nat.le_of_ble_eq_true rfl)
  · exact g_callVt (As := [.int x1]) (rest := []) hF hM hout (cx_X4_needSomething hfl e2) k_X4_needSomething u648 u650 u16 rfl rfl t1 rfl hl.1 rfl (Nat.le_of_ble_eq_true rfl) dX4_walk_2 ⟨(Nat.le_of_ble_eq_true rfl), (Nat.le_of_ble_eq_true rfl)⟩ ⟨(Nat.le_of_ble_eq_true rfl), (Nat.le_of_ble_eq_true rfl)⟩ (Nat.le_of_ble_eq_true rfl) (Nat.le_of_ble_eq_true rfl) (congrArg Sum.inr (Sum.inr.inj z5))
abbrev rm_X4_isSame : Room := { frames := 5, cells := 0, slots := 0, locals := 109 }
theorem k_X4_isSame : gKc yX4_isSame cX4_isSame 5 (some .boolean) 2 := ⟨u666, u63, by decide +kernel, by decide +kernel, by decide +kernel⟩
set_option maxHeartbeats 4000000 in
set_option maxRecDepth 100000 in
theorem c_X4_isSame {l : Launch} {D : va_G} {Y : Nat → ClassId} {S : GS} {hs : Nat} {a0 : Nat} {x1 : Int32} {x2 : Int32} {r : Int32} (h : f_X4_isSame S a0 x1 x2 = some (.inl r)) : gMet l yX4_isSame (gWs yX4_isSame cX4_isSame 5 (some .boolean)) rm_X4_isSame [va_rf (some a0), .int x1, .int x2] D Y S hs (some (.int r)) S hs := by
  refine g_ofW (by decide +kernel) (Or.inl ⟨(Nat.le_of_ble_eq_true rfl), (List.forall_mem_cons.mpr ⟨rf_cat _, (List.forall_mem_cons.mpr ⟨rfl, (List.forall_mem_cons.mpr ⟨rfl, (fun _ h => absurd h List.not_mem_nil)⟩)⟩)⟩)⟩) ?_
  intro p e s m args below meth c ls hsz hname hF hM hl
  have hl : lv_has ls 5 [(0, va_rf (some a0)), (1, .int x1), (2, .int x2)] := by rw [g_args [va_rf (some a0), .int x1, .int x2] 0 (List.forall_mem_cons.mpr ⟨rf_cat _, (List.forall_mem_cons.mpr ⟨rfl, (List.forall_mem_cons.mpr ⟨rfl, (fun _ h => absurd h List.not_mem_nil)⟩)⟩)⟩)] at hl; exact hl
  have hF : gF p s m args meth c RX4 cX4_isSame 5 (some .boolean) D Y (gA S hs) := hF
  have hx := hF.1
  have hb := hF.2.1
  have Jb78 : ∀ (x3 : Option Nat) (x4 : Option Nat), f_X4_isSame_b78 S a0 x3 x4 = some (.inl r) → ∀ (H : Heap) (locs : List Loc) (ls : Array Slot), gM D Y (gA S hs) s.heap S hs H locs → lv_has ls 5 [(3, va_rf x3), (4, va_rf x4)] → W p l e rm_X4_isSame s m args below meth c H locs 0 0 (MQ below (gQ (some (.int r)) D Y S hs (gA S hs)) args s rm_X4_isSame.cells rm_X4_isSame.slots (gA S hs)) (F0 m 78 ls []) := by
    intro x3 x4 h H locs ls hM hl
    unfold f_X4_isSame_b78 at h
    refine g_aload_n hx hb dX4_isSame_78 rfl (lv_at hl 0 rfl) ?_
    have g := gbind h
    clear h
    obtain ⟨a22, e23, h⟩ := g
    have t24 := (gtk_of e23).2
    rw [(gtk_of e23).1]
    have g := gbind h
    clear h
    obtain ⟨v26, e25, h⟩ := g
    refine g_callV (As := []) (rest := []) hF hM (c_X1_isMap e25) k_X1_isMap u626 u205 u206 rfl rfl t24 rfl hl.1 rfl (Nat.le_of_ble_eq_true rfl) dX4_isSame_79 ⟨(Nat.le_of_ble_eq_true rfl), (Nat.le_of_ble_eq_true rfl)⟩ ⟨(Nat.le_of_ble_eq_true rfl), (Nat.le_of_ble_eq_true rfl)⟩ (fun H locs hM => ?_)
    refine lv_if_eq (tgt := 100) hx hb dX4_isSame_82 (by decide) (fun c27 => ?_) (fun c27 => ?_)
    · replace h := (if_pos c27).symm.trans h
      exact nomatch (Option.some.inj h)
    · replace h := (if_neg c27).symm.trans h
      refine g_aload hx hb dX4_isSame_85 (lv_at hl 1 rfl) ?_
      have g := gbind h
      clear h
      obtain ⟨a28, e29, h⟩ := g
      have t30 := (gtk_of e29).2
      rw [(gtk_of e29).1]
      have g := gbind h
      clear h
      obtain ⟨v32, e31, h⟩ := g
      refine g_callV (As := []) (rest := []) hF hM (c_X1_isMap e31) k_X1_isMap u626 u205 u206 rfl rfl t30 rfl hl.1 rfl (Nat.le_of_ble_eq_true rfl) dX4_isSame_87 ⟨(Nat.le_of_ble_eq_true rfl), (Nat.le_of_ble_eq_true rfl)⟩ ⟨(Nat.le_of_ble_eq_true rfl), (Nat.le_of_ble_eq_true rfl)⟩ (fun H locs hM => ?_)
      refine lv_if_eq (tgt := 100) hx hb dX4_isSame_90 (by decide) (fun c33 => ?_) (fun c33 => ?_)
      · replace h := (if_pos c33).symm.trans h
        exact nomatch (Option.some.inj h)
      · replace h := (if_neg c33).symm.trans h
        refine g_aload_n hx hb dX4_isSame_93 rfl (lv_at hl 0 rfl) ?_
        refine g_aload hx hb dX4_isSame_94 (lv_at hl 1 rfl) ?_
        have g := gbind h
        clear h
        obtain ⟨a34, e35, h⟩ := g
        have t36 := (gtk_of e35).2
        rw [(gtk_of e35).1]
        have g := gbind h
        clear h
        obtain ⟨v38, e37, h⟩ := g
        refine g_callV (As := [va_rf x4]) (rest := []) hF hM (c_X1_isMapLike e37) k_X1_isMapLike u672 u396 u397 rfl rfl t36 rfl hl.1 rfl (Nat.le_of_ble_eq_true rfl) dX4_isSame_96 ⟨(Nat.le_of_ble_eq_true rfl), (Nat.le_of_ble_eq_true rfl)⟩ ⟨(Nat.le_of_ble_eq_true rfl), (Nat.le_of_ble_eq_true rfl)⟩ (fun H locs hM => ?_)
        have g := gckE h
        clear h
        obtain ⟨q39, h⟩ := g
        rw [← (Sum.inl.inj (Option.some.inj h))]
        exact g_iret hF hM rfl (gnr_of (Or.inr (Or.inl rfl)) q39).1 dX4_isSame_99 (Nat.le_of_ble_eq_true rfl) (Nat.le_of_ble_eq_true rfl)
  have Jb52 : ∀ (x3 : Option Nat) (x4 : Option Nat), f_X4_isSame_b52 S a0 x3 x4 = some (.inl r) → ∀ (H : Heap) (locs : List Loc) (ls : Array Slot), gM D Y (gA S hs) s.heap S hs H locs → lv_has ls 5 [(3, va_rf x3), (4, va_rf x4)] → W p l e rm_X4_isSame s m args below meth c H locs 0 0 (MQ below (gQ (some (.int r)) D Y S hs (gA S hs)) args s rm_X4_isSame.cells rm_X4_isSame.slots (gA S hs)) (F0 m 52 ls []) := by
    intro x3 x4 h H locs ls hM hl
    unfold f_X4_isSame_b52 at h
    refine g_aload_n hx hb dX4_isSame_52 rfl (lv_at hl 0 rfl) ?_
    have g := gbind h
    clear h
    obtain ⟨v19, e20, h⟩ := g
    refine g_getI hF hM fdX1 e20 (by decide) rfl u131 dX4_isSame_53 ?_
    refine lv_bipush (v := 107) hx hb dX4_isSame_56 (by decide) ?_
    refine lv_icmp_ne (tgt := 78) hx hb dX4_isSame_58 (by decide) (fun c21 => ?_) (fun c21 => ?_)
    · replace h := (if_neg c21).symm.trans h
      refine W.widen (k := 0) (n := 0) (Nat.le_of_ble_eq_true rfl) (Nat.le_of_ble_eq_true rfl) ?_
      exact Jb78 _ _ h _ _ _ hM (lv_sub hl [0, 1] rfl)
    · replace h := (if_pos c21).symm.trans h
      refine g_aload hx hb dX4_isSame_61 (lv_at hl 1 rfl) ?_
      have g := gbind h
      clear h
      obtain ⟨v40, e41, h⟩ := g
      refine g_getI hF hM fdX1 e41 (by decide) rfl u131 dX4_isSame_63 ?_
      refine lv_bipush (v := 107) hx hb dX4_isSame_66 (by decide) ?_
      refine lv_icmp_ne (tgt := 78) hx hb dX4_isSame_68 (by decide) (fun c42 => ?_) (fun c42 => ?_)
      · replace h := (if_neg c42).symm.trans h
        refine W.widen (k := 0) (n := 0) (Nat.le_of_ble_eq_true rfl) (Nat.le_of_ble_eq_true rfl) ?_
        exact Jb78 _ _ h _ _ _ hM (lv_sub hl [0, 1] rfl)
      · replace h := (if_pos c42).symm.trans h
        refine g_aload_n hx hb dX4_isSame_71 rfl (lv_at hl 0 rfl) ?_
        refine g_aload hx hb dX4_isSame_72 (lv_at hl 1 rfl) ?_
        have g := gbind h
        clear h
        obtain ⟨a43, e44, h⟩ := g
        have t45 := (gtk_of e44).2
        rw [(gtk_of e44).1]
        have g := gbind h
        clear h
        obtain ⟨v47, e46, h⟩ := g
        refine g_callV (As := [va_rf x4]) (rest := []) hF hM (c_X1_hasNumbersLike e46) k_X1_hasNumbersLike u668 u669 u670 rfl rfl t45 rfl hl.1 rfl (Nat.le_of_ble_eq_true rfl) dX4_isSame_74 ⟨(Nat.le_of_ble_eq_true rfl), (Nat.le_of_ble_eq_true rfl)⟩ ⟨(Nat.le_of_ble_eq_true rfl), (Nat.le_of_ble_eq_true rfl)⟩ (fun H locs hM => ?_)
        have g := gckE h
        clear h
        obtain ⟨q48, h⟩ := g
        rw [← (Sum.inl.inj (Option.some.inj h))]
        exact g_iret hF hM rfl (gnr_of (Or.inr (Or.inl rfl)) q48).1 dX4_isSame_77 (Nat.le_of_ble_eq_true rfl) (Nat.le_of_ble_eq_true rfl)
  unfold f_X4_isSame at h
  refine g_aload_n hx hb dX4_isSame_0 rfl (lv_at hl 0 rfl) ?_
  refine lv_iload_n hx hb dX4_isSame_1 rfl (lv_at hl 1 rfl) ?_
  have g := gckE h
  clear h
  obtain ⟨t1, h⟩ := g
  have t1 := eq_of_beq t1
  have g := gthE h
  clear h
  rcases g with ⟨v3, e2, h⟩ | ⟨y4, e2, z5⟩
  · refine g_callV (As := [.int x1]) (rest := []) hF hM (c_X4_held e2) k_X4_held u517 u519 u13 rfl rfl t1 rfl hl.1 rfl (Nat.le_of_ble_eq_true rfl) dX4_isSame_2 ⟨(Nat.le_of_ble_eq_true rfl), (Nat.le_of_ble_eq_true rfl)⟩ ⟨(Nat.le_of_ble_eq_true rfl), (Nat.le_of_ble_eq_true rfl)⟩ (fun H locs hM => ?_)
    refine g_astore_n (i := 3) (lv' := [(0, va_rf (some a0)), (1, .int x1), (2, .int x2)]) hx hb dX4_isSame_5 rfl hl (by decide) (fun v => rfl) (fun ls hl => ?_)
    refine g_aload_n hx hb dX4_isSame_6 rfl (lv_at hl 1 rfl) ?_
    refine lv_iload_n hx hb dX4_isSame_7 rfl (lv_at hl 3 rfl) ?_
    have g := gckE h
    clear h
    obtain ⟨t6, h⟩ := g
    have t6 := eq_of_beq t6
    have g := gthE h
    clear h
    rcases g with ⟨v8, e7, h⟩ | ⟨y9, e7, z10⟩
    · refine g_callV (As := [.int x2]) (rest := []) hF hM (c_X4_held e7) k_X4_held u517 u519 u13 rfl rfl t6 rfl hl.1 rfl (Nat.le_of_ble_eq_true rfl) dX4_isSame_8 ⟨(Nat.le_of_ble_eq_true rfl), (Nat.le_of_ble_eq_true rfl)⟩ ⟨(Nat.le_of_ble_eq_true rfl), (Nat.le_of_ble_eq_true rfl)⟩ (fun H locs hM => ?_)
      refine g_astore (i := 4) (lv' := [(3, va_rf v3), (0, va_rf (some a0)), (1, .int x1), (2, .int x2)]) hx hb dX4_isSame_11 hl (by decide) (fun v => by simp [rf_cat, ic_cat, lc_cat]) (fun ls hl => ?_)
      refine g_aload_n hx hb dX4_isSame_13 rfl (lv_at hl 1 rfl) ?_
      refine g_ifnull (tgt := 22) hx hb dX4_isSame_14 (by decide) (fun c11 => ?_) (fun c11 => ?_)
      · replace h := (if_pos c11).symm.trans h
        exact nomatch (Option.some.inj h)
      · replace h := (if_neg c11).symm.trans h
        refine g_aload hx hb dX4_isSame_17 (lv_at hl 0 rfl) ?_
        refine g_ifnonnull (tgt := 30) hx hb dX4_isSame_19 (by decide) (fun c12 => ?_) (fun c12 => ?_)
        · replace h := (if_neg c12).symm.trans h
          refine g_aload_n hx hb dX4_isSame_30 rfl (lv_at hl 1 rfl) ?_
          have g := gbind h
          clear h
          obtain ⟨a13, e14, h⟩ := g
          have t15 := (gtk_of e14).2
          rw [(gtk_of e14).1]
          have g := gbind h
          clear h
          obtain ⟨v17, e16, h⟩ := g
          refine g_callV (As := []) (rest := []) hF hM (c_X1_isList e16) k_X1_isList u659 u250 u251 rfl rfl t15 rfl hl.1 rfl (Nat.le_of_ble_eq_true rfl) dX4_isSame_31 ⟨(Nat.le_of_ble_eq_true rfl), (Nat.le_of_ble_eq_true rfl)⟩ ⟨(Nat.le_of_ble_eq_true rfl), (Nat.le_of_ble_eq_true rfl)⟩ (fun H locs hM => ?_)
          refine lv_if_eq (tgt := 52) hx hb dX4_isSame_34 (by decide) (fun c18 => ?_) (fun c18 => ?_)
          · replace h := (if_pos c18).symm.trans h
            refine W.widen (k := 0) (n := 0) (Nat.le_of_ble_eq_true rfl) (Nat.le_of_ble_eq_true rfl) ?_
            exact Jb52 _ _ h _ _ _ hM (lv_sub hl [1, 0] rfl)
          · replace h := (if_neg c18).symm.trans h
            refine g_aload hx hb dX4_isSame_37 (lv_at hl 0 rfl) ?_
            have g := gbind h
            clear h
            obtain ⟨a49, e50, h⟩ := g
            have t51 := (gtk_of e50).2
            rw [(gtk_of e50).1]
            have g := gbind h
            clear h
            obtain ⟨v53, e52, h⟩ := g
            refine g_callV (As := []) (rest := []) hF hM (c_X1_isList e52) k_X1_isList u659 u250 u251 rfl rfl t51 rfl hl.1 rfl (Nat.le_of_ble_eq_true rfl) dX4_isSame_39 ⟨(Nat.le_of_ble_eq_true rfl), (Nat.le_of_ble_eq_true rfl)⟩ ⟨(Nat.le_of_ble_eq_true rfl), (Nat.le_of_ble_eq_true rfl)⟩ (fun H locs hM => ?_)
            refine lv_if_eq (tgt := 52) hx hb dX4_isSame_42 (by decide) (fun c54 => ?_) (fun c54 => ?_)
            · replace h := (if_pos c54).symm.trans h
              refine W.widen (k := 0) (n := 0) (Nat.le_of_ble_eq_true rfl) (Nat.le_of_ble_eq_true rfl) ?_
              exact Jb52 _ _ h _ _ _ hM (lv_sub hl [1, 0] rfl)
            · replace h := (if_neg c54).symm.trans h
              refine g_aload_n hx hb dX4_isSame_45 rfl (lv_at hl 1 rfl) ?_
              refine g_aload hx hb dX4_isSame_46 (lv_at hl 0 rfl) ?_
              have g := gbind h
              clear h
              obtain ⟨a55, e56, h⟩ := g
              have t57 := (gtk_of e56).2
              rw [(gtk_of e56).1]
              have g := gbind h
              clear h
              obtain ⟨v59, e58, h⟩ := g
              refine g_callV (As := [va_rf v8]) (rest := []) hF hM (c_X1_isListLike e58) k_X1_isListLike u667 u379 u380 rfl rfl t57 rfl hl.1 rfl (Nat.le_of_ble_eq_true rfl) dX4_isSame_48 ⟨(Nat.le_of_ble_eq_true rfl), (Nat.le_of_ble_eq_true rfl)⟩ ⟨(Nat.le_of_ble_eq_true rfl), (Nat.le_of_ble_eq_true rfl)⟩ (fun H locs hM => ?_)
              have g := gckE h
              clear h
              obtain ⟨q60, h⟩ := g
              rw [← (Sum.inl.inj (Option.some.inj h))]
              exact g_iret hF hM rfl (gnr_of (Or.inr (Or.inl rfl)) q60).1 dX4_isSame_51 (Nat.le_of_ble_eq_true rfl) (Nat.le_of_ble_eq_true rfl)
        · replace h := (if_pos c12).symm.trans h
          exact nomatch (Option.some.inj h)
    · exact nomatch z10
  · exact nomatch z5
abbrev rmx_X4_isSame : Room := { frames := 7, cells := 1, slots := 6, locals := 110 }
set_option maxHeartbeats 4000000 in
set_option maxRecDepth 100000 in
theorem cx_X4_isSame {l : Launch} {D : va_G} {Y : Nat → ClassId} {S : GS} {hs : Nat} {a0 : Nat} {x1 : Int32} {x2 : Int32} {x : Nat} (hfl : l.stackTraces = false) (h : f_X4_isSame S a0 x1 x2 = some (.inr x)) : gMx l yX4_isSame (gWs yX4_isSame cX4_isSame 5 (some .boolean)) rmx_X4_isSame [va_rf (some a0), .int x1, .int x2] D Y S hs (.inr x) := by
  refine g_ofWx (by decide +kernel) (Or.inl ⟨(Nat.le_of_ble_eq_true rfl), (List.forall_mem_cons.mpr ⟨rf_cat _, (List.forall_mem_cons.mpr ⟨rfl, (List.forall_mem_cons.mpr ⟨rfl, (fun _ h => absurd h List.not_mem_nil)⟩)⟩)⟩)⟩) ?_
  intro p e s m args below meth c ls hsz hout hF hM hl
  have hl : lv_has ls 5 [(0, va_rf (some a0)), (1, .int x1), (2, .int x2)] := by rw [g_args [va_rf (some a0), .int x1, .int x2] 0 (List.forall_mem_cons.mpr ⟨rf_cat _, (List.forall_mem_cons.mpr ⟨rfl, (List.forall_mem_cons.mpr ⟨rfl, (fun _ h => absurd h List.not_mem_nil)⟩)⟩)⟩)] at hl; exact hl
  have hF : gF p s m args meth c RX4 cX4_isSame 5 (some .boolean) D Y (gA S hs) := hF
  have hx := hF.1
  have hb := hF.2.1
  have Jb78 : ∀ (x3 : Option Nat) (x4 : Option Nat), f_X4_isSame_b78 S a0 x3 x4 = some (.inr x) → ∀ (H : Heap) (locs : List Loc) (ls : Array Slot), gM D Y (gA S hs) s.heap S hs H locs → lv_has ls 5 [(3, va_rf x3), (4, va_rf x4)] → W p l e rmx_X4_isSame s m args below meth c H locs 0 0 (vx_MQ below (gQz (.inr x) D Y (gA S hs)) (gXz (.inr x) D Y S (gA S hs)) args s rmx_X4_isSame.cells rmx_X4_isSame.slots (gA S hs)) (F0 m 78 ls []) := by
    intro x3 x4 h H locs ls hM hl
    unfold f_X4_isSame_b78 at h
    refine g_aload_n hx hb dX4_isSame_78 rfl (lv_at hl 0 rfl) ?_
    have g := gbind h
    clear h
    obtain ⟨a22, e23, h⟩ := g
    have t24 := (gtk_of e23).2
    rw [(gtk_of e23).1]
    have g := gbind h
    clear h
    obtain ⟨v26, e25, h⟩ := g
    refine g_callV (As := []) (rest := []) hF hM (c_X1_isMap e25) k_X1_isMap u626 u205 u206 rfl rfl t24 rfl hl.1 rfl (Nat.le_of_ble_eq_true rfl) dX4_isSame_79 ⟨(Nat.le_of_ble_eq_true rfl), (Nat.le_of_ble_eq_true rfl)⟩ ⟨(Nat.le_of_ble_eq_true rfl), (Nat.le_of_ble_eq_true rfl)⟩ (fun H locs hM => ?_)
    refine lv_if_eq (tgt := 100) hx hb dX4_isSame_82 (by decide) (fun c27 => ?_) (fun c27 => ?_)
    · replace h := (if_pos c27).symm.trans h
      exact g_throw hF hM hfl hout ew_X4_50_52 (congrArg Sum.inr (Sum.inr.inj (Option.some.inj h)).symm) hl.1 dX4_isSame_100 dX4_isSame_103 dX4_isSame_104 dX4_isSame_107 (Nat.le_of_ble_eq_true rfl) (Nat.le_of_ble_eq_true rfl) (Nat.le_of_ble_eq_true rfl) (Nat.le_of_ble_eq_true rfl) (Nat.le_of_ble_eq_true rfl) (Nat.le_of_ble_eq_true rfl)
    · replace h := (if_neg c27).symm.trans h
      refine g_aload hx hb dX4_isSame_85 (lv_at hl 1 rfl) ?_
      have g := gbind h
      clear h
      obtain ⟨a28, e29, h⟩ := g
      have t30 := (gtk_of e29).2
      rw [(gtk_of e29).1]
      have g := gbind h
      clear h
      obtain ⟨v32, e31, h⟩ := g
      refine g_callV (As := []) (rest := []) hF hM (c_X1_isMap e31) k_X1_isMap u626 u205 u206 rfl rfl t30 rfl hl.1 rfl (Nat.le_of_ble_eq_true rfl) dX4_isSame_87 ⟨(Nat.le_of_ble_eq_true rfl), (Nat.le_of_ble_eq_true rfl)⟩ ⟨(Nat.le_of_ble_eq_true rfl), (Nat.le_of_ble_eq_true rfl)⟩ (fun H locs hM => ?_)
      refine lv_if_eq (tgt := 100) hx hb dX4_isSame_90 (by decide) (fun c33 => ?_) (fun c33 => ?_)
      · replace h := (if_pos c33).symm.trans h
        exact g_throw hF hM hfl hout ew_X4_50_52 (congrArg Sum.inr (Sum.inr.inj (Option.some.inj h)).symm) hl.1 dX4_isSame_100 dX4_isSame_103 dX4_isSame_104 dX4_isSame_107 (Nat.le_of_ble_eq_true rfl) (Nat.le_of_ble_eq_true rfl) (Nat.le_of_ble_eq_true rfl) (Nat.le_of_ble_eq_true rfl) (Nat.le_of_ble_eq_true rfl) (Nat.le_of_ble_eq_true rfl)
      · replace h := (if_neg c33).symm.trans h
        refine g_aload_n hx hb dX4_isSame_93 rfl (lv_at hl 0 rfl) ?_
        refine g_aload hx hb dX4_isSame_94 (lv_at hl 1 rfl) ?_
        have g := gbind h
        clear h
        obtain ⟨a34, e35, h⟩ := g
        have t36 := (gtk_of e35).2
        rw [(gtk_of e35).1]
        have g := gbind h
        clear h
        obtain ⟨v38, e37, h⟩ := g
        refine g_callV (As := [va_rf x4]) (rest := []) hF hM (c_X1_isMapLike e37) k_X1_isMapLike u672 u396 u397 rfl rfl t36 rfl hl.1 rfl (Nat.le_of_ble_eq_true rfl) dX4_isSame_96 ⟨(Nat.le_of_ble_eq_true rfl), (Nat.le_of_ble_eq_true rfl)⟩ ⟨(Nat.le_of_ble_eq_true rfl), (Nat.le_of_ble_eq_true rfl)⟩ (fun H locs hM => ?_)
        have g := gckE h
        clear h
        obtain ⟨q39, h⟩ := g
        exact nomatch (Option.some.inj h)
  have Jb52 : ∀ (x3 : Option Nat) (x4 : Option Nat), f_X4_isSame_b52 S a0 x3 x4 = some (.inr x) → ∀ (H : Heap) (locs : List Loc) (ls : Array Slot), gM D Y (gA S hs) s.heap S hs H locs → lv_has ls 5 [(3, va_rf x3), (4, va_rf x4)] → W p l e rmx_X4_isSame s m args below meth c H locs 0 0 (vx_MQ below (gQz (.inr x) D Y (gA S hs)) (gXz (.inr x) D Y S (gA S hs)) args s rmx_X4_isSame.cells rmx_X4_isSame.slots (gA S hs)) (F0 m 52 ls []) := by
    intro x3 x4 h H locs ls hM hl
    unfold f_X4_isSame_b52 at h
    refine g_aload_n hx hb dX4_isSame_52 rfl (lv_at hl 0 rfl) ?_
    have g := gbind h
    clear h
    obtain ⟨v19, e20, h⟩ := g
    refine g_getI hF hM fdX1 e20 (by decide) rfl u131 dX4_isSame_53 ?_
    refine lv_bipush (v := 107) hx hb dX4_isSame_56 (by decide) ?_
    refine lv_icmp_ne (tgt := 78) hx hb dX4_isSame_58 (by decide) (fun c21 => ?_) (fun c21 => ?_)
    · replace h := (if_neg c21).symm.trans h
      refine W.widen (k := 0) (n := 0) (Nat.le_of_ble_eq_true rfl) (Nat.le_of_ble_eq_true rfl) ?_
      exact Jb78 _ _ h _ _ _ hM (lv_sub hl [0, 1] rfl)
    · replace h := (if_pos c21).symm.trans h
      refine g_aload hx hb dX4_isSame_61 (lv_at hl 1 rfl) ?_
      have g := gbind h
      clear h
      obtain ⟨v40, e41, h⟩ := g
      refine g_getI hF hM fdX1 e41 (by decide) rfl u131 dX4_isSame_63 ?_
      refine lv_bipush (v := 107) hx hb dX4_isSame_66 (by decide) ?_
      refine lv_icmp_ne (tgt := 78) hx hb dX4_isSame_68 (by decide) (fun c42 => ?_) (fun c42 => ?_)
      · replace h := (if_neg c42).symm.trans h
        refine W.widen (k := 0) (n := 0) (Nat.le_of_ble_eq_true rfl) (Nat.le_of_ble_eq_true rfl) ?_
        exact Jb78 _ _ h _ _ _ hM (lv_sub hl [0, 1] rfl)
      · replace h := (if_pos c42).symm.trans h
        refine g_aload_n hx hb dX4_isSame_71 rfl (lv_at hl 0 rfl) ?_
        refine g_aload hx hb dX4_isSame_72 (lv_at hl 1 rfl) ?_
        have g := gbind h
        clear h
        obtain ⟨a43, e44, h⟩ := g
        have t45 := (gtk_of e44).2
        rw [(gtk_of e44).1]
        have g := gbind h
        clear h
        obtain ⟨v47, e46, h⟩ := g
        refine g_callV (As := [va_rf x4]) (rest := []) hF hM (c_X1_hasNumbersLike e46) k_X1_hasNumbersLike u668 u669 u670 rfl rfl t45 rfl hl.1 rfl (Nat.le_of_ble_eq_true rfl) dX4_isSame_74 ⟨(Nat.le_of_ble_eq_true rfl), (Nat.le_of_ble_eq_true rfl)⟩ ⟨(Nat.le_of_ble_eq_true rfl), (Nat.le_of_ble_eq_true rfl)⟩ (fun H locs hM => ?_)
        have g := gckE h
        clear h
        obtain ⟨q48, h⟩ := g
        exact nomatch (Option.some.inj h)
  unfold f_X4_isSame at h
  refine g_aload_n hx hb dX4_isSame_0 rfl (lv_at hl 0 rfl) ?_
  refine lv_iload_n hx hb dX4_isSame_1 rfl (lv_at hl 1 rfl) ?_
  have g := gckE h
  clear h
  obtain ⟨t1, h⟩ := g
  have t1 := eq_of_beq t1
  have g := gthE h
  clear h
  rcases g with ⟨v3, e2, h⟩ | ⟨y4, e2, z5⟩
  · refine g_callV (As := [.int x1]) (rest := []) hF hM (c_X4_held e2) k_X4_held u517 u519 u13 rfl rfl t1 rfl hl.1 rfl (Nat.le_of_ble_eq_true rfl) dX4_isSame_2 ⟨(Nat.le_of_ble_eq_true rfl), (Nat.le_of_ble_eq_true rfl)⟩ ⟨(Nat.le_of_ble_eq_true rfl), (Nat.le_of_ble_eq_true rfl)⟩ (fun H locs hM => ?_)
    refine g_astore_n (i := 3) (lv' := [(0, va_rf (some a0)), (1, .int x1), (2, .int x2)]) hx hb dX4_isSame_5 rfl hl (by decide) (fun v => rfl) (fun ls hl => ?_)
    refine g_aload_n hx hb dX4_isSame_6 rfl (lv_at hl 1 rfl) ?_
    refine lv_iload_n hx hb dX4_isSame_7 rfl (lv_at hl 3 rfl) ?_
    have g := gckE h
    clear h
    obtain ⟨t6, h⟩ := g
    have t6 := eq_of_beq t6
    have g := gthE h
    clear h
    rcases g with ⟨v8, e7, h⟩ | ⟨y9, e7, z10⟩
    · refine g_callV (As := [.int x2]) (rest := []) hF hM (c_X4_held e7) k_X4_held u517 u519 u13 rfl rfl t6 rfl hl.1 rfl (Nat.le_of_ble_eq_true rfl) dX4_isSame_8 ⟨(Nat.le_of_ble_eq_true rfl), (Nat.le_of_ble_eq_true rfl)⟩ ⟨(Nat.le_of_ble_eq_true rfl), (Nat.le_of_ble_eq_true rfl)⟩ (fun H locs hM => ?_)
      refine g_astore (i := 4) (lv' := [(3, va_rf v3), (0, va_rf (some a0)), (1, .int x1), (2, .int x2)]) hx hb dX4_isSame_11 hl (by decide) (fun v => by simp [rf_cat, ic_cat, lc_cat]) (fun ls hl => ?_)
      refine g_aload_n hx hb dX4_isSame_13 rfl (lv_at hl 1 rfl) ?_
      refine g_ifnull (tgt := 22) hx hb dX4_isSame_14 (by decide) (fun c11 => ?_) (fun c11 => ?_)
      · replace h := (if_pos c11).symm.trans h
        exact g_throw hF hM hfl hout ew_X4_50_52 (congrArg Sum.inr (Sum.inr.inj (Option.some.inj h)).symm) hl.1 dX4_isSame_22 dX4_isSame_25 dX4_isSame_26 dX4_isSame_29 (Nat.le_of_ble_eq_true rfl) (Nat.le_of_ble_eq_true rfl) (Nat.le_of_ble_eq_true rfl) (Nat.le_of_ble_eq_true rfl) (Nat.le_of_ble_eq_true rfl) (Nat.le_of_ble_eq_true rfl)
      · replace h := (if_neg c11).symm.trans h
        refine g_aload hx hb dX4_isSame_17 (lv_at hl 0 rfl) ?_
        refine g_ifnonnull (tgt := 30) hx hb dX4_isSame_19 (by decide) (fun c12 => ?_) (fun c12 => ?_)
        · replace h := (if_neg c12).symm.trans h
          refine g_aload_n hx hb dX4_isSame_30 rfl (lv_at hl 1 rfl) ?_
          have g := gbind h
          clear h
          obtain ⟨a13, e14, h⟩ := g
          have t15 := (gtk_of e14).2
          rw [(gtk_of e14).1]
          have g := gbind h
          clear h
          obtain ⟨v17, e16, h⟩ := g
          refine g_callV (As := []) (rest := []) hF hM (c_X1_isList e16) k_X1_isList u659 u250 u251 rfl rfl t15 rfl hl.1 rfl (Nat.le_of_ble_eq_true rfl) dX4_isSame_31 ⟨(Nat.le_of_ble_eq_true rfl), (Nat.le_of_ble_eq_true rfl)⟩ ⟨(Nat.le_of_ble_eq_true rfl), (Nat.le_of_ble_eq_true rfl)⟩ (fun H locs hM => ?_)
          refine lv_if_eq (tgt := 52) hx hb dX4_isSame_34 (by decide) (fun c18 => ?_) (fun c18 => ?_)
          · replace h := (if_pos c18).symm.trans h
            refine W.widen (k := 0) (n := 0) (Nat.le_of_ble_eq_true rfl) (Nat.le_of_ble_eq_true rfl) ?_
            exact Jb52 _ _ h _ _ _ hM (lv_sub hl [1, 0] rfl)
          · replace h := (if_neg c18).symm.trans h
            refine g_aload hx hb dX4_isSame_37 (lv_at hl 0 rfl) ?_
            have g := gbind h
            clear h
            obtain ⟨a49, e50, h⟩ := g
            have t51 := (gtk_of e50).2
            rw [(gtk_of e50).1]
            have g := gbind h
            clear h
            obtain ⟨v53, e52, h⟩ := g
            refine g_callV (As := []) (rest := []) hF hM (c_X1_isList e52) k_X1_isList u659 u250 u251 rfl rfl t51 rfl hl.1 rfl (Nat.le_of_ble_eq_true rfl) dX4_isSame_39 ⟨(Nat.le_of_ble_eq_true rfl), (Nat.le_of_ble_eq_true rfl)⟩ ⟨(Nat.le_of_ble_eq_true rfl), (Nat.le_of_ble_eq_true rfl)⟩ (fun H locs hM => ?_)
            refine lv_if_eq (tgt := 52) hx hb dX4_isSame_42 (by decide) (fun c54 => ?_) (fun c54 => ?_)
            · replace h := (if_pos c54).symm.trans h
              refine W.widen (k := 0) (n := 0) (Nat.le_of_ble_eq_true rfl) (Nat.le_of_ble_eq_true rfl) ?_
              exact Jb52 _ _ h _ _ _ hM (lv_sub hl [1, 0] rfl)
            · replace h := (if_neg c54).symm.trans h
              refine g_aload_n hx hb dX4_isSame_45 rfl (lv_at hl 1 rfl) ?_
              refine g_aload hx hb dX4_isSame_46 (lv_at hl 0 rfl) ?_
              have g := gbind h
              clear h
              obtain ⟨a55, e56, h⟩ := g
              have t57 := (gtk_of e56).2
              rw [(gtk_of e56).1]
              have g := gbind h
              clear h
              obtain ⟨v59, e58, h⟩ := g
              refine g_callV (As := [va_rf v8]) (rest := []) hF hM (c_X1_isListLike e58) k_X1_isListLike u667 u379 u380 rfl rfl t57 rfl hl.1 rfl (Nat.le_of_ble_eq_true rfl) dX4_isSame_48 ⟨(Nat.le_of_ble_eq_true rfl), (Nat.le_of_ble_eq_true rfl)⟩ ⟨(Nat.le_of_ble_eq_true rfl), (Nat.le_of_ble_eq_true rfl)⟩ (fun H locs hM => ?_)
              have g := gckE h
              clear h
              obtain ⟨q60, h⟩ := g
              exact nomatch (Option.some.inj h)
        · replace h := (if_pos c12).symm.trans h
          exact g_throw hF hM hfl hout ew_X4_50_52 (congrArg Sum.inr (Sum.inr.inj (Option.some.inj h)).symm) hl.1 dX4_isSame_22 dX4_isSame_25 dX4_isSame_26 dX4_isSame_29 (Nat.le_of_ble_eq_true rfl) (Nat.le_of_ble_eq_true rfl) (Nat.le_of_ble_eq_true rfl) (Nat.le_of_ble_eq_true rfl) (Nat.le_of_ble_eq_true rfl) (Nat.le_of_ble_eq_true rfl)
    · exact g_callVt (As := [.int x2]) (rest := []) hF hM hout (cx_X4_held hfl e7) k_X4_held u517 u519 u13 rfl rfl t6 rfl hl.1 rfl (Nat.le_of_ble_eq_true rfl) dX4_isSame_8 ⟨(Nat.le_of_ble_eq_true rfl), (Nat.le_of_ble_eq_true rfl)⟩ ⟨(Nat.le_of_ble_eq_true rfl), (Nat.le_of_ble_eq_true rfl)⟩ (Nat.le_of_ble_eq_true rfl) (Nat.le_of_ble_eq_true rfl) (congrArg Sum.inr (Sum.inr.inj z10))
  · exact g_callVt (As := [.int x1]) (rest := []) hF hM hout (cx_X4_held hfl e2) k_X4_held u517 u519 u13 rfl rfl t1 rfl hl.1 rfl (Nat.le_of_ble_eq_true rfl) dX4_isSame_2 ⟨(Nat.le_of_ble_eq_true rfl), (Nat.le_of_ble_eq_true rfl)⟩ ⟨(Nat.le_of_ble_eq_true rfl), (Nat.le_of_ble_eq_true rfl)⟩ (Nat.le_of_ble_eq_true rfl) (Nat.le_of_ble_eq_true rfl) (congrArg Sum.inr (Sum.inr.inj z5))
abbrev rm_X4_hash : Room := { frames := 4, cells := 0, slots := 0, locals := 85 }
theorem k_X4_hash : gKc yX4_hash cX4_hash 3 (some .int) 1 := ⟨u679, u63, by decide +kernel, by decide +kernel, by decide +kernel⟩
set_option maxHeartbeats 4000000 in
set_option maxRecDepth 100000 in
theorem c_X4_hash {l : Launch} {D : va_G} {Y : Nat → ClassId} {S : GS} {hs : Nat} {a0 : Nat} {x1 : Int32} {r : Int32} (h : f_X4_hash S a0 x1 = some (.inl r)) : gMet l yX4_hash (gWs yX4_hash cX4_hash 3 (some .int)) rm_X4_hash [va_rf (some a0), .int x1] D Y S hs (some (.int r)) S hs := by
  refine g_ofW (by decide +kernel) (Or.inl ⟨(Nat.le_of_ble_eq_true rfl), (List.forall_mem_cons.mpr ⟨rf_cat _, (List.forall_mem_cons.mpr ⟨rfl, (fun _ h => absurd h List.not_mem_nil)⟩)⟩)⟩) ?_
  intro p e s m args below meth c ls hsz hname hF hM hl
  have hl : lv_has ls 3 [(0, va_rf (some a0)), (1, .int x1)] := by rw [g_args [va_rf (some a0), .int x1] 0 (List.forall_mem_cons.mpr ⟨rf_cat _, (List.forall_mem_cons.mpr ⟨rfl, (fun _ h => absurd h List.not_mem_nil)⟩)⟩)] at hl; exact hl
  have hF : gF p s m args meth c RX4 cX4_hash 3 (some .int) D Y (gA S hs) := hF
  have hx := hF.1
  have hb := hF.2.1
  unfold f_X4_hash at h
  refine g_aload_n hx hb dX4_hash_0 rfl (lv_at hl 0 rfl) ?_
  refine lv_iload_n hx hb dX4_hash_1 rfl (lv_at hl 1 rfl) ?_
  have g := gckE h
  clear h
  obtain ⟨t1, h⟩ := g
  have t1 := eq_of_beq t1
  have g := gthE h
  clear h
  rcases g with ⟨v3, e2, h⟩ | ⟨y4, e2, z5⟩
  · refine g_callV (As := [.int x1]) (rest := []) hF hM (c_X4_needSomething e2) k_X4_needSomething u648 u650 u16 rfl rfl t1 rfl hl.1 rfl (Nat.le_of_ble_eq_true rfl) dX4_hash_2 ⟨(Nat.le_of_ble_eq_true rfl), (Nat.le_of_ble_eq_true rfl)⟩ ⟨(Nat.le_of_ble_eq_true rfl), (Nat.le_of_ble_eq_true rfl)⟩ (fun H locs hM => ?_)
    refine g_astore_n (i := 2) (lv' := [(0, va_rf (some a0)), (1, .int x1)]) hx hb dX4_hash_5 rfl hl (by decide) (fun v => rfl) (fun ls hl => ?_)
    refine g_aload_n hx hb dX4_hash_6 rfl (lv_at hl 0 rfl) ?_
    have g := gbind h
    clear h
    obtain ⟨a6, e7, h⟩ := g
    have t8 := (gtk_of e7).2
    rw [(gtk_of e7).1]
    have g := gbind h
    clear h
    obtain ⟨v10, e9, h⟩ := g
    refine g_callV (As := []) (rest := []) hF hM (c_X1_isList e9) k_X1_isList u659 u250 u251 rfl rfl t8 rfl hl.1 rfl (Nat.le_of_ble_eq_true rfl) dX4_hash_7 ⟨(Nat.le_of_ble_eq_true rfl), (Nat.le_of_ble_eq_true rfl)⟩ ⟨(Nat.le_of_ble_eq_true rfl), (Nat.le_of_ble_eq_true rfl)⟩ (fun H locs hM => ?_)
    refine lv_if_eq (tgt := 18) hx hb dX4_hash_10 (by decide) (fun c11 => ?_) (fun c11 => ?_)
    · replace h := (if_pos c11).symm.trans h
      refine g_aload_n hx hb dX4_hash_18 rfl (lv_at hl 0 rfl) ?_
      have g := gbind h
      clear h
      obtain ⟨v12, e13, h⟩ := g
      refine g_getI hF hM fdX1 e13 (by decide) rfl u131 dX4_hash_19 ?_
      refine lv_bipush (v := 107) hx hb dX4_hash_22 (by decide) ?_
      refine lv_icmp_ne (tgt := 32) hx hb dX4_hash_24 (by decide) (fun c14 => ?_) (fun c14 => ?_)
      · replace h := (if_neg c14).symm.trans h
        refine g_aload_n hx hb dX4_hash_32 rfl (lv_at hl 0 rfl) ?_
        have g := gbind h
        clear h
        obtain ⟨a15, e16, h⟩ := g
        have t17 := (gtk_of e16).2
        rw [(gtk_of e16).1]
        have g := gbind h
        clear h
        obtain ⟨v19, e18, h⟩ := g
        refine g_callV (As := []) (rest := []) hF hM (c_X1_isMap e18) k_X1_isMap u626 u205 u206 rfl rfl t17 rfl hl.1 rfl (Nat.le_of_ble_eq_true rfl) dX4_hash_33 ⟨(Nat.le_of_ble_eq_true rfl), (Nat.le_of_ble_eq_true rfl)⟩ ⟨(Nat.le_of_ble_eq_true rfl), (Nat.le_of_ble_eq_true rfl)⟩ (fun H locs hM => ?_)
        refine lv_if_eq (tgt := 44) hx hb dX4_hash_36 (by decide) (fun c20 => ?_) (fun c20 => ?_)
        · replace h := (if_pos c20).symm.trans h
          exact nomatch (Option.some.inj h)
        · replace h := (if_neg c20).symm.trans h
          refine g_aload_n hx hb dX4_hash_39 rfl (lv_at hl 0 rfl) ?_
          have g := gbind h
          clear h
          obtain ⟨a21, e22, h⟩ := g
          have t23 := (gtk_of e22).2
          rw [(gtk_of e22).1]
          have g := gbind h
          clear h
          obtain ⟨v25, e24, h⟩ := g
          refine g_callV (As := []) (rest := []) hF hM (c_X1_mapHash e24) k_X1_mapHash u684 u401 u402 rfl rfl t23 rfl hl.1 rfl (Nat.le_of_ble_eq_true rfl) dX4_hash_40 ⟨(Nat.le_of_ble_eq_true rfl), (Nat.le_of_ble_eq_true rfl)⟩ ⟨(Nat.le_of_ble_eq_true rfl), (Nat.le_of_ble_eq_true rfl)⟩ (fun H locs hM => ?_)
          rw [← (Sum.inl.inj (Option.some.inj h))]
          exact g_iret hF hM rfl rfl dX4_hash_43 (Nat.le_of_ble_eq_true rfl) (Nat.le_of_ble_eq_true rfl)
      · replace h := (if_pos c14).symm.trans h
        refine g_aload_n hx hb dX4_hash_27 rfl (lv_at hl 0 rfl) ?_
        have g := gbind h
        clear h
        obtain ⟨a26, e27, h⟩ := g
        have t28 := (gtk_of e27).2
        rw [(gtk_of e27).1]
        have g := gbind h
        clear h
        obtain ⟨v30, e29, h⟩ := g
        refine g_callV (As := []) (rest := []) hF hM (c_X1_keysHash e29) k_X1_keysHash u680 u681 u682 rfl rfl t28 rfl hl.1 rfl (Nat.le_of_ble_eq_true rfl) dX4_hash_28 ⟨(Nat.le_of_ble_eq_true rfl), (Nat.le_of_ble_eq_true rfl)⟩ ⟨(Nat.le_of_ble_eq_true rfl), (Nat.le_of_ble_eq_true rfl)⟩ (fun H locs hM => ?_)
        rw [← (Sum.inl.inj (Option.some.inj h))]
        exact g_iret hF hM rfl rfl dX4_hash_31 (Nat.le_of_ble_eq_true rfl) (Nat.le_of_ble_eq_true rfl)
    · replace h := (if_neg c11).symm.trans h
      refine g_aload_n hx hb dX4_hash_13 rfl (lv_at hl 0 rfl) ?_
      have g := gbind h
      clear h
      obtain ⟨a31, e32, h⟩ := g
      have t33 := (gtk_of e32).2
      rw [(gtk_of e32).1]
      have g := gbind h
      clear h
      obtain ⟨v35, e34, h⟩ := g
      refine g_callV (As := []) (rest := []) hF hM (c_X1_listHash e34) k_X1_listHash u603 u391 u392 rfl rfl t33 rfl hl.1 rfl (Nat.le_of_ble_eq_true rfl) dX4_hash_14 ⟨(Nat.le_of_ble_eq_true rfl), (Nat.le_of_ble_eq_true rfl)⟩ ⟨(Nat.le_of_ble_eq_true rfl), (Nat.le_of_ble_eq_true rfl)⟩ (fun H locs hM => ?_)
      rw [← (Sum.inl.inj (Option.some.inj h))]
      exact g_iret hF hM rfl rfl dX4_hash_17 (Nat.le_of_ble_eq_true rfl) (Nat.le_of_ble_eq_true rfl)
  · exact nomatch z5
abbrev rmx_X4_hash : Room := { frames := 8, cells := 1, slots := 6, locals := 132 }
set_option maxHeartbeats 4000000 in
set_option maxRecDepth 100000 in
theorem cx_X4_hash {l : Launch} {D : va_G} {Y : Nat → ClassId} {S : GS} {hs : Nat} {a0 : Nat} {x1 : Int32} {x : Nat} (hfl : l.stackTraces = false) (h : f_X4_hash S a0 x1 = some (.inr x)) : gMx l yX4_hash (gWs yX4_hash cX4_hash 3 (some .int)) rmx_X4_hash [va_rf (some a0), .int x1] D Y S hs (.inr x) := by
  refine g_ofWx (by decide +kernel) (Or.inl ⟨(Nat.le_of_ble_eq_true rfl), (List.forall_mem_cons.mpr ⟨rf_cat _, (List.forall_mem_cons.mpr ⟨rfl, (fun _ h => absurd h List.not_mem_nil)⟩)⟩)⟩) ?_
  intro p e s m args below meth c ls hsz hout hF hM hl
  have hl : lv_has ls 3 [(0, va_rf (some a0)), (1, .int x1)] := by rw [g_args [va_rf (some a0), .int x1] 0 (List.forall_mem_cons.mpr ⟨rf_cat _, (List.forall_mem_cons.mpr ⟨rfl, (fun _ h => absurd h List.not_mem_nil)⟩)⟩)] at hl; exact hl
  have hF : gF p s m args meth c RX4 cX4_hash 3 (some .int) D Y (gA S hs) := hF
  have hx := hF.1
  have hb := hF.2.1
  unfold f_X4_hash at h
  refine g_aload_n hx hb dX4_hash_0 rfl (lv_at hl 0 rfl) ?_
  refine lv_iload_n hx hb dX4_hash_1 rfl (lv_at hl 1 rfl) ?_
  have g := gckE h
  clear h
  obtain ⟨t1, h⟩ := g
  have t1 := eq_of_beq t1
  have g := gthE h
  clear h
  rcases g with ⟨v3, e2, h⟩ | ⟨y4, e2, z5⟩
  · refine g_callV (As := [.int x1]) (rest := []) hF hM (c_X4_needSomething e2) k_X4_needSomething u648 u650 u16 rfl rfl t1 rfl hl.1 rfl (Nat.le_of_ble_eq_true rfl) dX4_hash_2 ⟨(Nat.le_of_ble_eq_true rfl), (Nat.le_of_ble_eq_true rfl)⟩ ⟨(Nat.le_of_ble_eq_true rfl), (Nat.le_of_ble_eq_true rfl)⟩ (fun H locs hM => ?_)
    refine g_astore_n (i := 2) (lv' := [(0, va_rf (some a0)), (1, .int x1)]) hx hb dX4_hash_5 rfl hl (by decide) (fun v => rfl) (fun ls hl => ?_)
    refine g_aload_n hx hb dX4_hash_6 rfl (lv_at hl 0 rfl) ?_
    have g := gbind h
    clear h
    obtain ⟨a6, e7, h⟩ := g
    have t8 := (gtk_of e7).2
    rw [(gtk_of e7).1]
    have g := gbind h
    clear h
    obtain ⟨v10, e9, h⟩ := g
    refine g_callV (As := []) (rest := []) hF hM (c_X1_isList e9) k_X1_isList u659 u250 u251 rfl rfl t8 rfl hl.1 rfl (Nat.le_of_ble_eq_true rfl) dX4_hash_7 ⟨(Nat.le_of_ble_eq_true rfl), (Nat.le_of_ble_eq_true rfl)⟩ ⟨(Nat.le_of_ble_eq_true rfl), (Nat.le_of_ble_eq_true rfl)⟩ (fun H locs hM => ?_)
    refine lv_if_eq (tgt := 18) hx hb dX4_hash_10 (by decide) (fun c11 => ?_) (fun c11 => ?_)
    · replace h := (if_pos c11).symm.trans h
      refine g_aload_n hx hb dX4_hash_18 rfl (lv_at hl 0 rfl) ?_
      have g := gbind h
      clear h
      obtain ⟨v12, e13, h⟩ := g
      refine g_getI hF hM fdX1 e13 (by decide) rfl u131 dX4_hash_19 ?_
      refine lv_bipush (v := 107) hx hb dX4_hash_22 (by decide) ?_
      refine lv_icmp_ne (tgt := 32) hx hb dX4_hash_24 (by decide) (fun c14 => ?_) (fun c14 => ?_)
      · replace h := (if_neg c14).symm.trans h
        refine g_aload_n hx hb dX4_hash_32 rfl (lv_at hl 0 rfl) ?_
        have g := gbind h
        clear h
        obtain ⟨a15, e16, h⟩ := g
        have t17 := (gtk_of e16).2
        rw [(gtk_of e16).1]
        have g := gbind h
        clear h
        obtain ⟨v19, e18, h⟩ := g
        refine g_callV (As := []) (rest := []) hF hM (c_X1_isMap e18) k_X1_isMap u626 u205 u206 rfl rfl t17 rfl hl.1 rfl (Nat.le_of_ble_eq_true rfl) dX4_hash_33 ⟨(Nat.le_of_ble_eq_true rfl), (Nat.le_of_ble_eq_true rfl)⟩ ⟨(Nat.le_of_ble_eq_true rfl), (Nat.le_of_ble_eq_true rfl)⟩ (fun H locs hM => ?_)
        refine lv_if_eq (tgt := 44) hx hb dX4_hash_36 (by decide) (fun c20 => ?_) (fun c20 => ?_)
        · replace h := (if_pos c20).symm.trans h
          exact g_throw hF hM hfl hout ew_X4_50_52 (congrArg Sum.inr (Sum.inr.inj (Option.some.inj h)).symm) hl.1 dX4_hash_44 dX4_hash_47 dX4_hash_48 dX4_hash_51 (Nat.le_of_ble_eq_true rfl) (Nat.le_of_ble_eq_true rfl) (Nat.le_of_ble_eq_true rfl) (Nat.le_of_ble_eq_true rfl) (Nat.le_of_ble_eq_true rfl) (Nat.le_of_ble_eq_true rfl)
        · replace h := (if_neg c20).symm.trans h
          refine g_aload_n hx hb dX4_hash_39 rfl (lv_at hl 0 rfl) ?_
          have g := gbind h
          clear h
          obtain ⟨a21, e22, h⟩ := g
          have t23 := (gtk_of e22).2
          rw [(gtk_of e22).1]
          have g := gbind h
          clear h
          obtain ⟨v25, e24, h⟩ := g
          refine g_callV (As := []) (rest := []) hF hM (c_X1_mapHash e24) k_X1_mapHash u684 u401 u402 rfl rfl t23 rfl hl.1 rfl (Nat.le_of_ble_eq_true rfl) dX4_hash_40 ⟨(Nat.le_of_ble_eq_true rfl), (Nat.le_of_ble_eq_true rfl)⟩ ⟨(Nat.le_of_ble_eq_true rfl), (Nat.le_of_ble_eq_true rfl)⟩ (fun H locs hM => ?_)
          exact nomatch (Option.some.inj h)
      · replace h := (if_pos c14).symm.trans h
        refine g_aload_n hx hb dX4_hash_27 rfl (lv_at hl 0 rfl) ?_
        have g := gbind h
        clear h
        obtain ⟨a26, e27, h⟩ := g
        have t28 := (gtk_of e27).2
        rw [(gtk_of e27).1]
        have g := gbind h
        clear h
        obtain ⟨v30, e29, h⟩ := g
        refine g_callV (As := []) (rest := []) hF hM (c_X1_keysHash e29) k_X1_keysHash u680 u681 u682 rfl rfl t28 rfl hl.1 rfl (Nat.le_of_ble_eq_true rfl) dX4_hash_28 ⟨(Nat.le_of_ble_eq_true rfl), (Nat.le_of_ble_eq_true rfl)⟩ ⟨(Nat.le_of_ble_eq_true rfl), (Nat.le_of_ble_eq_true rfl)⟩ (fun H locs hM => ?_)
        exact nomatch (Option.some.inj h)
    · replace h := (if_neg c11).symm.trans h
      refine g_aload_n hx hb dX4_hash_13 rfl (lv_at hl 0 rfl) ?_
      have g := gbind h
      clear h
      obtain ⟨a31, e32, h⟩ := g
      have t33 := (gtk_of e32).2
      rw [(gtk_of e32).1]
      have g := gbind h
      clear h
      obtain ⟨v35, e34, h⟩ := g
      refine g_callV (As := []) (rest := []) hF hM (c_X1_listHash e34) k_X1_listHash u603 u391 u392 rfl rfl t33 rfl hl.1 rfl (Nat.le_of_ble_eq_true rfl) dX4_hash_14 ⟨(Nat.le_of_ble_eq_true rfl), (Nat.le_of_ble_eq_true rfl)⟩ ⟨(Nat.le_of_ble_eq_true rfl), (Nat.le_of_ble_eq_true rfl)⟩ (fun H locs hM => ?_)
      exact nomatch (Option.some.inj h)
  · exact g_callVt (As := [.int x1]) (rest := []) hF hM hout (cx_X4_needSomething hfl e2) k_X4_needSomething u648 u650 u16 rfl rfl t1 rfl hl.1 rfl (Nat.le_of_ble_eq_true rfl) dX4_hash_2 ⟨(Nat.le_of_ble_eq_true rfl), (Nat.le_of_ble_eq_true rfl)⟩ ⟨(Nat.le_of_ble_eq_true rfl), (Nat.le_of_ble_eq_true rfl)⟩ (Nat.le_of_ble_eq_true rfl) (Nat.le_of_ble_eq_true rfl) (congrArg Sum.inr (Sum.inr.inj z5))
abbrev rm_X4_needList : Room := { frames := 1, cells := 0, slots := 0, locals := 21 }
theorem k_X4_needList : gKc yX4_needList cX4_needList 3 (some (.object "Viewhouse$Pane")) 1 := ⟨u695, u63, by decide +kernel, by decide +kernel, by decide +kernel⟩
set_option maxHeartbeats 4000000 in
set_option maxRecDepth 100000 in
theorem c_X4_needList {l : Launch} {D : va_G} {Y : Nat → ClassId} {S : GS} {hs : Nat} {a0 : Nat} {x1 : Int32} {r : Option Nat} (h : f_X4_needList S a0 x1 = some (.inl r)) : gMet l yX4_needList (gWs yX4_needList cX4_needList 3 (some (.object "Viewhouse$Pane"))) rm_X4_needList [va_rf (some a0), .int x1] D Y S hs (some (va_rf r)) S hs := by
  refine g_ofW (by decide +kernel) (Or.inl ⟨(Nat.le_of_ble_eq_true rfl), (List.forall_mem_cons.mpr ⟨rf_cat _, (List.forall_mem_cons.mpr ⟨rfl, (fun _ h => absurd h List.not_mem_nil)⟩)⟩)⟩) ?_
  intro p e s m args below meth c ls hsz hname hF hM hl
  have hl : lv_has ls 3 [(0, va_rf (some a0)), (1, .int x1)] := by rw [g_args [va_rf (some a0), .int x1] 0 (List.forall_mem_cons.mpr ⟨rf_cat _, (List.forall_mem_cons.mpr ⟨rfl, (fun _ h => absurd h List.not_mem_nil)⟩)⟩)] at hl; exact hl
  have hF : gF p s m args meth c RX4 cX4_needList 3 (some (.object "Viewhouse$Pane")) D Y (gA S hs) := hF
  have hx := hF.1
  have hb := hF.2.1
  unfold f_X4_needList at h
  refine g_aload_n hx hb dX4_needList_0 rfl (lv_at hl 0 rfl) ?_
  refine lv_iload_n hx hb dX4_needList_1 rfl (lv_at hl 1 rfl) ?_
  have g := gckE h
  clear h
  obtain ⟨t1, h⟩ := g
  have t1 := eq_of_beq t1
  have g := gthE h
  clear h
  rcases g with ⟨v3, e2, h⟩ | ⟨y4, e2, z5⟩
  · refine g_callV (As := [.int x1]) (rest := []) hF hM (c_X4_held e2) k_X4_held u517 u519 u13 rfl rfl t1 rfl hl.1 rfl (Nat.le_of_ble_eq_true rfl) dX4_needList_2 ⟨(Nat.le_of_ble_eq_true rfl), (Nat.le_of_ble_eq_true rfl)⟩ ⟨(Nat.le_of_ble_eq_true rfl), (Nat.le_of_ble_eq_true rfl)⟩ (fun H locs hM => ?_)
    refine g_astore_n (i := 2) (lv' := [(0, va_rf (some a0)), (1, .int x1)]) hx hb dX4_needList_5 rfl hl (by decide) (fun v => rfl) (fun ls hl => ?_)
    refine g_aload_n hx hb dX4_needList_6 rfl (lv_at hl 0 rfl) ?_
    refine g_ifnull (tgt := 17) hx hb dX4_needList_7 (by decide) (fun c6 => ?_) (fun c6 => ?_)
    · replace h := (if_pos c6).symm.trans h
      exact nomatch (Option.some.inj h)
    · replace h := (if_neg c6).symm.trans h
      refine g_aload_n hx hb dX4_needList_10 rfl (lv_at hl 0 rfl) ?_
      have g := gbind h
      clear h
      obtain ⟨a7, e8, h⟩ := g
      have t9 := (gtk_of e8).2
      rw [(gtk_of e8).1]
      have g := gbind h
      clear h
      obtain ⟨v11, e10, h⟩ := g
      refine g_callV (As := []) (rest := []) hF hM (c_X1_isList e10) k_X1_isList u659 u250 u251 rfl rfl t9 rfl hl.1 rfl (Nat.le_of_ble_eq_true rfl) dX4_needList_11 ⟨(Nat.le_of_ble_eq_true rfl), (Nat.le_of_ble_eq_true rfl)⟩ ⟨(Nat.le_of_ble_eq_true rfl), (Nat.le_of_ble_eq_true rfl)⟩ (fun H locs hM => ?_)
      refine lv_if_ne (tgt := 25) hx hb dX4_needList_14 (by decide) (fun c12 => ?_) (fun c12 => ?_)
      · replace h := (if_neg c12).symm.trans h
        refine g_aload_n hx hb dX4_needList_25 rfl (lv_at hl 0 rfl) ?_
        rw [← (Sum.inl.inj (Option.some.inj h))]
        exact g_aret hF hM rfl (Or.inl ⟨_, rfl⟩) dX4_needList_26 (Nat.le_of_ble_eq_true rfl) (Nat.le_of_ble_eq_true rfl)
      · replace h := (if_pos c12).symm.trans h
        exact nomatch (Option.some.inj h)
  · exact nomatch z5
abbrev rmx_X4_needList : Room := { frames := 7, cells := 1, slots := 6, locals := 110 }
set_option maxHeartbeats 4000000 in
set_option maxRecDepth 100000 in
theorem cx_X4_needList {l : Launch} {D : va_G} {Y : Nat → ClassId} {S : GS} {hs : Nat} {a0 : Nat} {x1 : Int32} {x : Nat} (hfl : l.stackTraces = false) (h : f_X4_needList S a0 x1 = some (.inr x)) : gMx l yX4_needList (gWs yX4_needList cX4_needList 3 (some (.object "Viewhouse$Pane"))) rmx_X4_needList [va_rf (some a0), .int x1] D Y S hs (.inr x) := by
  refine g_ofWx (by decide +kernel) (Or.inl ⟨(Nat.le_of_ble_eq_true rfl), (List.forall_mem_cons.mpr ⟨rf_cat _, (List.forall_mem_cons.mpr ⟨rfl, (fun _ h => absurd h List.not_mem_nil)⟩)⟩)⟩) ?_
  intro p e s m args below meth c ls hsz hout hF hM hl
  have hl : lv_has ls 3 [(0, va_rf (some a0)), (1, .int x1)] := by rw [g_args [va_rf (some a0), .int x1] 0 (List.forall_mem_cons.mpr ⟨rf_cat _, (List.forall_mem_cons.mpr ⟨rfl, (fun _ h => absurd h List.not_mem_nil)⟩)⟩)] at hl; exact hl
  have hF : gF p s m args meth c RX4 cX4_needList 3 (some (.object "Viewhouse$Pane")) D Y (gA S hs) := hF
  have hx := hF.1
  have hb := hF.2.1
  unfold f_X4_needList at h
  refine g_aload_n hx hb dX4_needList_0 rfl (lv_at hl 0 rfl) ?_
  refine lv_iload_n hx hb dX4_needList_1 rfl (lv_at hl 1 rfl) ?_
  have g := gckE h
  clear h
  obtain ⟨t1, h⟩ := g
  have t1 := eq_of_beq t1
  have g := gthE h
  clear h
  rcases g with ⟨v3, e2, h⟩ | ⟨y4, e2, z5⟩
  · refine g_callV (As := [.int x1]) (rest := []) hF hM (c_X4_held e2) k_X4_held u517 u519 u13 rfl rfl t1 rfl hl.1 rfl (Nat.le_of_ble_eq_true rfl) dX4_needList_2 ⟨(Nat.le_of_ble_eq_true rfl), (Nat.le_of_ble_eq_true rfl)⟩ ⟨(Nat.le_of_ble_eq_true rfl), (Nat.le_of_ble_eq_true rfl)⟩ (fun H locs hM => ?_)
    refine g_astore_n (i := 2) (lv' := [(0, va_rf (some a0)), (1, .int x1)]) hx hb dX4_needList_5 rfl hl (by decide) (fun v => rfl) (fun ls hl => ?_)
    refine g_aload_n hx hb dX4_needList_6 rfl (lv_at hl 0 rfl) ?_
    refine g_ifnull (tgt := 17) hx hb dX4_needList_7 (by decide) (fun c6 => ?_) (fun c6 => ?_)
    · replace h := (if_pos c6).symm.trans h
      exact g_throw hF hM hfl hout ew_X4_50_52 (congrArg Sum.inr (Sum.inr.inj (Option.some.inj h)).symm) hl.1 dX4_needList_17 dX4_needList_20 dX4_needList_21 dX4_needList_24 (Nat.le_of_ble_eq_true rfl) (Nat.le_of_ble_eq_true rfl) (Nat.le_of_ble_eq_true rfl) (Nat.le_of_ble_eq_true rfl) (Nat.le_of_ble_eq_true rfl) (Nat.le_of_ble_eq_true rfl)
    · replace h := (if_neg c6).symm.trans h
      refine g_aload_n hx hb dX4_needList_10 rfl (lv_at hl 0 rfl) ?_
      have g := gbind h
      clear h
      obtain ⟨a7, e8, h⟩ := g
      have t9 := (gtk_of e8).2
      rw [(gtk_of e8).1]
      have g := gbind h
      clear h
      obtain ⟨v11, e10, h⟩ := g
      refine g_callV (As := []) (rest := []) hF hM (c_X1_isList e10) k_X1_isList u659 u250 u251 rfl rfl t9 rfl hl.1 rfl (Nat.le_of_ble_eq_true rfl) dX4_needList_11 ⟨(Nat.le_of_ble_eq_true rfl), (Nat.le_of_ble_eq_true rfl)⟩ ⟨(Nat.le_of_ble_eq_true rfl), (Nat.le_of_ble_eq_true rfl)⟩ (fun H locs hM => ?_)
      refine lv_if_ne (tgt := 25) hx hb dX4_needList_14 (by decide) (fun c12 => ?_) (fun c12 => ?_)
      · replace h := (if_neg c12).symm.trans h
        refine g_aload_n hx hb dX4_needList_25 rfl (lv_at hl 0 rfl) ?_
        exact nomatch (Option.some.inj h)
      · replace h := (if_pos c12).symm.trans h
        exact g_throw hF hM hfl hout ew_X4_50_52 (congrArg Sum.inr (Sum.inr.inj (Option.some.inj h)).symm) hl.1 dX4_needList_17 dX4_needList_20 dX4_needList_21 dX4_needList_24 (Nat.le_of_ble_eq_true rfl) (Nat.le_of_ble_eq_true rfl) (Nat.le_of_ble_eq_true rfl) (Nat.le_of_ble_eq_true rfl) (Nat.le_of_ble_eq_true rfl) (Nat.le_of_ble_eq_true rfl)
  · exact g_callVt (As := [.int x1]) (rest := []) hF hM hout (cx_X4_held hfl e2) k_X4_held u517 u519 u13 rfl rfl t1 rfl hl.1 rfl (Nat.le_of_ble_eq_true rfl) dX4_needList_2 ⟨(Nat.le_of_ble_eq_true rfl), (Nat.le_of_ble_eq_true rfl)⟩ ⟨(Nat.le_of_ble_eq_true rfl), (Nat.le_of_ble_eq_true rfl)⟩ (Nat.le_of_ble_eq_true rfl) (Nat.le_of_ble_eq_true rfl) (congrArg Sum.inr (Sum.inr.inj z5))
abbrev rm_X4_needPlace : Room := { frames := 1, cells := 0, slots := 0, locals := 20 }
theorem k_X4_needPlace : gKc yX4_needPlace cX4_needPlace 2 none 2 := ⟨u698, u63, by decide +kernel, by decide +kernel, by decide +kernel⟩
set_option maxHeartbeats 4000000 in
set_option maxRecDepth 100000 in
theorem c_X4_needPlace {l : Launch} {D : va_G} {Y : Nat → ClassId} {S : GS} {hs : Nat} {x0 : Option Nat} {x1 : Int32} {r : Unit} (h : f_X4_needPlace S x0 x1 = some (.inl r)) : gMet l yX4_needPlace (gWs yX4_needPlace cX4_needPlace 2 none) rm_X4_needPlace [va_rf x0, .int x1] D Y S hs none S hs := by
  refine g_ofW (by decide +kernel) (Or.inl ⟨(Nat.le_of_ble_eq_true rfl), (List.forall_mem_cons.mpr ⟨rf_cat _, (List.forall_mem_cons.mpr ⟨rfl, (fun _ h => absurd h List.not_mem_nil)⟩)⟩)⟩) ?_
  intro p e s m args below meth c ls hsz hname hF hM hl
  have hl : lv_has ls 2 [(0, va_rf x0), (1, .int x1)] := by rw [g_args [va_rf x0, .int x1] 0 (List.forall_mem_cons.mpr ⟨rf_cat _, (List.forall_mem_cons.mpr ⟨rfl, (fun _ h => absurd h List.not_mem_nil)⟩)⟩)] at hl; exact hl
  have hF : gF p s m args meth c RX4 cX4_needPlace 2 none D Y (gA S hs) := hF
  have hx := hF.1
  have hb := hF.2.1
  unfold f_X4_needPlace at h
  refine lv_iload_n hx hb dX4_needPlace_0 rfl (lv_at hl 1 rfl) ?_
  refine lv_if_lt (tgt := 12) hx hb dX4_needPlace_1 (by decide) (fun c1 => ?_) (fun c1 => ?_)
  · replace h := (if_pos c1).symm.trans h
    exact nomatch (Option.some.inj h)
  · replace h := (if_neg c1).symm.trans h
    refine lv_iload_n hx hb dX4_needPlace_4 rfl (lv_at hl 1 rfl) ?_
    refine g_aload_n hx hb dX4_needPlace_5 rfl (lv_at hl 0 rfl) ?_
    have g := gbind h
    clear h
    obtain ⟨a2, e3, h⟩ := g
    have t4 := (gtk_of e3).2
    rw [(gtk_of e3).1]
    have g := gbind h
    clear h
    obtain ⟨v6, e5, h⟩ := g
    refine g_callV (As := []) (rest := [.int x1]) hF hM (c_X1_count e5) k_X1_count u195 u196 u197 rfl rfl t4 rfl hl.1 rfl (Nat.le_of_ble_eq_true rfl) dX4_needPlace_6 ⟨(Nat.le_of_ble_eq_true rfl), (Nat.le_of_ble_eq_true rfl)⟩ ⟨(Nat.le_of_ble_eq_true rfl), (Nat.le_of_ble_eq_true rfl)⟩ (fun H locs hM => ?_)
    refine lv_icmp_lt (tgt := 20) hx hb dX4_needPlace_9 (by decide) (fun c7 => ?_) (fun c7 => ?_)
    · replace h := (if_pos c7).symm.trans h
      exact g_vret hF hM rfl dX4_needPlace_20 (Nat.le_of_ble_eq_true rfl) (Nat.le_of_ble_eq_true rfl)
    · replace h := (if_neg c7).symm.trans h
      exact nomatch (Option.some.inj h)
abbrev rmx_X4_needPlace : Room := { frames := 6, cells := 1, slots := 6, locals := 89 }
set_option maxHeartbeats 4000000 in
set_option maxRecDepth 100000 in
theorem cx_X4_needPlace {l : Launch} {D : va_G} {Y : Nat → ClassId} {S : GS} {hs : Nat} {x0 : Option Nat} {x1 : Int32} {x : Nat} (hfl : l.stackTraces = false) (h : f_X4_needPlace S x0 x1 = some (.inr x)) : gMx l yX4_needPlace (gWs yX4_needPlace cX4_needPlace 2 none) rmx_X4_needPlace [va_rf x0, .int x1] D Y S hs (.inr x) := by
  refine g_ofWx (by decide +kernel) (Or.inl ⟨(Nat.le_of_ble_eq_true rfl), (List.forall_mem_cons.mpr ⟨rf_cat _, (List.forall_mem_cons.mpr ⟨rfl, (fun _ h => absurd h List.not_mem_nil)⟩)⟩)⟩) ?_
  intro p e s m args below meth c ls hsz hout hF hM hl
  have hl : lv_has ls 2 [(0, va_rf x0), (1, .int x1)] := by rw [g_args [va_rf x0, .int x1] 0 (List.forall_mem_cons.mpr ⟨rf_cat _, (List.forall_mem_cons.mpr ⟨rfl, (fun _ h => absurd h List.not_mem_nil)⟩)⟩)] at hl; exact hl
  have hF : gF p s m args meth c RX4 cX4_needPlace 2 none D Y (gA S hs) := hF
  have hx := hF.1
  have hb := hF.2.1
  unfold f_X4_needPlace at h
  refine lv_iload_n hx hb dX4_needPlace_0 rfl (lv_at hl 1 rfl) ?_
  refine lv_if_lt (tgt := 12) hx hb dX4_needPlace_1 (by decide) (fun c1 => ?_) (fun c1 => ?_)
  · replace h := (if_pos c1).symm.trans h
    exact g_throw hF hM hfl hout ew_X4_57_59 (congrArg Sum.inr (Sum.inr.inj (Option.some.inj h)).symm) hl.1 dX4_needPlace_12 dX4_needPlace_15 dX4_needPlace_16 dX4_needPlace_19 (Nat.le_of_ble_eq_true rfl) (Nat.le_of_ble_eq_true rfl) (Nat.le_of_ble_eq_true rfl) (Nat.le_of_ble_eq_true rfl) (Nat.le_of_ble_eq_true rfl) (Nat.le_of_ble_eq_true rfl)
  · replace h := (if_neg c1).symm.trans h
    refine lv_iload_n hx hb dX4_needPlace_4 rfl (lv_at hl 1 rfl) ?_
    refine g_aload_n hx hb dX4_needPlace_5 rfl (lv_at hl 0 rfl) ?_
    have g := gbind h
    clear h
    obtain ⟨a2, e3, h⟩ := g
    have t4 := (gtk_of e3).2
    rw [(gtk_of e3).1]
    have g := gbind h
    clear h
    obtain ⟨v6, e5, h⟩ := g
    refine g_callV (As := []) (rest := [.int x1]) hF hM (c_X1_count e5) k_X1_count u195 u196 u197 rfl rfl t4 rfl hl.1 rfl (Nat.le_of_ble_eq_true rfl) dX4_needPlace_6 ⟨(Nat.le_of_ble_eq_true rfl), (Nat.le_of_ble_eq_true rfl)⟩ ⟨(Nat.le_of_ble_eq_true rfl), (Nat.le_of_ble_eq_true rfl)⟩ (fun H locs hM => ?_)
    refine lv_icmp_lt (tgt := 20) hx hb dX4_needPlace_9 (by decide) (fun c7 => ?_) (fun c7 => ?_)
    · replace h := (if_pos c7).symm.trans h
      exact nomatch (Option.some.inj h)
    · replace h := (if_neg c7).symm.trans h
      exact g_throw hF hM hfl hout ew_X4_57_59 (congrArg Sum.inr (Sum.inr.inj (Option.some.inj h)).symm) hl.1 dX4_needPlace_12 dX4_needPlace_15 dX4_needPlace_16 dX4_needPlace_19 (Nat.le_of_ble_eq_true rfl) (Nat.le_of_ble_eq_true rfl) (Nat.le_of_ble_eq_true rfl) (Nat.le_of_ble_eq_true rfl) (Nat.le_of_ble_eq_true rfl) (Nat.le_of_ble_eq_true rfl)
abbrev rm_X4_keyAt : Room := { frames := 2, cells := 0, slots := 0, locals := 43 }
theorem k_X4_keyAt : gKc yX4_keyAt cX4_keyAt 4 (some .int) 2 := ⟨u691, u63, by decide +kernel, by decide +kernel, by decide +kernel⟩
set_option maxHeartbeats 4000000 in
set_option maxRecDepth 100000 in
theorem c_X4_keyAt {l : Launch} {D : va_G} {Y : Nat → ClassId} {S : GS} {hs : Nat} {a0 : Nat} {x1 : Int32} {x2 : Int32} {r : Int32} (h : f_X4_keyAt S a0 x1 x2 = some (.inl r)) : gMet l yX4_keyAt (gWs yX4_keyAt cX4_keyAt 4 (some .int)) rm_X4_keyAt [va_rf (some a0), .int x1, .int x2] D Y S hs (some (.int r)) S hs := by
  refine g_ofW (by decide +kernel) (Or.inl ⟨(Nat.le_of_ble_eq_true rfl), (List.forall_mem_cons.mpr ⟨rf_cat _, (List.forall_mem_cons.mpr ⟨rfl, (List.forall_mem_cons.mpr ⟨rfl, (fun _ h => absurd h List.not_mem_nil)⟩)⟩)⟩)⟩) ?_
  intro p e s m args below meth c ls hsz hname hF hM hl
  have hl : lv_has ls 4 [(0, va_rf (some a0)), (1, .int x1), (2, .int x2)] := by rw [g_args [va_rf (some a0), .int x1, .int x2] 0 (List.forall_mem_cons.mpr ⟨rf_cat _, (List.forall_mem_cons.mpr ⟨rfl, (List.forall_mem_cons.mpr ⟨rfl, (fun _ h => absurd h List.not_mem_nil)⟩)⟩)⟩)] at hl; exact hl
  have hF : gF p s m args meth c RX4 cX4_keyAt 4 (some .int) D Y (gA S hs) := hF
  have hx := hF.1
  have hb := hF.2.1
  unfold f_X4_keyAt at h
  refine g_aload_n hx hb dX4_keyAt_0 rfl (lv_at hl 0 rfl) ?_
  refine lv_iload_n hx hb dX4_keyAt_1 rfl (lv_at hl 1 rfl) ?_
  have g := gckE h
  clear h
  obtain ⟨t1, h⟩ := g
  have t1 := eq_of_beq t1
  have g := gthE h
  clear h
  rcases g with ⟨v3, e2, h⟩ | ⟨y4, e2, z5⟩
  · refine g_callV (As := [.int x1]) (rest := []) hF hM (c_X4_needList e2) k_X4_needList u692 u694 u17 rfl rfl t1 rfl hl.1 rfl (Nat.le_of_ble_eq_true rfl) dX4_keyAt_2 ⟨(Nat.le_of_ble_eq_true rfl), (Nat.le_of_ble_eq_true rfl)⟩ ⟨(Nat.le_of_ble_eq_true rfl), (Nat.le_of_ble_eq_true rfl)⟩ (fun H locs hM => ?_)
    refine g_astore_n (i := 3) (lv' := [(0, va_rf (some a0)), (1, .int x1), (2, .int x2)]) hx hb dX4_keyAt_5 rfl hl (by decide) (fun v => rfl) (fun ls hl => ?_)
    refine g_aload_n hx hb dX4_keyAt_6 rfl (lv_at hl 0 rfl) ?_
    refine lv_iload_n hx hb dX4_keyAt_7 rfl (lv_at hl 3 rfl) ?_
    have g := gthE h
    clear h
    rcases g with ⟨w7, e6, h⟩ | ⟨y8, e6, z9⟩
    · refine g_callS (As := [va_rf v3, .int x2]) (rest := []) hF hM (c_X4_needPlace e6) k_X4_needPlace u696 u697 rfl hl.1 rfl (Nat.le_of_ble_eq_true rfl) dX4_keyAt_8 ⟨(Nat.le_of_ble_eq_true rfl), (Nat.le_of_ble_eq_true rfl)⟩ ⟨(Nat.le_of_ble_eq_true rfl), (Nat.le_of_ble_eq_true rfl)⟩ (fun H locs hM => ?_)
      refine g_aload_n hx hb dX4_keyAt_11 rfl (lv_at hl 0 rfl) ?_
      refine lv_iload_n hx hb dX4_keyAt_12 rfl (lv_at hl 3 rfl) ?_
      have g := gbind h
      clear h
      obtain ⟨a10, e11, h⟩ := g
      have t12 := (gtk_of e11).2
      rw [(gtk_of e11).1]
      have g := gbind h
      clear h
      obtain ⟨v14, e13, h⟩ := g
      refine g_callV (As := [.int x2]) (rest := []) hF hM (c_X1_keyOf e13) k_X1_keyOf u699 u226 u227 rfl rfl t12 rfl hl.1 rfl (Nat.le_of_ble_eq_true rfl) dX4_keyAt_13 ⟨(Nat.le_of_ble_eq_true rfl), (Nat.le_of_ble_eq_true rfl)⟩ ⟨(Nat.le_of_ble_eq_true rfl), (Nat.le_of_ble_eq_true rfl)⟩ (fun H locs hM => ?_)
      rw [← (Sum.inl.inj (Option.some.inj h))]
      exact g_iret hF hM rfl rfl dX4_keyAt_16 (Nat.le_of_ble_eq_true rfl) (Nat.le_of_ble_eq_true rfl)
    · exact nomatch z9
  · exact nomatch z5
abbrev rmx_X4_keyAt : Room := { frames := 8, cells := 1, slots := 6, locals := 132 }
set_option maxHeartbeats 4000000 in
set_option maxRecDepth 100000 in
theorem cx_X4_keyAt {l : Launch} {D : va_G} {Y : Nat → ClassId} {S : GS} {hs : Nat} {a0 : Nat} {x1 : Int32} {x2 : Int32} {x : Nat} (hfl : l.stackTraces = false) (h : f_X4_keyAt S a0 x1 x2 = some (.inr x)) : gMx l yX4_keyAt (gWs yX4_keyAt cX4_keyAt 4 (some .int)) rmx_X4_keyAt [va_rf (some a0), .int x1, .int x2] D Y S hs (.inr x) := by
  refine g_ofWx (by decide +kernel) (Or.inl ⟨(Nat.le_of_ble_eq_true rfl), (List.forall_mem_cons.mpr ⟨rf_cat _, (List.forall_mem_cons.mpr ⟨rfl, (List.forall_mem_cons.mpr ⟨rfl, (fun _ h => absurd h List.not_mem_nil)⟩)⟩)⟩)⟩) ?_
  intro p e s m args below meth c ls hsz hout hF hM hl
  have hl : lv_has ls 4 [(0, va_rf (some a0)), (1, .int x1), (2, .int x2)] := by rw [g_args [va_rf (some a0), .int x1, .int x2] 0 (List.forall_mem_cons.mpr ⟨rf_cat _, (List.forall_mem_cons.mpr ⟨rfl, (List.forall_mem_cons.mpr ⟨rfl, (fun _ h => absurd h List.not_mem_nil)⟩)⟩)⟩)] at hl; exact hl
  have hF : gF p s m args meth c RX4 cX4_keyAt 4 (some .int) D Y (gA S hs) := hF
  have hx := hF.1
  have hb := hF.2.1
  unfold f_X4_keyAt at h
  refine g_aload_n hx hb dX4_keyAt_0 rfl (lv_at hl 0 rfl) ?_
  refine lv_iload_n hx hb dX4_keyAt_1 rfl (lv_at hl 1 rfl) ?_
  have g := gckE h
  clear h
  obtain ⟨t1, h⟩ := g
  have t1 := eq_of_beq t1
  have g := gthE h
  clear h
  rcases g with ⟨v3, e2, h⟩ | ⟨y4, e2, z5⟩
  · refine g_callV (As := [.int x1]) (rest := []) hF hM (c_X4_needList e2) k_X4_needList u692 u694 u17 rfl rfl t1 rfl hl.1 rfl (Nat.le_of_ble_eq_true rfl) dX4_keyAt_2 ⟨(Nat.le_of_ble_eq_true rfl), (Nat.le_of_ble_eq_true rfl)⟩ ⟨(Nat.le_of_ble_eq_true rfl), (Nat.le_of_ble_eq_true rfl)⟩ (fun H locs hM => ?_)
    refine g_astore_n (i := 3) (lv' := [(0, va_rf (some a0)), (1, .int x1), (2, .int x2)]) hx hb dX4_keyAt_5 rfl hl (by decide) (fun v => rfl) (fun ls hl => ?_)
    refine g_aload_n hx hb dX4_keyAt_6 rfl (lv_at hl 0 rfl) ?_
    refine lv_iload_n hx hb dX4_keyAt_7 rfl (lv_at hl 3 rfl) ?_
    have g := gthE h
    clear h
    rcases g with ⟨w7, e6, h⟩ | ⟨y8, e6, z9⟩
    · refine g_callS (As := [va_rf v3, .int x2]) (rest := []) hF hM (c_X4_needPlace e6) k_X4_needPlace u696 u697 rfl hl.1 rfl (Nat.le_of_ble_eq_true rfl) dX4_keyAt_8 ⟨(Nat.le_of_ble_eq_true rfl), (Nat.le_of_ble_eq_true rfl)⟩ ⟨(Nat.le_of_ble_eq_true rfl), (Nat.le_of_ble_eq_true rfl)⟩ (fun H locs hM => ?_)
      refine g_aload_n hx hb dX4_keyAt_11 rfl (lv_at hl 0 rfl) ?_
      refine lv_iload_n hx hb dX4_keyAt_12 rfl (lv_at hl 3 rfl) ?_
      have g := gbind h
      clear h
      obtain ⟨a10, e11, h⟩ := g
      have t12 := (gtk_of e11).2
      rw [(gtk_of e11).1]
      have g := gbind h
      clear h
      obtain ⟨v14, e13, h⟩ := g
      refine g_callV (As := [.int x2]) (rest := []) hF hM (c_X1_keyOf e13) k_X1_keyOf u699 u226 u227 rfl rfl t12 rfl hl.1 rfl (Nat.le_of_ble_eq_true rfl) dX4_keyAt_13 ⟨(Nat.le_of_ble_eq_true rfl), (Nat.le_of_ble_eq_true rfl)⟩ ⟨(Nat.le_of_ble_eq_true rfl), (Nat.le_of_ble_eq_true rfl)⟩ (fun H locs hM => ?_)
      exact nomatch (Option.some.inj h)
    · exact g_callSt (As := [va_rf v3, .int x2]) (rest := []) hF hM hout (cx_X4_needPlace hfl e6) k_X4_needPlace u696 u697 rfl hl.1 rfl (Nat.le_of_ble_eq_true rfl) dX4_keyAt_8 ⟨(Nat.le_of_ble_eq_true rfl), (Nat.le_of_ble_eq_true rfl)⟩ ⟨(Nat.le_of_ble_eq_true rfl), (Nat.le_of_ble_eq_true rfl)⟩ (Nat.le_of_ble_eq_true rfl) (Nat.le_of_ble_eq_true rfl) (congrArg Sum.inr (Sum.inr.inj z9))
  · exact g_callVt (As := [.int x1]) (rest := []) hF hM hout (cx_X4_needList hfl e2) k_X4_needList u692 u694 u17 rfl rfl t1 rfl hl.1 rfl (Nat.le_of_ble_eq_true rfl) dX4_keyAt_2 ⟨(Nat.le_of_ble_eq_true rfl), (Nat.le_of_ble_eq_true rfl)⟩ ⟨(Nat.le_of_ble_eq_true rfl), (Nat.le_of_ble_eq_true rfl)⟩ (Nat.le_of_ble_eq_true rfl) (Nat.le_of_ble_eq_true rfl) (congrArg Sum.inr (Sum.inr.inj z5))
abbrev rm_X4_markAt : Room := { frames := 2, cells := 0, slots := 0, locals := 43 }
theorem k_X4_markAt : gKc yX4_markAt cX4_markAt 4 (some .int) 2 := ⟨u706, u63, by decide +kernel, by decide +kernel, by decide +kernel⟩
set_option maxHeartbeats 4000000 in
set_option maxRecDepth 100000 in
theorem c_X4_markAt {l : Launch} {D : va_G} {Y : Nat → ClassId} {S : GS} {hs : Nat} {a0 : Nat} {x1 : Int32} {x2 : Int32} {r : Int32} (h : f_X4_markAt S a0 x1 x2 = some (.inl r)) : gMet l yX4_markAt (gWs yX4_markAt cX4_markAt 4 (some .int)) rm_X4_markAt [va_rf (some a0), .int x1, .int x2] D Y S hs (some (.int r)) S hs := by
  refine g_ofW (by decide +kernel) (Or.inl ⟨(Nat.le_of_ble_eq_true rfl), (List.forall_mem_cons.mpr ⟨rf_cat _, (List.forall_mem_cons.mpr ⟨rfl, (List.forall_mem_cons.mpr ⟨rfl, (fun _ h => absurd h List.not_mem_nil)⟩)⟩)⟩)⟩) ?_
  intro p e s m args below meth c ls hsz hname hF hM hl
  have hl : lv_has ls 4 [(0, va_rf (some a0)), (1, .int x1), (2, .int x2)] := by rw [g_args [va_rf (some a0), .int x1, .int x2] 0 (List.forall_mem_cons.mpr ⟨rf_cat _, (List.forall_mem_cons.mpr ⟨rfl, (List.forall_mem_cons.mpr ⟨rfl, (fun _ h => absurd h List.not_mem_nil)⟩)⟩)⟩)] at hl; exact hl
  have hF : gF p s m args meth c RX4 cX4_markAt 4 (some .int) D Y (gA S hs) := hF
  have hx := hF.1
  have hb := hF.2.1
  unfold f_X4_markAt at h
  refine g_aload_n hx hb dX4_markAt_0 rfl (lv_at hl 0 rfl) ?_
  refine lv_iload_n hx hb dX4_markAt_1 rfl (lv_at hl 1 rfl) ?_
  have g := gckE h
  clear h
  obtain ⟨t1, h⟩ := g
  have t1 := eq_of_beq t1
  have g := gthE h
  clear h
  rcases g with ⟨v3, e2, h⟩ | ⟨y4, e2, z5⟩
  · refine g_callV (As := [.int x1]) (rest := []) hF hM (c_X4_needList e2) k_X4_needList u692 u694 u17 rfl rfl t1 rfl hl.1 rfl (Nat.le_of_ble_eq_true rfl) dX4_markAt_2 ⟨(Nat.le_of_ble_eq_true rfl), (Nat.le_of_ble_eq_true rfl)⟩ ⟨(Nat.le_of_ble_eq_true rfl), (Nat.le_of_ble_eq_true rfl)⟩ (fun H locs hM => ?_)
    refine g_astore_n (i := 3) (lv' := [(0, va_rf (some a0)), (1, .int x1), (2, .int x2)]) hx hb dX4_markAt_5 rfl hl (by decide) (fun v => rfl) (fun ls hl => ?_)
    refine g_aload_n hx hb dX4_markAt_6 rfl (lv_at hl 0 rfl) ?_
    refine lv_iload_n hx hb dX4_markAt_7 rfl (lv_at hl 3 rfl) ?_
    have g := gthE h
    clear h
    rcases g with ⟨w7, e6, h⟩ | ⟨y8, e6, z9⟩
    · refine g_callS (As := [va_rf v3, .int x2]) (rest := []) hF hM (c_X4_needPlace e6) k_X4_needPlace u696 u697 rfl hl.1 rfl (Nat.le_of_ble_eq_true rfl) dX4_markAt_8 ⟨(Nat.le_of_ble_eq_true rfl), (Nat.le_of_ble_eq_true rfl)⟩ ⟨(Nat.le_of_ble_eq_true rfl), (Nat.le_of_ble_eq_true rfl)⟩ (fun H locs hM => ?_)
      refine g_aload_n hx hb dX4_markAt_11 rfl (lv_at hl 0 rfl) ?_
      refine lv_iload_n hx hb dX4_markAt_12 rfl (lv_at hl 3 rfl) ?_
      have g := gbind h
      clear h
      obtain ⟨a10, e11, h⟩ := g
      have t12 := (gtk_of e11).2
      rw [(gtk_of e11).1]
      have g := gbind h
      clear h
      obtain ⟨v14, e13, h⟩ := g
      refine g_callV (As := [.int x2]) (rest := []) hF hM (c_X1_markOf e13) k_X1_markOf u707 u234 u235 rfl rfl t12 rfl hl.1 rfl (Nat.le_of_ble_eq_true rfl) dX4_markAt_13 ⟨(Nat.le_of_ble_eq_true rfl), (Nat.le_of_ble_eq_true rfl)⟩ ⟨(Nat.le_of_ble_eq_true rfl), (Nat.le_of_ble_eq_true rfl)⟩ (fun H locs hM => ?_)
      rw [← (Sum.inl.inj (Option.some.inj h))]
      exact g_iret hF hM rfl rfl dX4_markAt_16 (Nat.le_of_ble_eq_true rfl) (Nat.le_of_ble_eq_true rfl)
    · exact nomatch z9
  · exact nomatch z5
abbrev rmx_X4_markAt : Room := { frames := 8, cells := 1, slots := 6, locals := 132 }
set_option maxHeartbeats 4000000 in
set_option maxRecDepth 100000 in
theorem cx_X4_markAt {l : Launch} {D : va_G} {Y : Nat → ClassId} {S : GS} {hs : Nat} {a0 : Nat} {x1 : Int32} {x2 : Int32} {x : Nat} (hfl : l.stackTraces = false) (h : f_X4_markAt S a0 x1 x2 = some (.inr x)) : gMx l yX4_markAt (gWs yX4_markAt cX4_markAt 4 (some .int)) rmx_X4_markAt [va_rf (some a0), .int x1, .int x2] D Y S hs (.inr x) := by
  refine g_ofWx (by decide +kernel) (Or.inl ⟨(Nat.le_of_ble_eq_true rfl), (List.forall_mem_cons.mpr ⟨rf_cat _, (List.forall_mem_cons.mpr ⟨rfl, (List.forall_mem_cons.mpr ⟨rfl, (fun _ h => absurd h List.not_mem_nil)⟩)⟩)⟩)⟩) ?_
  intro p e s m args below meth c ls hsz hout hF hM hl
  have hl : lv_has ls 4 [(0, va_rf (some a0)), (1, .int x1), (2, .int x2)] := by rw [g_args [va_rf (some a0), .int x1, .int x2] 0 (List.forall_mem_cons.mpr ⟨rf_cat _, (List.forall_mem_cons.mpr ⟨rfl, (List.forall_mem_cons.mpr ⟨rfl, (fun _ h => absurd h List.not_mem_nil)⟩)⟩)⟩)] at hl; exact hl
  have hF : gF p s m args meth c RX4 cX4_markAt 4 (some .int) D Y (gA S hs) := hF
  have hx := hF.1
  have hb := hF.2.1
  unfold f_X4_markAt at h
  refine g_aload_n hx hb dX4_markAt_0 rfl (lv_at hl 0 rfl) ?_
  refine lv_iload_n hx hb dX4_markAt_1 rfl (lv_at hl 1 rfl) ?_
  have g := gckE h
  clear h
  obtain ⟨t1, h⟩ := g
  have t1 := eq_of_beq t1
  have g := gthE h
  clear h
  rcases g with ⟨v3, e2, h⟩ | ⟨y4, e2, z5⟩
  · refine g_callV (As := [.int x1]) (rest := []) hF hM (c_X4_needList e2) k_X4_needList u692 u694 u17 rfl rfl t1 rfl hl.1 rfl (Nat.le_of_ble_eq_true rfl) dX4_markAt_2 ⟨(Nat.le_of_ble_eq_true rfl), (Nat.le_of_ble_eq_true rfl)⟩ ⟨(Nat.le_of_ble_eq_true rfl), (Nat.le_of_ble_eq_true rfl)⟩ (fun H locs hM => ?_)
    refine g_astore_n (i := 3) (lv' := [(0, va_rf (some a0)), (1, .int x1), (2, .int x2)]) hx hb dX4_markAt_5 rfl hl (by decide) (fun v => rfl) (fun ls hl => ?_)
    refine g_aload_n hx hb dX4_markAt_6 rfl (lv_at hl 0 rfl) ?_
    refine lv_iload_n hx hb dX4_markAt_7 rfl (lv_at hl 3 rfl) ?_
    have g := gthE h
    clear h
    rcases g with ⟨w7, e6, h⟩ | ⟨y8, e6, z9⟩
    · refine g_callS (As := [va_rf v3, .int x2]) (rest := []) hF hM (c_X4_needPlace e6) k_X4_needPlace u696 u697 rfl hl.1 rfl (Nat.le_of_ble_eq_true rfl) dX4_markAt_8 ⟨(Nat.le_of_ble_eq_true rfl), (Nat.le_of_ble_eq_true rfl)⟩ ⟨(Nat.le_of_ble_eq_true rfl), (Nat.le_of_ble_eq_true rfl)⟩ (fun H locs hM => ?_)
      refine g_aload_n hx hb dX4_markAt_11 rfl (lv_at hl 0 rfl) ?_
      refine lv_iload_n hx hb dX4_markAt_12 rfl (lv_at hl 3 rfl) ?_
      have g := gbind h
      clear h
      obtain ⟨a10, e11, h⟩ := g
      have t12 := (gtk_of e11).2
      rw [(gtk_of e11).1]
      have g := gbind h
      clear h
      obtain ⟨v14, e13, h⟩ := g
      refine g_callV (As := [.int x2]) (rest := []) hF hM (c_X1_markOf e13) k_X1_markOf u707 u234 u235 rfl rfl t12 rfl hl.1 rfl (Nat.le_of_ble_eq_true rfl) dX4_markAt_13 ⟨(Nat.le_of_ble_eq_true rfl), (Nat.le_of_ble_eq_true rfl)⟩ ⟨(Nat.le_of_ble_eq_true rfl), (Nat.le_of_ble_eq_true rfl)⟩ (fun H locs hM => ?_)
      exact nomatch (Option.some.inj h)
    · exact g_callSt (As := [va_rf v3, .int x2]) (rest := []) hF hM hout (cx_X4_needPlace hfl e6) k_X4_needPlace u696 u697 rfl hl.1 rfl (Nat.le_of_ble_eq_true rfl) dX4_markAt_8 ⟨(Nat.le_of_ble_eq_true rfl), (Nat.le_of_ble_eq_true rfl)⟩ ⟨(Nat.le_of_ble_eq_true rfl), (Nat.le_of_ble_eq_true rfl)⟩ (Nat.le_of_ble_eq_true rfl) (Nat.le_of_ble_eq_true rfl) (congrArg Sum.inr (Sum.inr.inj z9))
  · exact g_callVt (As := [.int x1]) (rest := []) hF hM hout (cx_X4_needList hfl e2) k_X4_needList u692 u694 u17 rfl rfl t1 rfl hl.1 rfl (Nat.le_of_ble_eq_true rfl) dX4_markAt_2 ⟨(Nat.le_of_ble_eq_true rfl), (Nat.le_of_ble_eq_true rfl)⟩ ⟨(Nat.le_of_ble_eq_true rfl), (Nat.le_of_ble_eq_true rfl)⟩ (Nat.le_of_ble_eq_true rfl) (Nat.le_of_ble_eq_true rfl) (congrArg Sum.inr (Sum.inr.inj z5))
abbrev rm_X4_placeOf : Room := { frames := 4, cells := 0, slots := 0, locals := 91 }
theorem k_X4_placeOf : gKc yX4_placeOf cX4_placeOf 5 (some .int) 4 := ⟨u714, u63, by decide +kernel, by decide +kernel, by decide +kernel⟩
set_option maxHeartbeats 4000000 in
set_option maxRecDepth 100000 in
theorem c_X4_placeOf {l : Launch} {D : va_G} {Y : Nat → ClassId} {S : GS} {hs : Nat} {a0 : Nat} {x1 : Int32} {x2 : Int32} {x3 : Int32} {x4 : Int32} {r : Int32} (h : f_X4_placeOf S a0 x1 x2 x3 x4 = some (.inl r)) : gMet l yX4_placeOf (gWs yX4_placeOf cX4_placeOf 5 (some .int)) rm_X4_placeOf [va_rf (some a0), .int x1, .int x2, .int x3, .int x4] D Y S hs (some (.int r)) S hs := by
  refine g_ofW (by decide +kernel) (Or.inl ⟨(Nat.le_of_ble_eq_true rfl), (List.forall_mem_cons.mpr ⟨rf_cat _, (List.forall_mem_cons.mpr ⟨rfl, (List.forall_mem_cons.mpr ⟨rfl, (List.forall_mem_cons.mpr ⟨rfl, (List.forall_mem_cons.mpr ⟨rfl, (fun _ h => absurd h List.not_mem_nil)⟩)⟩)⟩)⟩)⟩)⟩) ?_
  intro p e s m args below meth c ls hsz hname hF hM hl
  have hl : lv_has ls 5 [(0, va_rf (some a0)), (1, .int x1), (2, .int x2), (3, .int x3), (4, .int x4)] := by rw [g_args [va_rf (some a0), .int x1, .int x2, .int x3, .int x4] 0 (List.forall_mem_cons.mpr ⟨rf_cat _, (List.forall_mem_cons.mpr ⟨rfl, (List.forall_mem_cons.mpr ⟨rfl, (List.forall_mem_cons.mpr ⟨rfl, (List.forall_mem_cons.mpr ⟨rfl, (fun _ h => absurd h List.not_mem_nil)⟩)⟩)⟩)⟩)⟩)] at hl; exact hl
  have hF : gF p s m args meth c RX4 cX4_placeOf 5 (some .int) D Y (gA S hs) := hF
  have hx := hF.1
  have hb := hF.2.1
  unfold f_X4_placeOf at h
  refine g_aload_n hx hb dX4_placeOf_0 rfl (lv_at hl 0 rfl) ?_
  refine lv_iload_n hx hb dX4_placeOf_1 rfl (lv_at hl 1 rfl) ?_
  have g := gckE h
  clear h
  obtain ⟨t1, h⟩ := g
  have t1 := eq_of_beq t1
  have g := gthE h
  clear h
  rcases g with ⟨v3, e2, h⟩ | ⟨y4, e2, z5⟩
  · refine g_callV (As := [.int x1]) (rest := []) hF hM (c_X4_needList e2) k_X4_needList u692 u694 u17 rfl rfl t1 rfl hl.1 rfl (Nat.le_of_ble_eq_true rfl) dX4_placeOf_2 ⟨(Nat.le_of_ble_eq_true rfl), (Nat.le_of_ble_eq_true rfl)⟩ ⟨(Nat.le_of_ble_eq_true rfl), (Nat.le_of_ble_eq_true rfl)⟩ (fun H locs hM => ?_)
    refine lv_iload_n hx hb dX4_placeOf_5 rfl (lv_at hl 2 rfl) ?_
    refine lv_iload_n hx hb dX4_placeOf_6 rfl (lv_at hl 3 rfl) ?_
    refine lv_iload hx hb dX4_placeOf_7 (lv_at hl 4 rfl) ?_
    have g := gbind h
    clear h
    obtain ⟨a6, e7, h⟩ := g
    have t8 := (gtk_of e7).2
    rw [(gtk_of e7).1]
    have g := gbind h
    clear h
    obtain ⟨v10, e9, h⟩ := g
    refine g_callV (As := [.int x2, .int x3, .int x4]) (rest := []) hF hM (c_X1_find e9) k_X1_find u715 u716 u717 rfl rfl t8 rfl hl.1 rfl (Nat.le_of_ble_eq_true rfl) dX4_placeOf_9 ⟨(Nat.le_of_ble_eq_true rfl), (Nat.le_of_ble_eq_true rfl)⟩ ⟨(Nat.le_of_ble_eq_true rfl), (Nat.le_of_ble_eq_true rfl)⟩ (fun H locs hM => ?_)
    rw [← (Sum.inl.inj (Option.some.inj h))]
    exact g_iret hF hM rfl rfl dX4_placeOf_12 (Nat.le_of_ble_eq_true rfl) (Nat.le_of_ble_eq_true rfl)
  · exact nomatch z5
abbrev rmx_X4_placeOf : Room := { frames := 8, cells := 1, slots := 6, locals := 132 }
set_option maxHeartbeats 4000000 in
set_option maxRecDepth 100000 in
theorem cx_X4_placeOf {l : Launch} {D : va_G} {Y : Nat → ClassId} {S : GS} {hs : Nat} {a0 : Nat} {x1 : Int32} {x2 : Int32} {x3 : Int32} {x4 : Int32} {x : Nat} (hfl : l.stackTraces = false) (h : f_X4_placeOf S a0 x1 x2 x3 x4 = some (.inr x)) : gMx l yX4_placeOf (gWs yX4_placeOf cX4_placeOf 5 (some .int)) rmx_X4_placeOf [va_rf (some a0), .int x1, .int x2, .int x3, .int x4] D Y S hs (.inr x) := by
  refine g_ofWx (by decide +kernel) (Or.inl ⟨(Nat.le_of_ble_eq_true rfl), (List.forall_mem_cons.mpr ⟨rf_cat _, (List.forall_mem_cons.mpr ⟨rfl, (List.forall_mem_cons.mpr ⟨rfl, (List.forall_mem_cons.mpr ⟨rfl, (List.forall_mem_cons.mpr ⟨rfl, (fun _ h => absurd h List.not_mem_nil)⟩)⟩)⟩)⟩)⟩)⟩) ?_
  intro p e s m args below meth c ls hsz hout hF hM hl
  have hl : lv_has ls 5 [(0, va_rf (some a0)), (1, .int x1), (2, .int x2), (3, .int x3), (4, .int x4)] := by rw [g_args [va_rf (some a0), .int x1, .int x2, .int x3, .int x4] 0 (List.forall_mem_cons.mpr ⟨rf_cat _, (List.forall_mem_cons.mpr ⟨rfl, (List.forall_mem_cons.mpr ⟨rfl, (List.forall_mem_cons.mpr ⟨rfl, (List.forall_mem_cons.mpr ⟨rfl, (fun _ h => absurd h List.not_mem_nil)⟩)⟩)⟩)⟩)⟩)] at hl; exact hl
  have hF : gF p s m args meth c RX4 cX4_placeOf 5 (some .int) D Y (gA S hs) := hF
  have hx := hF.1
  have hb := hF.2.1
  unfold f_X4_placeOf at h
  refine g_aload_n hx hb dX4_placeOf_0 rfl (lv_at hl 0 rfl) ?_
  refine lv_iload_n hx hb dX4_placeOf_1 rfl (lv_at hl 1 rfl) ?_
  have g := gckE h
  clear h
  obtain ⟨t1, h⟩ := g
  have t1 := eq_of_beq t1
  have g := gthE h
  clear h
  rcases g with ⟨v3, e2, h⟩ | ⟨y4, e2, z5⟩
  · refine g_callV (As := [.int x1]) (rest := []) hF hM (c_X4_needList e2) k_X4_needList u692 u694 u17 rfl rfl t1 rfl hl.1 rfl (Nat.le_of_ble_eq_true rfl) dX4_placeOf_2 ⟨(Nat.le_of_ble_eq_true rfl), (Nat.le_of_ble_eq_true rfl)⟩ ⟨(Nat.le_of_ble_eq_true rfl), (Nat.le_of_ble_eq_true rfl)⟩ (fun H locs hM => ?_)
    refine lv_iload_n hx hb dX4_placeOf_5 rfl (lv_at hl 2 rfl) ?_
    refine lv_iload_n hx hb dX4_placeOf_6 rfl (lv_at hl 3 rfl) ?_
    refine lv_iload hx hb dX4_placeOf_7 (lv_at hl 4 rfl) ?_
    have g := gbind h
    clear h
    obtain ⟨a6, e7, h⟩ := g
    have t8 := (gtk_of e7).2
    rw [(gtk_of e7).1]
    have g := gbind h
    clear h
    obtain ⟨v10, e9, h⟩ := g
    refine g_callV (As := [.int x2, .int x3, .int x4]) (rest := []) hF hM (c_X1_find e9) k_X1_find u715 u716 u717 rfl rfl t8 rfl hl.1 rfl (Nat.le_of_ble_eq_true rfl) dX4_placeOf_9 ⟨(Nat.le_of_ble_eq_true rfl), (Nat.le_of_ble_eq_true rfl)⟩ ⟨(Nat.le_of_ble_eq_true rfl), (Nat.le_of_ble_eq_true rfl)⟩ (fun H locs hM => ?_)
    exact nomatch (Option.some.inj h)
  · exact g_callVt (As := [.int x1]) (rest := []) hF hM hout (cx_X4_needList hfl e2) k_X4_needList u692 u694 u17 rfl rfl t1 rfl hl.1 rfl (Nat.le_of_ble_eq_true rfl) dX4_placeOf_2 ⟨(Nat.le_of_ble_eq_true rfl), (Nat.le_of_ble_eq_true rfl)⟩ ⟨(Nat.le_of_ble_eq_true rfl), (Nat.le_of_ble_eq_true rfl)⟩ (Nat.le_of_ble_eq_true rfl) (Nat.le_of_ble_eq_true rfl) (congrArg Sum.inr (Sum.inr.inj z5))
abbrev rm_X4_openStore : Room := { frames := 0, cells := 0, slots := 0, locals := 0 }
theorem k_X4_openStore : gKc yX4_openStore cX4_openStore 1 (some (.object "Viewhouse$Store")) 1 := ⟨u734, u63, by decide +kernel, by decide +kernel, by decide +kernel⟩
set_option maxHeartbeats 4000000 in
set_option maxRecDepth 100000 in
theorem c_X4_openStore {l : Launch} {D : va_G} {Y : Nat → ClassId} {S : GS} {hs : Nat} {x0 : Option Nat} {r : Option Nat} (h : f_X4_openStore S x0 = some (.inl r)) : gMet l yX4_openStore (gWs yX4_openStore cX4_openStore 1 (some (.object "Viewhouse$Store"))) rm_X4_openStore [va_rf x0] D Y S hs (some (va_rf r)) S hs := by
  refine g_ofW (by decide +kernel) (Or.inl ⟨(Nat.le_of_ble_eq_true rfl), (List.forall_mem_cons.mpr ⟨rf_cat _, (fun _ h => absurd h List.not_mem_nil)⟩)⟩) ?_
  intro p e s m args below meth c ls hsz hname hF hM hl
  have hl : lv_has ls 1 [(0, va_rf x0)] := by rw [g_args [va_rf x0] 0 (List.forall_mem_cons.mpr ⟨rf_cat _, (fun _ h => absurd h List.not_mem_nil)⟩)] at hl; exact hl
  have hF : gF p s m args meth c RX4 cX4_openStore 1 (some (.object "Viewhouse$Store")) D Y (gA S hs) := hF
  have hx := hF.1
  have hb := hF.2.1
  unfold f_X4_openStore at h
  refine g_aload_n hx hb dX4_openStore_0 rfl (lv_at hl 0 rfl) ?_
  have g := gbind h
  clear h
  obtain ⟨v1, e2, h⟩ := g
  refine g_getI hF hM fdX1 e2 (by decide) rfl u133 dX4_openStore_1 ?_
  refine lv_if_eq (tgt := 14) hx hb dX4_openStore_4 (by decide) (fun c3 => ?_) (fun c3 => ?_)
  · replace h := (if_pos c3).symm.trans h
    exact nomatch (Option.some.inj h)
  · replace h := (if_neg c3).symm.trans h
    refine g_aload_n hx hb dX4_openStore_7 rfl (lv_at hl 0 rfl) ?_
    have g := gbind h
    clear h
    obtain ⟨v4, e5, h⟩ := g
    refine g_getR hF hM fdX1 e5 (by decide) rfl u135 dX4_openStore_8 ?_
    refine g_ifnonnull (tgt := 22) hx hb dX4_openStore_11 (by decide) (fun c6 => ?_) (fun c6 => ?_)
    · replace h := (if_neg c6).symm.trans h
      refine g_aload_n hx hb dX4_openStore_22 rfl (lv_at hl 0 rfl) ?_
      have g := gbind h
      clear h
      obtain ⟨v7, e8, h⟩ := g
      refine g_getR hF hM fdX1 e8 (by decide) rfl u135 dX4_openStore_23 ?_
      rw [← (Sum.inl.inj (Option.some.inj h))]
      exact g_aret hF hM rfl (Or.inl ⟨_, rfl⟩) dX4_openStore_26 (Nat.le_of_ble_eq_true rfl) (Nat.le_of_ble_eq_true rfl)
    · replace h := (if_pos c6).symm.trans h
      exact nomatch (Option.some.inj h)
abbrev rmx_X4_openStore : Room := { frames := 6, cells := 1, slots := 6, locals := 89 }
set_option maxHeartbeats 4000000 in
set_option maxRecDepth 100000 in
theorem cx_X4_openStore {l : Launch} {D : va_G} {Y : Nat → ClassId} {S : GS} {hs : Nat} {x0 : Option Nat} {x : Nat} (hfl : l.stackTraces = false) (h : f_X4_openStore S x0 = some (.inr x)) : gMx l yX4_openStore (gWs yX4_openStore cX4_openStore 1 (some (.object "Viewhouse$Store"))) rmx_X4_openStore [va_rf x0] D Y S hs (.inr x) := by
  refine g_ofWx (by decide +kernel) (Or.inl ⟨(Nat.le_of_ble_eq_true rfl), (List.forall_mem_cons.mpr ⟨rf_cat _, (fun _ h => absurd h List.not_mem_nil)⟩)⟩) ?_
  intro p e s m args below meth c ls hsz hout hF hM hl
  have hl : lv_has ls 1 [(0, va_rf x0)] := by rw [g_args [va_rf x0] 0 (List.forall_mem_cons.mpr ⟨rf_cat _, (fun _ h => absurd h List.not_mem_nil)⟩)] at hl; exact hl
  have hF : gF p s m args meth c RX4 cX4_openStore 1 (some (.object "Viewhouse$Store")) D Y (gA S hs) := hF
  have hx := hF.1
  have hb := hF.2.1
  unfold f_X4_openStore at h
  refine g_aload_n hx hb dX4_openStore_0 rfl (lv_at hl 0 rfl) ?_
  have g := gbind h
  clear h
  obtain ⟨v1, e2, h⟩ := g
  refine g_getI hF hM fdX1 e2 (by decide) rfl u133 dX4_openStore_1 ?_
  refine lv_if_eq (tgt := 14) hx hb dX4_openStore_4 (by decide) (fun c3 => ?_) (fun c3 => ?_)
  · replace h := (if_pos c3).symm.trans h
    exact g_throw hF hM hfl hout ew_X4_295_297 (congrArg Sum.inr (Sum.inr.inj (Option.some.inj h)).symm) hl.1 dX4_openStore_14 dX4_openStore_17 dX4_openStore_18 dX4_openStore_21 (Nat.le_of_ble_eq_true rfl) (Nat.le_of_ble_eq_true rfl) (Nat.le_of_ble_eq_true rfl) (Nat.le_of_ble_eq_true rfl) (Nat.le_of_ble_eq_true rfl) (Nat.le_of_ble_eq_true rfl)
  · replace h := (if_neg c3).symm.trans h
    refine g_aload_n hx hb dX4_openStore_7 rfl (lv_at hl 0 rfl) ?_
    have g := gbind h
    clear h
    obtain ⟨v4, e5, h⟩ := g
    refine g_getR hF hM fdX1 e5 (by decide) rfl u135 dX4_openStore_8 ?_
    refine g_ifnonnull (tgt := 22) hx hb dX4_openStore_11 (by decide) (fun c6 => ?_) (fun c6 => ?_)
    · replace h := (if_neg c6).symm.trans h
      refine g_aload_n hx hb dX4_openStore_22 rfl (lv_at hl 0 rfl) ?_
      have g := gbind h
      clear h
      obtain ⟨v7, e8, h⟩ := g
      refine g_getR hF hM fdX1 e8 (by decide) rfl u135 dX4_openStore_23 ?_
      exact nomatch (Option.some.inj h)
    · replace h := (if_pos c6).symm.trans h
      exact g_throw hF hM hfl hout ew_X4_295_297 (congrArg Sum.inr (Sum.inr.inj (Option.some.inj h)).symm) hl.1 dX4_openStore_14 dX4_openStore_17 dX4_openStore_18 dX4_openStore_21 (Nat.le_of_ble_eq_true rfl) (Nat.le_of_ble_eq_true rfl) (Nat.le_of_ble_eq_true rfl) (Nat.le_of_ble_eq_true rfl) (Nat.le_of_ble_eq_true rfl) (Nat.le_of_ble_eq_true rfl)
abbrev rm_X4_needPlaceToPut : Room := { frames := 1, cells := 0, slots := 0, locals := 20 }
theorem k_X4_needPlaceToPut : gKc yX4_needPlaceToPut cX4_needPlaceToPut 2 none 2 := ⟨u752, u63, by decide +kernel, by decide +kernel, by decide +kernel⟩
set_option maxHeartbeats 4000000 in
set_option maxRecDepth 100000 in
theorem c_X4_needPlaceToPut {l : Launch} {D : va_G} {Y : Nat → ClassId} {S : GS} {hs : Nat} {x0 : Option Nat} {x1 : Int32} {r : Unit} (h : f_X4_needPlaceToPut S x0 x1 = some (.inl r)) : gMet l yX4_needPlaceToPut (gWs yX4_needPlaceToPut cX4_needPlaceToPut 2 none) rm_X4_needPlaceToPut [va_rf x0, .int x1] D Y S hs none S hs := by
  refine g_ofW (by decide +kernel) (Or.inl ⟨(Nat.le_of_ble_eq_true rfl), (List.forall_mem_cons.mpr ⟨rf_cat _, (List.forall_mem_cons.mpr ⟨rfl, (fun _ h => absurd h List.not_mem_nil)⟩)⟩)⟩) ?_
  intro p e s m args below meth c ls hsz hname hF hM hl
  have hl : lv_has ls 2 [(0, va_rf x0), (1, .int x1)] := by rw [g_args [va_rf x0, .int x1] 0 (List.forall_mem_cons.mpr ⟨rf_cat _, (List.forall_mem_cons.mpr ⟨rfl, (fun _ h => absurd h List.not_mem_nil)⟩)⟩)] at hl; exact hl
  have hF : gF p s m args meth c RX4 cX4_needPlaceToPut 2 none D Y (gA S hs) := hF
  have hx := hF.1
  have hb := hF.2.1
  unfold f_X4_needPlaceToPut at h
  refine lv_iload_n hx hb dX4_needPlaceToPut_0 rfl (lv_at hl 1 rfl) ?_
  refine lv_if_lt (tgt := 12) hx hb dX4_needPlaceToPut_1 (by decide) (fun c1 => ?_) (fun c1 => ?_)
  · replace h := (if_pos c1).symm.trans h
    exact nomatch (Option.some.inj h)
  · replace h := (if_neg c1).symm.trans h
    refine lv_iload_n hx hb dX4_needPlaceToPut_4 rfl (lv_at hl 1 rfl) ?_
    refine g_aload_n hx hb dX4_needPlaceToPut_5 rfl (lv_at hl 0 rfl) ?_
    have g := gbind h
    clear h
    obtain ⟨a2, e3, h⟩ := g
    have t4 := (gtk_of e3).2
    rw [(gtk_of e3).1]
    have g := gbind h
    clear h
    obtain ⟨v6, e5, h⟩ := g
    refine g_callV (As := []) (rest := [.int x1]) hF hM (c_X1_count e5) k_X1_count u195 u196 u197 rfl rfl t4 rfl hl.1 rfl (Nat.le_of_ble_eq_true rfl) dX4_needPlaceToPut_6 ⟨(Nat.le_of_ble_eq_true rfl), (Nat.le_of_ble_eq_true rfl)⟩ ⟨(Nat.le_of_ble_eq_true rfl), (Nat.le_of_ble_eq_true rfl)⟩ (fun H locs hM => ?_)
    refine lv_icmp_le (tgt := 20) hx hb dX4_needPlaceToPut_9 (by decide) (fun c7 => ?_) (fun c7 => ?_)
    · replace h := (if_pos c7).symm.trans h
      exact g_vret hF hM rfl dX4_needPlaceToPut_20 (Nat.le_of_ble_eq_true rfl) (Nat.le_of_ble_eq_true rfl)
    · replace h := (if_neg c7).symm.trans h
      exact nomatch (Option.some.inj h)
abbrev rmx_X4_needPlaceToPut : Room := { frames := 6, cells := 1, slots := 6, locals := 89 }
set_option maxHeartbeats 4000000 in
set_option maxRecDepth 100000 in
theorem cx_X4_needPlaceToPut {l : Launch} {D : va_G} {Y : Nat → ClassId} {S : GS} {hs : Nat} {x0 : Option Nat} {x1 : Int32} {x : Nat} (hfl : l.stackTraces = false) (h : f_X4_needPlaceToPut S x0 x1 = some (.inr x)) : gMx l yX4_needPlaceToPut (gWs yX4_needPlaceToPut cX4_needPlaceToPut 2 none) rmx_X4_needPlaceToPut [va_rf x0, .int x1] D Y S hs (.inr x) := by
  refine g_ofWx (by decide +kernel) (Or.inl ⟨(Nat.le_of_ble_eq_true rfl), (List.forall_mem_cons.mpr ⟨rf_cat _, (List.forall_mem_cons.mpr ⟨rfl, (fun _ h => absurd h List.not_mem_nil)⟩)⟩)⟩) ?_
  intro p e s m args below meth c ls hsz hout hF hM hl
  have hl : lv_has ls 2 [(0, va_rf x0), (1, .int x1)] := by rw [g_args [va_rf x0, .int x1] 0 (List.forall_mem_cons.mpr ⟨rf_cat _, (List.forall_mem_cons.mpr ⟨rfl, (fun _ h => absurd h List.not_mem_nil)⟩)⟩)] at hl; exact hl
  have hF : gF p s m args meth c RX4 cX4_needPlaceToPut 2 none D Y (gA S hs) := hF
  have hx := hF.1
  have hb := hF.2.1
  unfold f_X4_needPlaceToPut at h
  refine lv_iload_n hx hb dX4_needPlaceToPut_0 rfl (lv_at hl 1 rfl) ?_
  refine lv_if_lt (tgt := 12) hx hb dX4_needPlaceToPut_1 (by decide) (fun c1 => ?_) (fun c1 => ?_)
  · replace h := (if_pos c1).symm.trans h
    exact g_throw hF hM hfl hout ew_X4_57_59 (congrArg Sum.inr (Sum.inr.inj (Option.some.inj h)).symm) hl.1 dX4_needPlaceToPut_12 dX4_needPlaceToPut_15 dX4_needPlaceToPut_16 dX4_needPlaceToPut_19 (Nat.le_of_ble_eq_true rfl) (Nat.le_of_ble_eq_true rfl) (Nat.le_of_ble_eq_true rfl) (Nat.le_of_ble_eq_true rfl) (Nat.le_of_ble_eq_true rfl) (Nat.le_of_ble_eq_true rfl)
  · replace h := (if_neg c1).symm.trans h
    refine lv_iload_n hx hb dX4_needPlaceToPut_4 rfl (lv_at hl 1 rfl) ?_
    refine g_aload_n hx hb dX4_needPlaceToPut_5 rfl (lv_at hl 0 rfl) ?_
    have g := gbind h
    clear h
    obtain ⟨a2, e3, h⟩ := g
    have t4 := (gtk_of e3).2
    rw [(gtk_of e3).1]
    have g := gbind h
    clear h
    obtain ⟨v6, e5, h⟩ := g
    refine g_callV (As := []) (rest := [.int x1]) hF hM (c_X1_count e5) k_X1_count u195 u196 u197 rfl rfl t4 rfl hl.1 rfl (Nat.le_of_ble_eq_true rfl) dX4_needPlaceToPut_6 ⟨(Nat.le_of_ble_eq_true rfl), (Nat.le_of_ble_eq_true rfl)⟩ ⟨(Nat.le_of_ble_eq_true rfl), (Nat.le_of_ble_eq_true rfl)⟩ (fun H locs hM => ?_)
    refine lv_icmp_le (tgt := 20) hx hb dX4_needPlaceToPut_9 (by decide) (fun c7 => ?_) (fun c7 => ?_)
    · replace h := (if_pos c7).symm.trans h
      exact nomatch (Option.some.inj h)
    · replace h := (if_neg c7).symm.trans h
      exact g_throw hF hM hfl hout ew_X4_57_59 (congrArg Sum.inr (Sum.inr.inj (Option.some.inj h)).symm) hl.1 dX4_needPlaceToPut_12 dX4_needPlaceToPut_15 dX4_needPlaceToPut_16 dX4_needPlaceToPut_19 (Nat.le_of_ble_eq_true rfl) (Nat.le_of_ble_eq_true rfl) (Nat.le_of_ble_eq_true rfl) (Nat.le_of_ble_eq_true rfl) (Nat.le_of_ble_eq_true rfl) (Nat.le_of_ble_eq_true rfl)
abbrev rm_X4_needRoom : Room := { frames := 0, cells := 0, slots := 0, locals := 0 }
theorem k_X4_needRoom : gKc yX4_needRoom cX4_needRoom 2 none 2 := ⟨u755, u63, by decide +kernel, by decide +kernel, by decide +kernel⟩
set_option maxHeartbeats 4000000 in
set_option maxRecDepth 100000 in
theorem c_X4_needRoom {l : Launch} {D : va_G} {Y : Nat → ClassId} {S : GS} {hs : Nat} {x0 : Option Nat} {x1 : Int32} {r : Unit} (h : f_X4_needRoom S x0 x1 = some (.inl r)) : gMet l yX4_needRoom (gWs yX4_needRoom cX4_needRoom 2 none) rm_X4_needRoom [va_rf x0, .int x1] D Y S hs none S hs := by
  refine g_ofW (by decide +kernel) (Or.inl ⟨(Nat.le_of_ble_eq_true rfl), (List.forall_mem_cons.mpr ⟨rf_cat _, (List.forall_mem_cons.mpr ⟨rfl, (fun _ h => absurd h List.not_mem_nil)⟩)⟩)⟩) ?_
  intro p e s m args below meth c ls hsz hname hF hM hl
  have hl : lv_has ls 2 [(0, va_rf x0), (1, .int x1)] := by rw [g_args [va_rf x0, .int x1] 0 (List.forall_mem_cons.mpr ⟨rf_cat _, (List.forall_mem_cons.mpr ⟨rfl, (fun _ h => absurd h List.not_mem_nil)⟩)⟩)] at hl; exact hl
  have hF : gF p s m args meth c RX4 cX4_needRoom 2 none D Y (gA S hs) := hF
  have hx := hF.1
  have hb := hF.2.1
  unfold f_X4_needRoom at h
  refine g_aload_n hx hb dX4_needRoom_0 rfl (lv_at hl 0 rfl) ?_
  have g := gbind h
  clear h
  obtain ⟨v1, e2, h⟩ := g
  refine g_getI hF hM fdX3 e2 (by decide) rfl u110 dX4_needRoom_1 ?_
  refine lv_iload_n hx hb dX4_needRoom_4 rfl (lv_at hl 1 rfl) ?_
  refine lv_iadd hx hb dX4_needRoom_5 ?_
  refine lv_bipush (v := 24) hx hb dX4_needRoom_6 (by decide) ?_
  refine lv_icmp_le (tgt := 19) hx hb dX4_needRoom_8 (by decide) (fun c3 => ?_) (fun c3 => ?_)
  · replace h := (if_pos c3).symm.trans h
    exact g_vret hF hM rfl dX4_needRoom_19 (Nat.le_of_ble_eq_true rfl) (Nat.le_of_ble_eq_true rfl)
  · replace h := (if_neg c3).symm.trans h
    exact nomatch (Option.some.inj h)
abbrev rmx_X4_needRoom : Room := { frames := 6, cells := 1, slots := 6, locals := 89 }
set_option maxHeartbeats 4000000 in
set_option maxRecDepth 100000 in
theorem cx_X4_needRoom {l : Launch} {D : va_G} {Y : Nat → ClassId} {S : GS} {hs : Nat} {x0 : Option Nat} {x1 : Int32} {x : Nat} (hfl : l.stackTraces = false) (h : f_X4_needRoom S x0 x1 = some (.inr x)) : gMx l yX4_needRoom (gWs yX4_needRoom cX4_needRoom 2 none) rmx_X4_needRoom [va_rf x0, .int x1] D Y S hs (.inr x) := by
  refine g_ofWx (by decide +kernel) (Or.inl ⟨(Nat.le_of_ble_eq_true rfl), (List.forall_mem_cons.mpr ⟨rf_cat _, (List.forall_mem_cons.mpr ⟨rfl, (fun _ h => absurd h List.not_mem_nil)⟩)⟩)⟩) ?_
  intro p e s m args below meth c ls hsz hout hF hM hl
  have hl : lv_has ls 2 [(0, va_rf x0), (1, .int x1)] := by rw [g_args [va_rf x0, .int x1] 0 (List.forall_mem_cons.mpr ⟨rf_cat _, (List.forall_mem_cons.mpr ⟨rfl, (fun _ h => absurd h List.not_mem_nil)⟩)⟩)] at hl; exact hl
  have hF : gF p s m args meth c RX4 cX4_needRoom 2 none D Y (gA S hs) := hF
  have hx := hF.1
  have hb := hF.2.1
  unfold f_X4_needRoom at h
  refine g_aload_n hx hb dX4_needRoom_0 rfl (lv_at hl 0 rfl) ?_
  have g := gbind h
  clear h
  obtain ⟨v1, e2, h⟩ := g
  refine g_getI hF hM fdX3 e2 (by decide) rfl u110 dX4_needRoom_1 ?_
  refine lv_iload_n hx hb dX4_needRoom_4 rfl (lv_at hl 1 rfl) ?_
  refine lv_iadd hx hb dX4_needRoom_5 ?_
  refine lv_bipush (v := 24) hx hb dX4_needRoom_6 (by decide) ?_
  refine lv_icmp_le (tgt := 19) hx hb dX4_needRoom_8 (by decide) (fun c3 => ?_) (fun c3 => ?_)
  · replace h := (if_pos c3).symm.trans h
    exact nomatch (Option.some.inj h)
  · replace h := (if_neg c3).symm.trans h
    exact g_throw hF hM hfl hout ew_X4_180_182 (congrArg Sum.inr (Sum.inr.inj (Option.some.inj h)).symm) hl.1 dX4_needRoom_11 dX4_needRoom_14 dX4_needRoom_15 dX4_needRoom_18 (Nat.le_of_ble_eq_true rfl) (Nat.le_of_ble_eq_true rfl) (Nat.le_of_ble_eq_true rfl) (Nat.le_of_ble_eq_true rfl) (Nat.le_of_ble_eq_true rfl) (Nat.le_of_ble_eq_true rfl)
abbrev rm_X4_letPartsGo : Room := { frames := 0, cells := 0, slots := 0, locals := 0 }
theorem k_X4_letPartsGo : gKc yX4_letPartsGo cX4_letPartsGo 5 none 2 := ⟨u779, u63, by decide +kernel, by decide +kernel, by decide +kernel⟩
set_option maxHeartbeats 4000000 in
set_option maxRecDepth 100000 in
theorem c_X4_letPartsGo {l : Launch} {D : va_G} {Y : Nat → ClassId} {S : GS} {hs : Nat} {a0 : Nat} {x1 : Option Nat} {x2 : Option Nat} {S' : GS} (h : f_X4_letPartsGo S a0 x1 x2 = some S') : gMet l yX4_letPartsGo (gWs yX4_letPartsGo cX4_letPartsGo 5 none) rm_X4_letPartsGo [va_rf (some a0), va_rf x1, va_rf x2] D Y S hs none S' hs := by
  refine g_ofW (by decide +kernel) (Or.inl ⟨(Nat.le_of_ble_eq_true rfl), (List.forall_mem_cons.mpr ⟨rf_cat _, (List.forall_mem_cons.mpr ⟨rf_cat _, (List.forall_mem_cons.mpr ⟨rf_cat _, (fun _ h => absurd h List.not_mem_nil)⟩)⟩)⟩)⟩) ?_
  intro p e s m args below meth c ls hsz hname hF hM hl
  have hl : lv_has ls 5 [(0, va_rf (some a0)), (1, va_rf x1), (2, va_rf x2)] := by rw [g_args [va_rf (some a0), va_rf x1, va_rf x2] 0 (List.forall_mem_cons.mpr ⟨rf_cat _, (List.forall_mem_cons.mpr ⟨rf_cat _, (List.forall_mem_cons.mpr ⟨rf_cat _, (fun _ h => absurd h List.not_mem_nil)⟩)⟩)⟩)] at hl; exact hl
  have hF : gF p s m args meth c RX4 cX4_letPartsGo 5 none D Y (gA S hs) := hF
  have hx := hF.1
  have hb := hF.2.1
  have Jb95 : ∀ (k37 : GS → Option Nat → Int32 → Option (GS)) (hk37 : ∀ (T37 : GS) (x2 : Option Nat) (x3 : Int32), k37 T37 x2 x3 = some S' → ∀ (H : Heap) (locs : List Loc) (ls : Array Slot), gM D Y (gA S hs) s.heap T37 hs H locs → lv_has ls 5 [(0, va_rf (some a0)), (2, va_rf x2), (3, .int x3)] → W p l e rm_X4_letPartsGo s m args below meth c H locs 0 0 (MQ below (gQ none D Y S' hs (gA S hs)) args s rm_X4_letPartsGo.cells rm_X4_letPartsGo.slots (gA S hs)) (F0 m 37 ls [])) (T95 : GS) (x2 : Option Nat) (x3 : Int32), f_X4_letPartsGo_b95 k37 a0 T95 x2 x3 = some S' → ∀ (H : Heap) (locs : List Loc) (ls : Array Slot), gM D Y (gA S hs) s.heap T95 hs H locs → lv_has ls 5 [(0, va_rf (some a0)), (2, va_rf x2), (3, .int x3)] → W p l e rm_X4_letPartsGo s m args below meth c H locs 0 0 (MQ below (gQ none D Y S' hs (gA S hs)) args s rm_X4_letPartsGo.cells rm_X4_letPartsGo.slots (gA S hs)) (F0 m 95 ls []) := by
    intro k37 hk37 T95 x2 x3 h H locs ls hM hl
    unfold f_X4_letPartsGo_b95 at h
    refine lv_iinc (v := (x3 + 1)) (lv' := [(3, .int (x3 + 1)), (0, va_rf (some a0)), (2, va_rf x2)]) hx hb dX4_letPartsGo_95 hl (k := 2) rfl rfl (by decide) (by simp [rf_cat, ic_cat, lc_cat]) (fun ls hl => ?_)
    refine lv_goto (tgt := 37) hx hb dX4_letPartsGo_98 (by decide) ?_
    refine W.widen (k := 0) (n := 0) (Nat.le_of_ble_eq_true rfl) (Nat.le_of_ble_eq_true rfl) ?_
    exact hk37 _ _ _ h _ _ _ hM (lv_sub hl [1, 2, 0] rfl)
  have JL37 : ∀ (n : Nat) (T37 : GS) (x2 : Option Nat) (x3 : Int32), f_X4_letPartsGo_L37 a0 n T37 x2 x3 = some S' → ∀ (H : Heap) (locs : List Loc) (ls : Array Slot), gM D Y (gA S hs) s.heap T37 hs H locs → lv_has ls 5 [(0, va_rf (some a0)), (2, va_rf x2), (3, .int x3)] → W p l e rm_X4_letPartsGo s m args below meth c H locs 0 0 (MQ below (gQ none D Y S' hs (gA S hs)) args s rm_X4_letPartsGo.cells rm_X4_letPartsGo.slots (gA S hs)) (F0 m 37 ls []) := by
    intro n
    induction n with
    | zero => intro T37 x2 x3 h; unfold f_X4_letPartsGo_L37 at h; exact nomatch h
    | succ n ih =>
      intro T37 x2 x3 h H locs ls hM hl
      unfold f_X4_letPartsGo_L37 at h
      refine lv_iload_n hx hb dX4_letPartsGo_37 rfl (lv_at hl 2 rfl) ?_
      refine lv_bipush (v := 12) hx hb dX4_letPartsGo_38 (by decide) ?_
      refine lv_icmp_ge (tgt := 101) hx hb dX4_letPartsGo_40 (by decide) (fun c8 => ?_) (fun c8 => ?_)
      · replace h := (if_pos c8).symm.trans h
        rw [← (Option.some.inj h)]
        exact g_vret hF hM rfl dX4_letPartsGo_101 (Nat.le_of_ble_eq_true rfl) (Nat.le_of_ble_eq_true rfl)
      · replace h := (if_neg c8).symm.trans h
        refine g_aload_n hx hb dX4_letPartsGo_43 rfl (lv_at hl 0 rfl) ?_
        have g := gbind h
        clear h
        obtain ⟨v9, e10, h⟩ := g
        refine g_getR hF hM fdX4 e10 (by decide) rfl u175 dX4_letPartsGo_44 ?_
        refine lv_iload_n hx hb dX4_letPartsGo_47 rfl (lv_at hl 2 rfl) ?_
        have g := gbind h
        clear h
        obtain ⟨v11, e12, h⟩ := g
        refine g_aald hF hM (by decide) e12 dX4_letPartsGo_48 ?_
        refine g_astore (i := 4) (lv' := [(0, va_rf (some a0)), (2, va_rf x2), (3, .int x3)]) hx hb dX4_letPartsGo_49 hl (by decide) (fun v => rfl) (fun ls hl => ?_)
        refine g_aload hx hb dX4_letPartsGo_51 (lv_at hl 0 rfl) ?_
        refine g_ifnull (tgt := 95) hx hb dX4_letPartsGo_53 (by decide) (fun c13 => ?_) (fun c13 => ?_)
        · replace h := (if_pos c13).symm.trans h
          refine W.widen (k := 0) (n := 0) (Nat.le_of_ble_eq_true rfl) (Nat.le_of_ble_eq_true rfl) ?_
          exact Jb95 _ ih _ _ _ h _ _ _ hM (lv_sub hl [1, 2, 3] rfl)
        · replace h := (if_neg c13).symm.trans h
          refine g_aload hx hb dX4_letPartsGo_56 (lv_at hl 0 rfl) ?_
          have g := gbind h
          clear h
          obtain ⟨v14, e15, h⟩ := g
          refine g_getR hF hM fdX1 e15 (by decide) rfl u135 dX4_letPartsGo_58 ?_
          refine g_aload_n hx hb dX4_letPartsGo_61 rfl (lv_at hl 2 rfl) ?_
          refine lv_acmp_ne (tgt := 95) hx hb dX4_letPartsGo_62 (by decide) (fun c16 => ?_) (fun c16 => ?_)
          · replace h := (if_neg c16).symm.trans h
            refine W.widen (k := 0) (n := 0) (Nat.le_of_ble_eq_true rfl) (Nat.le_of_ble_eq_true rfl) ?_
            exact Jb95 _ ih _ _ _ h _ _ _ hM (lv_sub hl [1, 2, 3] rfl)
          · replace h := (if_pos c16).symm.trans h
            refine g_aload hx hb dX4_letPartsGo_65 (lv_at hl 0 rfl) ?_
            have g := gbind h
            clear h
            obtain ⟨v17, e18, h⟩ := g
            refine g_getR hF hM fdX1 e18 (by decide) rfl u138 dX4_letPartsGo_67 ?_
            refine g_ifnull (tgt := 95) hx hb dX4_letPartsGo_70 (by decide) (fun c19 => ?_) (fun c19 => ?_)
            · replace h := (if_pos c19).symm.trans h
              refine W.widen (k := 0) (n := 0) (Nat.le_of_ble_eq_true rfl) (Nat.le_of_ble_eq_true rfl) ?_
              exact Jb95 _ ih _ _ _ h _ _ _ hM (lv_sub hl [1, 2, 3] rfl)
            · replace h := (if_neg c19).symm.trans h
              refine g_aload hx hb dX4_letPartsGo_73 (lv_at hl 0 rfl) ?_
              have g := gbind h
              clear h
              obtain ⟨v20, e21, h⟩ := g
              refine g_getR hF hM fdX1 e21 (by decide) rfl u138 dX4_letPartsGo_75 ?_
              have g := gbind h
              clear h
              obtain ⟨v22, e23, h⟩ := g
              refine g_getI hF hM fdX2 e23 (by decide) rfl u566 dX4_letPartsGo_78 ?_
              refine g_aload_n hx hb dX4_letPartsGo_81 rfl (lv_at hl 2 rfl) ?_
              have g := gbind h
              clear h
              obtain ⟨v24, e25, h⟩ := g
              refine g_getI hF hM fdX3 e25 (by decide) rfl u111 dX4_letPartsGo_82 ?_
              refine lv_icmp_eq (tgt := 95) hx hb dX4_letPartsGo_85 (by decide) (fun c26 => ?_) (fun c26 => ?_)
              · replace h := (if_pos c26).symm.trans h
                refine W.widen (k := 0) (n := 0) (Nat.le_of_ble_eq_true rfl) (Nat.le_of_ble_eq_true rfl) ?_
                exact Jb95 _ ih _ _ _ h _ _ _ hM (lv_sub hl [1, 2, 3] rfl)
              · replace h := (if_neg c26).symm.trans h
                refine g_aload_n hx hb dX4_letPartsGo_88 rfl (lv_at hl 1 rfl) ?_
                have g := gbind h
                clear h
                obtain ⟨v27, e28, h⟩ := g
                refine g_getR hF hM fdX4 e28 (by decide) rfl u175 dX4_letPartsGo_89 ?_
                refine lv_iload_n hx hb dX4_letPartsGo_92 rfl (lv_at hl 3 rfl) ?_
                refine g_null hx hb dX4_letPartsGo_93 ?_
                have g := gbind h
                clear h
                obtain ⟨S29, e30, h⟩ := g
                refine g_aast hF hM e30 (fun _ h => nomatch h) dX4_letPartsGo_94 (fun H locs hM => ?_)
                refine W.widen (k := 0) (n := 0) (Nat.le_of_ble_eq_true rfl) (Nat.le_of_ble_eq_true rfl) ?_
                exact Jb95 _ ih _ _ _ h _ _ _ hM (lv_sub hl [1, 2, 3] rfl)
  have JL15 : ∀ (n : Nat) (T15 : GS) (x2 : Option Nat) (x3 : Option Nat), f_X4_letPartsGo_L15 a0 n T15 x2 x3 = some S' → ∀ (H : Heap) (locs : List Loc) (ls : Array Slot), gM D Y (gA S hs) s.heap T15 hs H locs → lv_has ls 5 [(0, va_rf (some a0)), (2, va_rf x2), (3, va_rf x3)] → W p l e rm_X4_letPartsGo s m args below meth c H locs 0 0 (MQ below (gQ none D Y S' hs (gA S hs)) args s rm_X4_letPartsGo.cells rm_X4_letPartsGo.slots (gA S hs)) (F0 m 15 ls []) := by
    intro n
    induction n with
    | zero => intro T15 x2 x3 h; unfold f_X4_letPartsGo_L15 at h; exact nomatch h
    | succ n ih =>
      intro T15 x2 x3 h H locs ls hM hl
      unfold f_X4_letPartsGo_L15 at h
      refine g_aload_n hx hb dX4_letPartsGo_15 rfl (lv_at hl 2 rfl) ?_
      refine g_ifnull (tgt := 35) hx hb dX4_letPartsGo_16 (by decide) (fun c7 => ?_) (fun c7 => ?_)
      · replace h := (if_pos c7).symm.trans h
        refine lv_iconst (v := 4) hx hb dX4_letPartsGo_35 (by decide) ?_
        refine lv_istore_n (i := 3) (lv' := [(3, .int 4), (0, va_rf (some a0)), (2, va_rf x2)]) hx hb dX4_letPartsGo_36 rfl hl (by decide) (by simp [rf_cat, ic_cat, lc_cat]) (fun ls hl => ?_)
        refine W.widen (k := 0) (n := 0) (Nat.le_of_ble_eq_true rfl) (Nat.le_of_ble_eq_true rfl) ?_
        exact JL37 gN _ _ _ h _ _ _ hM (lv_sub hl [1, 2, 0] rfl)
      · replace h := (if_neg c7).symm.trans h
        refine g_aload_n hx hb dX4_letPartsGo_19 rfl (lv_at hl 2 rfl) ?_
        refine g_aload_n hx hb dX4_letPartsGo_20 rfl (lv_at hl 1 rfl) ?_
        have g := gbind h
        clear h
        obtain ⟨v31, e32, h⟩ := g
        refine g_getI hF hM fdX3 e32 (by decide) rfl u111 dX4_letPartsGo_21 ?_
        have g := gbind h
        clear h
        obtain ⟨S33, e34, h⟩ := g
        refine g_putI hF hM fdX2 e34 (by decide) rfl (Or.inl rfl) ⟨rfl, rfl⟩ u566 dX4_letPartsGo_24 (fun H locs hM => ?_)
        refine g_aload_n hx hb dX4_letPartsGo_27 rfl (lv_at hl 2 rfl) ?_
        have g := gbind h
        clear h
        obtain ⟨v35, e36, h⟩ := g
        refine g_getR hF hM fdX2 e36 (by decide) rfl u560 dX4_letPartsGo_28 ?_
        refine g_astore_n (i := 3) (lv' := [(0, va_rf (some a0)), (2, va_rf x2)]) hx hb dX4_letPartsGo_31 rfl hl (by decide) (fun v => by simp [rf_cat, ic_cat, lc_cat]) (fun ls hl => ?_)
        refine lv_goto (tgt := 15) hx hb dX4_letPartsGo_32 (by decide) ?_
        refine W.widen (k := 0) (n := 0) (Nat.le_of_ble_eq_true rfl) (Nat.le_of_ble_eq_true rfl) ?_
        exact ih _ _ _ h _ _ _ hM (lv_sub hl [1, 2, 0] rfl)
  unfold f_X4_letPartsGo at h
  refine g_aload_n hx hb dX4_letPartsGo_0 rfl (lv_at hl 2 rfl) ?_
  refine lv_dup hx hb dX4_letPartsGo_1 (rf_cat _) ?_
  have g := gbind h
  clear h
  obtain ⟨v1, e2, h⟩ := g
  refine g_getI hF hM fdX3 e2 (by decide) rfl u111 dX4_letPartsGo_2 ?_
  refine lv_iconst (v := 1) hx hb dX4_letPartsGo_5 (by decide) ?_
  refine lv_iadd hx hb dX4_letPartsGo_6 ?_
  have g := gbind h
  clear h
  obtain ⟨S3, e4, h⟩ := g
  refine g_putI hF hM fdX3 e4 (by decide) rfl (Or.inl rfl) ⟨rfl, rfl⟩ u111 dX4_letPartsGo_7 (fun H locs hM => ?_)
  refine g_aload_n hx hb dX4_letPartsGo_10 rfl (lv_at hl 1 rfl) ?_
  have g := gbind h
  clear h
  obtain ⟨v5, e6, h⟩ := g
  refine g_getR hF hM fdX1 e6 (by decide) rfl u138 dX4_letPartsGo_11 ?_
  refine g_astore_n (i := 3) (lv' := [(0, va_rf (some a0)), (1, va_rf x1), (2, va_rf x2)]) hx hb dX4_letPartsGo_14 rfl hl (by decide) (fun v => by simp [rf_cat, ic_cat, lc_cat]) (fun ls hl => ?_)
  refine W.widen (k := 0) (n := 0) (Nat.le_of_ble_eq_true rfl) (Nat.le_of_ble_eq_true rfl) ?_
  exact JL15 gN _ _ _ h _ _ _ hM (lv_sub hl [1, 3, 0] rfl)
abbrev rm_X4_settle : Room := { frames := 1, cells := 0, slots := 0, locals := 24 }
theorem k_X4_settle : gKc yX4_settle cX4_settle 4 none 2 := ⟨u775, u63, by decide +kernel, by decide +kernel, by decide +kernel⟩
set_option maxHeartbeats 4000000 in
set_option maxRecDepth 100000 in
theorem c_X4_settle {l : Launch} {D : va_G} {Y : Nat → ClassId} {S : GS} {hs : Nat} {a0 : Nat} {x1 : Option Nat} {x2 : Int32} {S' : GS} (h : f_X4_settle S a0 x1 x2 = some S') : gMet l yX4_settle (gWs yX4_settle cX4_settle 4 none) rm_X4_settle [va_rf (some a0), va_rf x1, .int x2] D Y S hs none S' hs := by
  refine g_ofW (by decide +kernel) (Or.inl ⟨(Nat.le_of_ble_eq_true rfl), (List.forall_mem_cons.mpr ⟨rf_cat _, (List.forall_mem_cons.mpr ⟨rf_cat _, (List.forall_mem_cons.mpr ⟨rfl, (fun _ h => absurd h List.not_mem_nil)⟩)⟩)⟩)⟩) ?_
  intro p e s m args below meth c ls hsz hname hF hM hl
  have hl : lv_has ls 4 [(0, va_rf (some a0)), (1, va_rf x1), (2, .int x2)] := by rw [g_args [va_rf (some a0), va_rf x1, .int x2] 0 (List.forall_mem_cons.mpr ⟨rf_cat _, (List.forall_mem_cons.mpr ⟨rf_cat _, (List.forall_mem_cons.mpr ⟨rfl, (fun _ h => absurd h List.not_mem_nil)⟩)⟩)⟩)] at hl; exact hl
  have hF : gF p s m args meth c RX4 cX4_settle 4 none D Y (gA S hs) := hF
  have hx := hF.1
  have hb := hF.2.1
  have JL17 : ∀ (n : Nat) (T17 : GS) (x1 : Option Nat) (x2 : Int32) (x3 : Option Nat), f_X4_settle_L17 a0 n T17 x1 x2 x3 = some S' → ∀ (H : Heap) (locs : List Loc) (ls : Array Slot), gM D Y (gA S hs) s.heap T17 hs H locs → lv_has ls 4 [(0, va_rf (some a0)), (1, va_rf x1), (2, .int x2), (3, va_rf x3)] → W p l e rm_X4_settle s m args below meth c H locs 0 0 (MQ below (gQ none D Y S' hs (gA S hs)) args s rm_X4_settle.cells rm_X4_settle.slots (gA S hs)) (F0 m 17 ls []) := by
    intro n
    induction n with
    | zero => intro T17 x1 x2 x3 h; unfold f_X4_settle_L17 at h; exact nomatch h
    | succ n ih =>
      intro T17 x1 x2 x3 h H locs ls hM hl
      unfold f_X4_settle_L17 at h
      refine g_aload_n hx hb dX4_settle_17 rfl (lv_at hl 3 rfl) ?_
      refine g_ifnull (tgt := 39) hx hb dX4_settle_18 (by decide) (fun c7 => ?_) (fun c7 => ?_)
      · replace h := (if_pos c7).symm.trans h
        refine g_aload_n hx hb dX4_settle_39 rfl (lv_at hl 0 rfl) ?_
        refine g_aload_n hx hb dX4_settle_40 rfl (lv_at hl 1 rfl) ?_
        refine g_aload_n hx hb dX4_settle_41 rfl (lv_at hl 1 rfl) ?_
        have g := gbind h
        clear h
        obtain ⟨v8, e9, h⟩ := g
        refine g_getR hF hM fdX1 e9 (by decide) rfl u135 dX4_settle_42 ?_
        have g := gckE h
        clear h
        obtain ⟨t10, h⟩ := g
        have t10 := eq_of_beq t10
        have g := gbind h
        clear h
        obtain ⟨S12, e11, h⟩ := g
        refine g_callV (As := [va_rf x1, va_rf v8]) (rest := []) hF hM (c_X4_letPartsGo e11) k_X4_letPartsGo u776 u778 u19 rfl rfl t10 rfl hl.1 rfl (Nat.le_of_ble_eq_true rfl) dX4_settle_45 ⟨(Nat.le_of_ble_eq_true rfl), (Nat.le_of_ble_eq_true rfl)⟩ ⟨(Nat.le_of_ble_eq_true rfl), (Nat.le_of_ble_eq_true rfl)⟩ (fun H locs hM => ?_)
        rw [← (Option.some.inj h)]
        exact g_vret hF hM rfl dX4_settle_48 (Nat.le_of_ble_eq_true rfl) (Nat.le_of_ble_eq_true rfl)
      · replace h := (if_neg c7).symm.trans h
        refine g_aload_n hx hb dX4_settle_21 rfl (lv_at hl 3 rfl) ?_
        refine lv_dup hx hb dX4_settle_22 (rf_cat _) ?_
        have g := gbind h
        clear h
        obtain ⟨v13, e14, h⟩ := g
        refine g_getI hF hM fdX2 e14 (by decide) rfl u565 dX4_settle_23 ?_
        refine lv_iload_n hx hb dX4_settle_26 rfl (lv_at hl 2 rfl) ?_
        refine lv_iadd hx hb dX4_settle_27 ?_
        have g := gbind h
        clear h
        obtain ⟨S15, e16, h⟩ := g
        refine g_putI hF hM fdX2 e16 (by decide) rfl (Or.inl rfl) ⟨rfl, rfl⟩ u565 dX4_settle_28 (fun H locs hM => ?_)
        refine g_aload_n hx hb dX4_settle_31 rfl (lv_at hl 3 rfl) ?_
        have g := gbind h
        clear h
        obtain ⟨v17, e18, h⟩ := g
        refine g_getR hF hM fdX2 e18 (by decide) rfl u560 dX4_settle_32 ?_
        refine g_astore_n (i := 3) (lv' := [(0, va_rf (some a0)), (1, va_rf x1), (2, .int x2)]) hx hb dX4_settle_35 rfl hl (by decide) (fun v => rfl) (fun ls hl => ?_)
        refine lv_goto (tgt := 17) hx hb dX4_settle_36 (by decide) ?_
        refine W.widen (k := 0) (n := 0) (Nat.le_of_ble_eq_true rfl) (Nat.le_of_ble_eq_true rfl) ?_
        exact ih _ _ _ _ h _ _ _ hM (lv_sub hl [1, 2, 3, 0] rfl)
  unfold f_X4_settle at h
  refine lv_iload_n hx hb dX4_settle_0 rfl (lv_at hl 2 rfl) ?_
  refine lv_if_eq (tgt := 11) hx hb dX4_settle_1 (by decide) (fun c1 => ?_) (fun c1 => ?_)
  · replace h := (if_pos c1).symm.trans h
    rw [← (Option.some.inj h)]
    exact g_vret hF hM rfl dX4_settle_11 (Nat.le_of_ble_eq_true rfl) (Nat.le_of_ble_eq_true rfl)
  · replace h := (if_neg c1).symm.trans h
    refine g_aload_n hx hb dX4_settle_4 rfl (lv_at hl 1 rfl) ?_
    have g := gbind h
    clear h
    obtain ⟨v2, e3, h⟩ := g
    refine g_getR hF hM fdX1 e3 (by decide) rfl u135 dX4_settle_5 ?_
    refine g_ifnonnull (tgt := 12) hx hb dX4_settle_8 (by decide) (fun c4 => ?_) (fun c4 => ?_)
    · replace h := (if_neg c4).symm.trans h
      refine g_aload_n hx hb dX4_settle_12 rfl (lv_at hl 1 rfl) ?_
      have g := gbind h
      clear h
      obtain ⟨v5, e6, h⟩ := g
      refine g_getR hF hM fdX1 e6 (by decide) rfl u138 dX4_settle_13 ?_
      refine g_astore_n (i := 3) (lv' := [(0, va_rf (some a0)), (1, va_rf x1), (2, .int x2)]) hx hb dX4_settle_16 rfl hl (by decide) (fun v => rfl) (fun ls hl => ?_)
      refine W.widen (k := 0) (n := 0) (Nat.le_of_ble_eq_true rfl) (Nat.le_of_ble_eq_true rfl) ?_
      exact JL17 gN _ _ _ _ h _ _ _ hM (lv_sub hl [1, 2, 3, 0] rfl)
    · replace h := (if_pos c4).symm.trans h
      rw [← (Option.some.inj h)]
      exact g_vret hF hM rfl dX4_settle_11 (Nat.le_of_ble_eq_true rfl) (Nat.le_of_ble_eq_true rfl)
abbrev rm_X4_put : Room := { frames := 3, cells := 0, slots := 0, locals := 69 }
theorem k_X4_put : gKc yX4_put cX4_put 7 (some .int) 4 := ⟨u731, u63, by decide +kernel, by decide +kernel, by decide +kernel⟩
set_option maxHeartbeats 4000000 in
set_option maxRecDepth 100000 in
theorem c_X4_put {l : Launch} {D : va_G} {Y : Nat → ClassId} {S : GS} {hs : Nat} {a0 : Nat} {x1 : Int32} {x2 : Int32} {x3 : Int32} {x4 : Int32} {r : Int32} {S' : GS} (h : f_X4_put S a0 x1 x2 x3 x4 = some (.inl (r, S'))) : gMet l yX4_put (gWs yX4_put cX4_put 7 (some .int)) rm_X4_put [va_rf (some a0), .int x1, .int x2, .int x3, .int x4] D Y S hs (some (.int r)) S' hs := by
  refine g_ofW (by decide +kernel) (Or.inl ⟨(Nat.le_of_ble_eq_true rfl), (List.forall_mem_cons.mpr ⟨rf_cat _, (List.forall_mem_cons.mpr ⟨rfl, (List.forall_mem_cons.mpr ⟨rfl, (List.forall_mem_cons.mpr ⟨rfl, (List.forall_mem_cons.mpr ⟨rfl, (fun _ h => absurd h List.not_mem_nil)⟩)⟩)⟩)⟩)⟩)⟩) ?_
  intro p e s m args below meth c ls hsz hname hF hM hl
  have hl : lv_has ls 7 [(0, va_rf (some a0)), (1, .int x1), (2, .int x2), (3, .int x3), (4, .int x4)] := by rw [g_args [va_rf (some a0), .int x1, .int x2, .int x3, .int x4] 0 (List.forall_mem_cons.mpr ⟨rf_cat _, (List.forall_mem_cons.mpr ⟨rfl, (List.forall_mem_cons.mpr ⟨rfl, (List.forall_mem_cons.mpr ⟨rfl, (List.forall_mem_cons.mpr ⟨rfl, (fun _ h => absurd h List.not_mem_nil)⟩)⟩)⟩)⟩)⟩)] at hl; exact hl
  have hF : gF p s m args meth c RX4 cX4_put 7 (some .int) D Y (gA S hs) := hF
  have hx := hF.1
  have hb := hF.2.1
  unfold f_X4_put at h
  refine g_aload_n hx hb dX4_put_0 rfl (lv_at hl 0 rfl) ?_
  refine lv_iload_n hx hb dX4_put_1 rfl (lv_at hl 1 rfl) ?_
  have g := gckE h
  clear h
  obtain ⟨t1, h⟩ := g
  have t1 := eq_of_beq t1
  have g := gthE h
  clear h
  rcases g with ⟨v3, e2, h⟩ | ⟨y4, e2, z5⟩
  · refine g_callV (As := [.int x1]) (rest := []) hF hM (c_X4_needList e2) k_X4_needList u692 u694 u17 rfl rfl t1 rfl hl.1 rfl (Nat.le_of_ble_eq_true rfl) dX4_put_2 ⟨(Nat.le_of_ble_eq_true rfl), (Nat.le_of_ble_eq_true rfl)⟩ ⟨(Nat.le_of_ble_eq_true rfl), (Nat.le_of_ble_eq_true rfl)⟩ (fun H locs hM => ?_)
    refine g_astore (i := 5) (lv' := [(0, va_rf (some a0)), (1, .int x1), (2, .int x2), (3, .int x3), (4, .int x4)]) hx hb dX4_put_5 hl (by decide) (fun v => rfl) (fun ls hl => ?_)
    refine g_aload hx hb dX4_put_7 (lv_at hl 0 rfl) ?_
    have g := gthE h
    clear h
    rcases g with ⟨v7, e6, h⟩ | ⟨y8, e6, z9⟩
    · refine g_callS (As := [va_rf v3]) (rest := []) hF hM (c_X4_openStore e6) k_X4_openStore u732 u733 rfl hl.1 rfl (Nat.le_of_ble_eq_true rfl) dX4_put_9 ⟨(Nat.le_of_ble_eq_true rfl), (Nat.le_of_ble_eq_true rfl)⟩ ⟨(Nat.le_of_ble_eq_true rfl), (Nat.le_of_ble_eq_true rfl)⟩ (fun H locs hM => ?_)
      refine g_astore (i := 6) (lv' := [(5, va_rf v3), (0, va_rf (some a0)), (1, .int x1), (2, .int x2), (3, .int x3), (4, .int x4)]) hx hb dX4_put_12 hl (by decide) (fun v => by simp [rf_cat, ic_cat, lc_cat]) (fun ls hl => ?_)
      refine g_aload hx hb dX4_put_14 (lv_at hl 1 rfl) ?_
      refine lv_iload_n hx hb dX4_put_16 rfl (lv_at hl 4 rfl) ?_
      have g := gthE h
      clear h
      rcases g with ⟨w11, e10, h⟩ | ⟨y12, e10, z13⟩
      · refine g_callS (As := [va_rf v3, .int x2]) (rest := []) hF hM (c_X4_needPlaceToPut e10) k_X4_needPlaceToPut u750 u751 rfl hl.1 rfl (Nat.le_of_ble_eq_true rfl) dX4_put_17 ⟨(Nat.le_of_ble_eq_true rfl), (Nat.le_of_ble_eq_true rfl)⟩ ⟨(Nat.le_of_ble_eq_true rfl), (Nat.le_of_ble_eq_true rfl)⟩ (fun H locs hM => ?_)
        refine lv_iload_n hx hb dX4_put_20 rfl (lv_at hl 5 rfl) ?_
        refine lv_iload hx hb dX4_put_21 (lv_at hl 6 rfl) ?_
        have g := gthE h
        clear h
        rcases g with ⟨w15, e14, h⟩ | ⟨y16, e14, z17⟩
        · refine g_callS (As := [.int x3, .int x4]) (rest := []) hF hM (c_X4_needThing e14) k_X4_needThing u590 u591 rfl hl.1 rfl (Nat.le_of_ble_eq_true rfl) dX4_put_23 ⟨(Nat.le_of_ble_eq_true rfl), (Nat.le_of_ble_eq_true rfl)⟩ ⟨(Nat.le_of_ble_eq_true rfl), (Nat.le_of_ble_eq_true rfl)⟩ (fun H locs hM => ?_)
          refine g_aload hx hb dX4_put_26 (lv_at hl 0 rfl) ?_
          refine lv_iconst (v := 1) hx hb dX4_put_28 (by decide) ?_
          have g := gthE h
          clear h
          rcases g with ⟨w19, e18, h⟩ | ⟨y20, e18, z21⟩
          · refine g_callS (As := [va_rf v7, .int 1]) (rest := []) hF hM (c_X4_needRoom e18) k_X4_needRoom u753 u754 rfl hl.1 rfl (Nat.le_of_ble_eq_true rfl) dX4_put_29 ⟨(Nat.le_of_ble_eq_true rfl), (Nat.le_of_ble_eq_true rfl)⟩ ⟨(Nat.le_of_ble_eq_true rfl), (Nat.le_of_ble_eq_true rfl)⟩ (fun H locs hM => ?_)
            refine g_aload hx hb dX4_put_32 (lv_at hl 0 rfl) ?_
            refine g_aload hx hb dX4_put_34 (lv_at hl 1 rfl) ?_
            have g := gbind h
            clear h
            obtain ⟨a22, e23, h⟩ := g
            have t24 := (gtk_of e23).2
            rw [(gtk_of e23).1]
            have g := gbind h
            clear h
            obtain ⟨v26, e25, h⟩ := g
            refine g_callV (As := []) (rest := [va_rf v7]) hF hM (c_X1_first e25) k_X1_first u553 u214 u215 rfl rfl t24 rfl hl.1 rfl (by simp [rf_cat, ic_cat, lc_cat]) dX4_put_36 ⟨(Nat.le_of_ble_eq_true rfl), (Nat.le_of_ble_eq_true rfl)⟩ ⟨(Nat.le_of_ble_eq_true rfl), (Nat.le_of_ble_eq_true rfl)⟩ (fun H locs hM => ?_)
            refine lv_iload_n hx hb dX4_put_39 rfl (lv_at hl 4 rfl) ?_
            refine lv_iadd hx hb dX4_put_40 ?_
            refine lv_iconst (v := 0) hx hb dX4_put_41 (by decide) ?_
            refine lv_iload_n hx hb dX4_put_42 rfl (lv_at hl 5 rfl) ?_
            refine lv_iload hx hb dX4_put_43 (lv_at hl 6 rfl) ?_
            have g := gbind h
            clear h
            obtain ⟨a27, e28, h⟩ := g
            have t29 := (gtk_of e28).2
            rw [(gtk_of e28).1]
            have g := gbind h
            clear h
            obtain ⟨S31, e30, h⟩ := g
            refine g_callV (As := [.int (v26 + x2), .int 0, .int x3, .int x4]) (rest := []) hF hM (c_X3_insert e30) k_X3_insert u771 u280 u281 rfl rfl t29 rfl hl.1 rfl (Nat.le_of_ble_eq_true rfl) dX4_put_45 ⟨(Nat.le_of_ble_eq_true rfl), (Nat.le_of_ble_eq_true rfl)⟩ ⟨(Nat.le_of_ble_eq_true rfl), (Nat.le_of_ble_eq_true rfl)⟩ (fun H locs hM => ?_)
            refine g_aload_n hx hb dX4_put_48 rfl (lv_at hl 2 rfl) ?_
            refine g_aload hx hb dX4_put_49 (lv_at hl 1 rfl) ?_
            refine lv_iconst (v := 1) hx hb dX4_put_51 (by decide) ?_
            have g := gckE h
            clear h
            obtain ⟨t32, h⟩ := g
            have t32 := eq_of_beq t32
            have g := gbind h
            clear h
            obtain ⟨S34, e33, h⟩ := g
            refine g_callV (As := [va_rf v3, .int 1]) (rest := []) hF hM (c_X4_settle e33) k_X4_settle u772 u774 u18 rfl rfl t32 rfl hl.1 rfl (Nat.le_of_ble_eq_true rfl) dX4_put_52 ⟨(Nat.le_of_ble_eq_true rfl), (Nat.le_of_ble_eq_true rfl)⟩ ⟨(Nat.le_of_ble_eq_true rfl), (Nat.le_of_ble_eq_true rfl)⟩ (fun H locs hM => ?_)
            refine g_aload hx hb dX4_put_55 (lv_at hl 1 rfl) ?_
            have g := gbind h
            clear h
            obtain ⟨a35, e36, h⟩ := g
            have t37 := (gtk_of e36).2
            rw [(gtk_of e36).1]
            have g := gbind h
            clear h
            obtain ⟨v39, e38, h⟩ := g
            refine g_callV (As := []) (rest := []) hF hM (c_X1_count e38) k_X1_count u195 u196 u197 rfl rfl t37 rfl hl.1 rfl (Nat.le_of_ble_eq_true rfl) dX4_put_57 ⟨(Nat.le_of_ble_eq_true rfl), (Nat.le_of_ble_eq_true rfl)⟩ ⟨(Nat.le_of_ble_eq_true rfl), (Nat.le_of_ble_eq_true rfl)⟩ (fun H locs hM => ?_)
            obtain ⟨q1, q2⟩ := Prod.mk.inj (Sum.inl.inj (Option.some.inj h))
            rw [← q1, ← q2]
            exact g_iret hF hM rfl rfl dX4_put_60 (Nat.le_of_ble_eq_true rfl) (Nat.le_of_ble_eq_true rfl)
          · exact nomatch z21
        · exact nomatch z17
      · exact nomatch z13
    · exact nomatch z9
  · exact nomatch z5
abbrev rmx_X4_put : Room := { frames := 8, cells := 1, slots := 6, locals := 132 }
set_option maxHeartbeats 4000000 in
set_option maxRecDepth 100000 in
theorem cx_X4_put {l : Launch} {D : va_G} {Y : Nat → ClassId} {S : GS} {hs : Nat} {a0 : Nat} {x1 : Int32} {x2 : Int32} {x3 : Int32} {x4 : Int32} {x : Nat} (hfl : l.stackTraces = false) (h : f_X4_put S a0 x1 x2 x3 x4 = some (.inr x)) : gMx l yX4_put (gWs yX4_put cX4_put 7 (some .int)) rmx_X4_put [va_rf (some a0), .int x1, .int x2, .int x3, .int x4] D Y S hs (.inr x) := by
  refine g_ofWx (by decide +kernel) (Or.inl ⟨(Nat.le_of_ble_eq_true rfl), (List.forall_mem_cons.mpr ⟨rf_cat _, (List.forall_mem_cons.mpr ⟨rfl, (List.forall_mem_cons.mpr ⟨rfl, (List.forall_mem_cons.mpr ⟨rfl, (List.forall_mem_cons.mpr ⟨rfl, (fun _ h => absurd h List.not_mem_nil)⟩)⟩)⟩)⟩)⟩)⟩) ?_
  intro p e s m args below meth c ls hsz hout hF hM hl
  have hl : lv_has ls 7 [(0, va_rf (some a0)), (1, .int x1), (2, .int x2), (3, .int x3), (4, .int x4)] := by rw [g_args [va_rf (some a0), .int x1, .int x2, .int x3, .int x4] 0 (List.forall_mem_cons.mpr ⟨rf_cat _, (List.forall_mem_cons.mpr ⟨rfl, (List.forall_mem_cons.mpr ⟨rfl, (List.forall_mem_cons.mpr ⟨rfl, (List.forall_mem_cons.mpr ⟨rfl, (fun _ h => absurd h List.not_mem_nil)⟩)⟩)⟩)⟩)⟩)] at hl; exact hl
  have hF : gF p s m args meth c RX4 cX4_put 7 (some .int) D Y (gA S hs) := hF
  have hx := hF.1
  have hb := hF.2.1
  unfold f_X4_put at h
  refine g_aload_n hx hb dX4_put_0 rfl (lv_at hl 0 rfl) ?_
  refine lv_iload_n hx hb dX4_put_1 rfl (lv_at hl 1 rfl) ?_
  have g := gckE h
  clear h
  obtain ⟨t1, h⟩ := g
  have t1 := eq_of_beq t1
  have g := gthE h
  clear h
  rcases g with ⟨v3, e2, h⟩ | ⟨y4, e2, z5⟩
  · refine g_callV (As := [.int x1]) (rest := []) hF hM (c_X4_needList e2) k_X4_needList u692 u694 u17 rfl rfl t1 rfl hl.1 rfl (Nat.le_of_ble_eq_true rfl) dX4_put_2 ⟨(Nat.le_of_ble_eq_true rfl), (Nat.le_of_ble_eq_true rfl)⟩ ⟨(Nat.le_of_ble_eq_true rfl), (Nat.le_of_ble_eq_true rfl)⟩ (fun H locs hM => ?_)
    refine g_astore (i := 5) (lv' := [(0, va_rf (some a0)), (1, .int x1), (2, .int x2), (3, .int x3), (4, .int x4)]) hx hb dX4_put_5 hl (by decide) (fun v => rfl) (fun ls hl => ?_)
    refine g_aload hx hb dX4_put_7 (lv_at hl 0 rfl) ?_
    have g := gthE h
    clear h
    rcases g with ⟨v7, e6, h⟩ | ⟨y8, e6, z9⟩
    · refine g_callS (As := [va_rf v3]) (rest := []) hF hM (c_X4_openStore e6) k_X4_openStore u732 u733 rfl hl.1 rfl (Nat.le_of_ble_eq_true rfl) dX4_put_9 ⟨(Nat.le_of_ble_eq_true rfl), (Nat.le_of_ble_eq_true rfl)⟩ ⟨(Nat.le_of_ble_eq_true rfl), (Nat.le_of_ble_eq_true rfl)⟩ (fun H locs hM => ?_)
      refine g_astore (i := 6) (lv' := [(5, va_rf v3), (0, va_rf (some a0)), (1, .int x1), (2, .int x2), (3, .int x3), (4, .int x4)]) hx hb dX4_put_12 hl (by decide) (fun v => by simp [rf_cat, ic_cat, lc_cat]) (fun ls hl => ?_)
      refine g_aload hx hb dX4_put_14 (lv_at hl 1 rfl) ?_
      refine lv_iload_n hx hb dX4_put_16 rfl (lv_at hl 4 rfl) ?_
      have g := gthE h
      clear h
      rcases g with ⟨w11, e10, h⟩ | ⟨y12, e10, z13⟩
      · refine g_callS (As := [va_rf v3, .int x2]) (rest := []) hF hM (c_X4_needPlaceToPut e10) k_X4_needPlaceToPut u750 u751 rfl hl.1 rfl (Nat.le_of_ble_eq_true rfl) dX4_put_17 ⟨(Nat.le_of_ble_eq_true rfl), (Nat.le_of_ble_eq_true rfl)⟩ ⟨(Nat.le_of_ble_eq_true rfl), (Nat.le_of_ble_eq_true rfl)⟩ (fun H locs hM => ?_)
        refine lv_iload_n hx hb dX4_put_20 rfl (lv_at hl 5 rfl) ?_
        refine lv_iload hx hb dX4_put_21 (lv_at hl 6 rfl) ?_
        have g := gthE h
        clear h
        rcases g with ⟨w15, e14, h⟩ | ⟨y16, e14, z17⟩
        · refine g_callS (As := [.int x3, .int x4]) (rest := []) hF hM (c_X4_needThing e14) k_X4_needThing u590 u591 rfl hl.1 rfl (Nat.le_of_ble_eq_true rfl) dX4_put_23 ⟨(Nat.le_of_ble_eq_true rfl), (Nat.le_of_ble_eq_true rfl)⟩ ⟨(Nat.le_of_ble_eq_true rfl), (Nat.le_of_ble_eq_true rfl)⟩ (fun H locs hM => ?_)
          refine g_aload hx hb dX4_put_26 (lv_at hl 0 rfl) ?_
          refine lv_iconst (v := 1) hx hb dX4_put_28 (by decide) ?_
          have g := gthE h
          clear h
          rcases g with ⟨w19, e18, h⟩ | ⟨y20, e18, z21⟩
          · refine g_callS (As := [va_rf v7, .int 1]) (rest := []) hF hM (c_X4_needRoom e18) k_X4_needRoom u753 u754 rfl hl.1 rfl (Nat.le_of_ble_eq_true rfl) dX4_put_29 ⟨(Nat.le_of_ble_eq_true rfl), (Nat.le_of_ble_eq_true rfl)⟩ ⟨(Nat.le_of_ble_eq_true rfl), (Nat.le_of_ble_eq_true rfl)⟩ (fun H locs hM => ?_)
            refine g_aload hx hb dX4_put_32 (lv_at hl 0 rfl) ?_
            refine g_aload hx hb dX4_put_34 (lv_at hl 1 rfl) ?_
            have g := gbind h
            clear h
            obtain ⟨a22, e23, h⟩ := g
            have t24 := (gtk_of e23).2
            rw [(gtk_of e23).1]
            have g := gbind h
            clear h
            obtain ⟨v26, e25, h⟩ := g
            refine g_callV (As := []) (rest := [va_rf v7]) hF hM (c_X1_first e25) k_X1_first u553 u214 u215 rfl rfl t24 rfl hl.1 rfl (by simp [rf_cat, ic_cat, lc_cat]) dX4_put_36 ⟨(Nat.le_of_ble_eq_true rfl), (Nat.le_of_ble_eq_true rfl)⟩ ⟨(Nat.le_of_ble_eq_true rfl), (Nat.le_of_ble_eq_true rfl)⟩ (fun H locs hM => ?_)
            refine lv_iload_n hx hb dX4_put_39 rfl (lv_at hl 4 rfl) ?_
            refine lv_iadd hx hb dX4_put_40 ?_
            refine lv_iconst (v := 0) hx hb dX4_put_41 (by decide) ?_
            refine lv_iload_n hx hb dX4_put_42 rfl (lv_at hl 5 rfl) ?_
            refine lv_iload hx hb dX4_put_43 (lv_at hl 6 rfl) ?_
            have g := gbind h
            clear h
            obtain ⟨a27, e28, h⟩ := g
            have t29 := (gtk_of e28).2
            rw [(gtk_of e28).1]
            have g := gbind h
            clear h
            obtain ⟨S31, e30, h⟩ := g
            refine g_callV (As := [.int (v26 + x2), .int 0, .int x3, .int x4]) (rest := []) hF hM (c_X3_insert e30) k_X3_insert u771 u280 u281 rfl rfl t29 rfl hl.1 rfl (Nat.le_of_ble_eq_true rfl) dX4_put_45 ⟨(Nat.le_of_ble_eq_true rfl), (Nat.le_of_ble_eq_true rfl)⟩ ⟨(Nat.le_of_ble_eq_true rfl), (Nat.le_of_ble_eq_true rfl)⟩ (fun H locs hM => ?_)
            refine g_aload_n hx hb dX4_put_48 rfl (lv_at hl 2 rfl) ?_
            refine g_aload hx hb dX4_put_49 (lv_at hl 1 rfl) ?_
            refine lv_iconst (v := 1) hx hb dX4_put_51 (by decide) ?_
            have g := gckE h
            clear h
            obtain ⟨t32, h⟩ := g
            have t32 := eq_of_beq t32
            have g := gbind h
            clear h
            obtain ⟨S34, e33, h⟩ := g
            refine g_callV (As := [va_rf v3, .int 1]) (rest := []) hF hM (c_X4_settle e33) k_X4_settle u772 u774 u18 rfl rfl t32 rfl hl.1 rfl (Nat.le_of_ble_eq_true rfl) dX4_put_52 ⟨(Nat.le_of_ble_eq_true rfl), (Nat.le_of_ble_eq_true rfl)⟩ ⟨(Nat.le_of_ble_eq_true rfl), (Nat.le_of_ble_eq_true rfl)⟩ (fun H locs hM => ?_)
            refine g_aload hx hb dX4_put_55 (lv_at hl 1 rfl) ?_
            have g := gbind h
            clear h
            obtain ⟨a35, e36, h⟩ := g
            have t37 := (gtk_of e36).2
            rw [(gtk_of e36).1]
            have g := gbind h
            clear h
            obtain ⟨v39, e38, h⟩ := g
            refine g_callV (As := []) (rest := []) hF hM (c_X1_count e38) k_X1_count u195 u196 u197 rfl rfl t37 rfl hl.1 rfl (Nat.le_of_ble_eq_true rfl) dX4_put_57 ⟨(Nat.le_of_ble_eq_true rfl), (Nat.le_of_ble_eq_true rfl)⟩ ⟨(Nat.le_of_ble_eq_true rfl), (Nat.le_of_ble_eq_true rfl)⟩ (fun H locs hM => ?_)
            exact nomatch (Option.some.inj h)
          · exact g_callSt (As := [va_rf v7, .int 1]) (rest := []) hF hM hout (cx_X4_needRoom hfl e18) k_X4_needRoom u753 u754 rfl hl.1 rfl (Nat.le_of_ble_eq_true rfl) dX4_put_29 ⟨(Nat.le_of_ble_eq_true rfl), (Nat.le_of_ble_eq_true rfl)⟩ ⟨(Nat.le_of_ble_eq_true rfl), (Nat.le_of_ble_eq_true rfl)⟩ (Nat.le_of_ble_eq_true rfl) (Nat.le_of_ble_eq_true rfl) (congrArg Sum.inr (Sum.inr.inj z21))
        · exact g_callSt (As := [.int x3, .int x4]) (rest := []) hF hM hout (cx_X4_needThing hfl e14) k_X4_needThing u590 u591 rfl hl.1 rfl (Nat.le_of_ble_eq_true rfl) dX4_put_23 ⟨(Nat.le_of_ble_eq_true rfl), (Nat.le_of_ble_eq_true rfl)⟩ ⟨(Nat.le_of_ble_eq_true rfl), (Nat.le_of_ble_eq_true rfl)⟩ (Nat.le_of_ble_eq_true rfl) (Nat.le_of_ble_eq_true rfl) (congrArg Sum.inr (Sum.inr.inj z17))
      · exact g_callSt (As := [va_rf v3, .int x2]) (rest := []) hF hM hout (cx_X4_needPlaceToPut hfl e10) k_X4_needPlaceToPut u750 u751 rfl hl.1 rfl (Nat.le_of_ble_eq_true rfl) dX4_put_17 ⟨(Nat.le_of_ble_eq_true rfl), (Nat.le_of_ble_eq_true rfl)⟩ ⟨(Nat.le_of_ble_eq_true rfl), (Nat.le_of_ble_eq_true rfl)⟩ (Nat.le_of_ble_eq_true rfl) (Nat.le_of_ble_eq_true rfl) (congrArg Sum.inr (Sum.inr.inj z13))
    · exact g_callSt (As := [va_rf v3]) (rest := []) hF hM hout (cx_X4_openStore hfl e6) k_X4_openStore u732 u733 rfl hl.1 rfl (Nat.le_of_ble_eq_true rfl) dX4_put_9 ⟨(Nat.le_of_ble_eq_true rfl), (Nat.le_of_ble_eq_true rfl)⟩ ⟨(Nat.le_of_ble_eq_true rfl), (Nat.le_of_ble_eq_true rfl)⟩ (Nat.le_of_ble_eq_true rfl) (Nat.le_of_ble_eq_true rfl) (congrArg Sum.inr (Sum.inr.inj z9))
  · exact g_callVt (As := [.int x1]) (rest := []) hF hM hout (cx_X4_needList hfl e2) k_X4_needList u692 u694 u17 rfl rfl t1 rfl hl.1 rfl (Nat.le_of_ble_eq_true rfl) dX4_put_2 ⟨(Nat.le_of_ble_eq_true rfl), (Nat.le_of_ble_eq_true rfl)⟩ ⟨(Nat.le_of_ble_eq_true rfl), (Nat.le_of_ble_eq_true rfl)⟩ (Nat.le_of_ble_eq_true rfl) (Nat.le_of_ble_eq_true rfl) (congrArg Sum.inr (Sum.inr.inj z5))
abbrev rm_X4_set : Room := { frames := 3, cells := 0, slots := 0, locals := 63 }
theorem k_X4_set : gKc yX4_set cX4_set 8 (some .int) 4 := ⟨u786, u63, by decide +kernel, by decide +kernel, by decide +kernel⟩
set_option maxHeartbeats 4000000 in
set_option maxRecDepth 100000 in
theorem c_X4_set {l : Launch} {D : va_G} {Y : Nat → ClassId} {S : GS} {hs : Nat} {a0 : Nat} {x1 : Int32} {x2 : Int32} {x3 : Int32} {x4 : Int32} {r : Int32} {S' : GS} (h : f_X4_set S a0 x1 x2 x3 x4 = some (.inl (r, S'))) : gMet l yX4_set (gWs yX4_set cX4_set 8 (some .int)) rm_X4_set [va_rf (some a0), .int x1, .int x2, .int x3, .int x4] D Y S hs (some (.int r)) S' hs := by
  refine g_ofW (by decide +kernel) (Or.inl ⟨(Nat.le_of_ble_eq_true rfl), (List.forall_mem_cons.mpr ⟨rf_cat _, (List.forall_mem_cons.mpr ⟨rfl, (List.forall_mem_cons.mpr ⟨rfl, (List.forall_mem_cons.mpr ⟨rfl, (List.forall_mem_cons.mpr ⟨rfl, (fun _ h => absurd h List.not_mem_nil)⟩)⟩)⟩)⟩)⟩)⟩) ?_
  intro p e s m args below meth c ls hsz hname hF hM hl
  have hl : lv_has ls 8 [(0, va_rf (some a0)), (1, .int x1), (2, .int x2), (3, .int x3), (4, .int x4)] := by rw [g_args [va_rf (some a0), .int x1, .int x2, .int x3, .int x4] 0 (List.forall_mem_cons.mpr ⟨rf_cat _, (List.forall_mem_cons.mpr ⟨rfl, (List.forall_mem_cons.mpr ⟨rfl, (List.forall_mem_cons.mpr ⟨rfl, (List.forall_mem_cons.mpr ⟨rfl, (fun _ h => absurd h List.not_mem_nil)⟩)⟩)⟩)⟩)⟩)] at hl; exact hl
  have hF : gF p s m args meth c RX4 cX4_set 8 (some .int) D Y (gA S hs) := hF
  have hx := hF.1
  have hb := hF.2.1
  unfold f_X4_set at h
  refine g_aload_n hx hb dX4_set_0 rfl (lv_at hl 0 rfl) ?_
  refine lv_iload_n hx hb dX4_set_1 rfl (lv_at hl 1 rfl) ?_
  have g := gckE h
  clear h
  obtain ⟨t1, h⟩ := g
  have t1 := eq_of_beq t1
  have g := gthE h
  clear h
  rcases g with ⟨v3, e2, h⟩ | ⟨y4, e2, z5⟩
  · refine g_callV (As := [.int x1]) (rest := []) hF hM (c_X4_needList e2) k_X4_needList u692 u694 u17 rfl rfl t1 rfl hl.1 rfl (Nat.le_of_ble_eq_true rfl) dX4_set_2 ⟨(Nat.le_of_ble_eq_true rfl), (Nat.le_of_ble_eq_true rfl)⟩ ⟨(Nat.le_of_ble_eq_true rfl), (Nat.le_of_ble_eq_true rfl)⟩ (fun H locs hM => ?_)
    refine g_astore (i := 5) (lv' := [(0, va_rf (some a0)), (1, .int x1), (2, .int x2), (3, .int x3), (4, .int x4)]) hx hb dX4_set_5 hl (by decide) (fun v => rfl) (fun ls hl => ?_)
    refine g_aload hx hb dX4_set_7 (lv_at hl 0 rfl) ?_
    have g := gthE h
    clear h
    rcases g with ⟨v7, e6, h⟩ | ⟨y8, e6, z9⟩
    · refine g_callS (As := [va_rf v3]) (rest := []) hF hM (c_X4_openStore e6) k_X4_openStore u732 u733 rfl hl.1 rfl (Nat.le_of_ble_eq_true rfl) dX4_set_9 ⟨(Nat.le_of_ble_eq_true rfl), (Nat.le_of_ble_eq_true rfl)⟩ ⟨(Nat.le_of_ble_eq_true rfl), (Nat.le_of_ble_eq_true rfl)⟩ (fun H locs hM => ?_)
      refine g_astore (i := 6) (lv' := [(5, va_rf v3), (0, va_rf (some a0)), (1, .int x1), (2, .int x2), (3, .int x3), (4, .int x4)]) hx hb dX4_set_12 hl (by decide) (fun v => by simp [rf_cat, ic_cat, lc_cat]) (fun ls hl => ?_)
      refine g_aload hx hb dX4_set_14 (lv_at hl 1 rfl) ?_
      refine lv_iload_n hx hb dX4_set_16 rfl (lv_at hl 4 rfl) ?_
      have g := gthE h
      clear h
      rcases g with ⟨w11, e10, h⟩ | ⟨y12, e10, z13⟩
      · refine g_callS (As := [va_rf v3, .int x2]) (rest := []) hF hM (c_X4_needPlace e10) k_X4_needPlace u696 u697 rfl hl.1 rfl (Nat.le_of_ble_eq_true rfl) dX4_set_17 ⟨(Nat.le_of_ble_eq_true rfl), (Nat.le_of_ble_eq_true rfl)⟩ ⟨(Nat.le_of_ble_eq_true rfl), (Nat.le_of_ble_eq_true rfl)⟩ (fun H locs hM => ?_)
        refine lv_iload_n hx hb dX4_set_20 rfl (lv_at hl 5 rfl) ?_
        refine lv_iload hx hb dX4_set_21 (lv_at hl 6 rfl) ?_
        have g := gthE h
        clear h
        rcases g with ⟨w15, e14, h⟩ | ⟨y16, e14, z17⟩
        · refine g_callS (As := [.int x3, .int x4]) (rest := []) hF hM (c_X4_needThing e14) k_X4_needThing u590 u591 rfl hl.1 rfl (Nat.le_of_ble_eq_true rfl) dX4_set_23 ⟨(Nat.le_of_ble_eq_true rfl), (Nat.le_of_ble_eq_true rfl)⟩ ⟨(Nat.le_of_ble_eq_true rfl), (Nat.le_of_ble_eq_true rfl)⟩ (fun H locs hM => ?_)
          refine g_aload hx hb dX4_set_26 (lv_at hl 1 rfl) ?_
          refine lv_iload_n hx hb dX4_set_28 rfl (lv_at hl 4 rfl) ?_
          have g := gbind h
          clear h
          obtain ⟨a18, e19, h⟩ := g
          have t20 := (gtk_of e19).2
          rw [(gtk_of e19).1]
          have g := gbind h
          clear h
          obtain ⟨v22, e21, h⟩ := g
          refine g_callV (As := [.int x2]) (rest := []) hF hM (c_X1_hashOf e21) k_X1_hashOf u787 u222 u223 rfl rfl t20 rfl hl.1 rfl (Nat.le_of_ble_eq_true rfl) dX4_set_29 ⟨(Nat.le_of_ble_eq_true rfl), (Nat.le_of_ble_eq_true rfl)⟩ ⟨(Nat.le_of_ble_eq_true rfl), (Nat.le_of_ble_eq_true rfl)⟩ (fun H locs hM => ?_)
          refine lv_istore (i := 7) (lv' := [(7, .int v22), (6, va_rf v7), (5, va_rf v3), (0, va_rf (some a0)), (1, .int x1), (2, .int x2), (3, .int x3), (4, .int x4)]) hx hb dX4_set_32 hl (by decide) (by simp [rf_cat, ic_cat, lc_cat]) (fun ls hl => ?_)
          refine g_aload hx hb dX4_set_34 (lv_at hl 1 rfl) ?_
          refine g_aload hx hb dX4_set_36 (lv_at hl 2 rfl) ?_
          have g := gbind h
          clear h
          obtain ⟨a23, e24, h⟩ := g
          have t25 := (gtk_of e24).2
          rw [(gtk_of e24).1]
          have g := gbind h
          clear h
          obtain ⟨v27, e26, h⟩ := g
          refine g_callV (As := []) (rest := [va_rf v7]) hF hM (c_X1_first e26) k_X1_first u553 u214 u215 rfl rfl t25 rfl hl.1 rfl (by simp [rf_cat, ic_cat, lc_cat]) dX4_set_38 ⟨(Nat.le_of_ble_eq_true rfl), (Nat.le_of_ble_eq_true rfl)⟩ ⟨(Nat.le_of_ble_eq_true rfl), (Nat.le_of_ble_eq_true rfl)⟩ (fun H locs hM => ?_)
          refine lv_iload_n hx hb dX4_set_41 rfl (lv_at hl 5 rfl) ?_
          refine lv_iadd hx hb dX4_set_42 ?_
          refine lv_iload_n hx hb dX4_set_43 rfl (lv_at hl 6 rfl) ?_
          refine lv_iload hx hb dX4_set_44 (lv_at hl 7 rfl) ?_
          have g := gbind h
          clear h
          obtain ⟨a28, e29, h⟩ := g
          have t30 := (gtk_of e29).2
          rw [(gtk_of e29).1]
          have g := gbind h
          clear h
          obtain ⟨S32, e31, h⟩ := g
          refine g_callV (As := [.int (v27 + x2), .int x3, .int x4]) (rest := []) hF hM (c_X3_lay e31) k_X3_lay u788 u292 u293 rfl rfl t30 rfl hl.1 rfl (Nat.le_of_ble_eq_true rfl) dX4_set_46 ⟨(Nat.le_of_ble_eq_true rfl), (Nat.le_of_ble_eq_true rfl)⟩ ⟨(Nat.le_of_ble_eq_true rfl), (Nat.le_of_ble_eq_true rfl)⟩ (fun H locs hM => ?_)
          refine lv_iload hx hb dX4_set_49 (lv_at hl 0 rfl) ?_
          obtain ⟨q1, q2⟩ := Prod.mk.inj (Sum.inl.inj (Option.some.inj h))
          rw [← q1, ← q2]
          exact g_iret hF hM rfl rfl dX4_set_51 (Nat.le_of_ble_eq_true rfl) (Nat.le_of_ble_eq_true rfl)
        · exact nomatch z17
      · exact nomatch z13
    · exact nomatch z9
  · exact nomatch z5
abbrev rmx_X4_set : Room := { frames := 8, cells := 1, slots := 6, locals := 132 }
set_option maxHeartbeats 4000000 in
set_option maxRecDepth 100000 in
theorem cx_X4_set {l : Launch} {D : va_G} {Y : Nat → ClassId} {S : GS} {hs : Nat} {a0 : Nat} {x1 : Int32} {x2 : Int32} {x3 : Int32} {x4 : Int32} {x : Nat} (hfl : l.stackTraces = false) (h : f_X4_set S a0 x1 x2 x3 x4 = some (.inr x)) : gMx l yX4_set (gWs yX4_set cX4_set 8 (some .int)) rmx_X4_set [va_rf (some a0), .int x1, .int x2, .int x3, .int x4] D Y S hs (.inr x) := by
  refine g_ofWx (by decide +kernel) (Or.inl ⟨(Nat.le_of_ble_eq_true rfl), (List.forall_mem_cons.mpr ⟨rf_cat _, (List.forall_mem_cons.mpr ⟨rfl, (List.forall_mem_cons.mpr ⟨rfl, (List.forall_mem_cons.mpr ⟨rfl, (List.forall_mem_cons.mpr ⟨rfl, (fun _ h => absurd h List.not_mem_nil)⟩)⟩)⟩)⟩)⟩)⟩) ?_
  intro p e s m args below meth c ls hsz hout hF hM hl
  have hl : lv_has ls 8 [(0, va_rf (some a0)), (1, .int x1), (2, .int x2), (3, .int x3), (4, .int x4)] := by rw [g_args [va_rf (some a0), .int x1, .int x2, .int x3, .int x4] 0 (List.forall_mem_cons.mpr ⟨rf_cat _, (List.forall_mem_cons.mpr ⟨rfl, (List.forall_mem_cons.mpr ⟨rfl, (List.forall_mem_cons.mpr ⟨rfl, (List.forall_mem_cons.mpr ⟨rfl, (fun _ h => absurd h List.not_mem_nil)⟩)⟩)⟩)⟩)⟩)] at hl; exact hl
  have hF : gF p s m args meth c RX4 cX4_set 8 (some .int) D Y (gA S hs) := hF
  have hx := hF.1
  have hb := hF.2.1
  unfold f_X4_set at h
  refine g_aload_n hx hb dX4_set_0 rfl (lv_at hl 0 rfl) ?_
  refine lv_iload_n hx hb dX4_set_1 rfl (lv_at hl 1 rfl) ?_
  have g := gckE h
  clear h
  obtain ⟨t1, h⟩ := g
  have t1 := eq_of_beq t1
  have g := gthE h
  clear h
  rcases g with ⟨v3, e2, h⟩ | ⟨y4, e2, z5⟩
  · refine g_callV (As := [.int x1]) (rest := []) hF hM (c_X4_needList e2) k_X4_needList u692 u694 u17 rfl rfl t1 rfl hl.1 rfl (Nat.le_of_ble_eq_true rfl) dX4_set_2 ⟨(Nat.le_of_ble_eq_true rfl), (Nat.le_of_ble_eq_true rfl)⟩ ⟨(Nat.le_of_ble_eq_true rfl), (Nat.le_of_ble_eq_true rfl)⟩ (fun H locs hM => ?_)
    refine g_astore (i := 5) (lv' := [(0, va_rf (some a0)), (1, .int x1), (2, .int x2), (3, .int x3), (4, .int x4)]) hx hb dX4_set_5 hl (by decide) (fun v => rfl) (fun ls hl => ?_)
    refine g_aload hx hb dX4_set_7 (lv_at hl 0 rfl) ?_
    have g := gthE h
    clear h
    rcases g with ⟨v7, e6, h⟩ | ⟨y8, e6, z9⟩
    · refine g_callS (As := [va_rf v3]) (rest := []) hF hM (c_X4_openStore e6) k_X4_openStore u732 u733 rfl hl.1 rfl (Nat.le_of_ble_eq_true rfl) dX4_set_9 ⟨(Nat.le_of_ble_eq_true rfl), (Nat.le_of_ble_eq_true rfl)⟩ ⟨(Nat.le_of_ble_eq_true rfl), (Nat.le_of_ble_eq_true rfl)⟩ (fun H locs hM => ?_)
      refine g_astore (i := 6) (lv' := [(5, va_rf v3), (0, va_rf (some a0)), (1, .int x1), (2, .int x2), (3, .int x3), (4, .int x4)]) hx hb dX4_set_12 hl (by decide) (fun v => by simp [rf_cat, ic_cat, lc_cat]) (fun ls hl => ?_)
      refine g_aload hx hb dX4_set_14 (lv_at hl 1 rfl) ?_
      refine lv_iload_n hx hb dX4_set_16 rfl (lv_at hl 4 rfl) ?_
      have g := gthE h
      clear h
      rcases g with ⟨w11, e10, h⟩ | ⟨y12, e10, z13⟩
      · refine g_callS (As := [va_rf v3, .int x2]) (rest := []) hF hM (c_X4_needPlace e10) k_X4_needPlace u696 u697 rfl hl.1 rfl (Nat.le_of_ble_eq_true rfl) dX4_set_17 ⟨(Nat.le_of_ble_eq_true rfl), (Nat.le_of_ble_eq_true rfl)⟩ ⟨(Nat.le_of_ble_eq_true rfl), (Nat.le_of_ble_eq_true rfl)⟩ (fun H locs hM => ?_)
        refine lv_iload_n hx hb dX4_set_20 rfl (lv_at hl 5 rfl) ?_
        refine lv_iload hx hb dX4_set_21 (lv_at hl 6 rfl) ?_
        have g := gthE h
        clear h
        rcases g with ⟨w15, e14, h⟩ | ⟨y16, e14, z17⟩
        · refine g_callS (As := [.int x3, .int x4]) (rest := []) hF hM (c_X4_needThing e14) k_X4_needThing u590 u591 rfl hl.1 rfl (Nat.le_of_ble_eq_true rfl) dX4_set_23 ⟨(Nat.le_of_ble_eq_true rfl), (Nat.le_of_ble_eq_true rfl)⟩ ⟨(Nat.le_of_ble_eq_true rfl), (Nat.le_of_ble_eq_true rfl)⟩ (fun H locs hM => ?_)
          refine g_aload hx hb dX4_set_26 (lv_at hl 1 rfl) ?_
          refine lv_iload_n hx hb dX4_set_28 rfl (lv_at hl 4 rfl) ?_
          have g := gbind h
          clear h
          obtain ⟨a18, e19, h⟩ := g
          have t20 := (gtk_of e19).2
          rw [(gtk_of e19).1]
          have g := gbind h
          clear h
          obtain ⟨v22, e21, h⟩ := g
          refine g_callV (As := [.int x2]) (rest := []) hF hM (c_X1_hashOf e21) k_X1_hashOf u787 u222 u223 rfl rfl t20 rfl hl.1 rfl (Nat.le_of_ble_eq_true rfl) dX4_set_29 ⟨(Nat.le_of_ble_eq_true rfl), (Nat.le_of_ble_eq_true rfl)⟩ ⟨(Nat.le_of_ble_eq_true rfl), (Nat.le_of_ble_eq_true rfl)⟩ (fun H locs hM => ?_)
          refine lv_istore (i := 7) (lv' := [(7, .int v22), (6, va_rf v7), (5, va_rf v3), (0, va_rf (some a0)), (1, .int x1), (2, .int x2), (3, .int x3), (4, .int x4)]) hx hb dX4_set_32 hl (by decide) (by simp [rf_cat, ic_cat, lc_cat]) (fun ls hl => ?_)
          refine g_aload hx hb dX4_set_34 (lv_at hl 1 rfl) ?_
          refine g_aload hx hb dX4_set_36 (lv_at hl 2 rfl) ?_
          have g := gbind h
          clear h
          obtain ⟨a23, e24, h⟩ := g
          have t25 := (gtk_of e24).2
          rw [(gtk_of e24).1]
          have g := gbind h
          clear h
          obtain ⟨v27, e26, h⟩ := g
          refine g_callV (As := []) (rest := [va_rf v7]) hF hM (c_X1_first e26) k_X1_first u553 u214 u215 rfl rfl t25 rfl hl.1 rfl (by simp [rf_cat, ic_cat, lc_cat]) dX4_set_38 ⟨(Nat.le_of_ble_eq_true rfl), (Nat.le_of_ble_eq_true rfl)⟩ ⟨(Nat.le_of_ble_eq_true rfl), (Nat.le_of_ble_eq_true rfl)⟩ (fun H locs hM => ?_)
          refine lv_iload_n hx hb dX4_set_41 rfl (lv_at hl 5 rfl) ?_
          refine lv_iadd hx hb dX4_set_42 ?_
          refine lv_iload_n hx hb dX4_set_43 rfl (lv_at hl 6 rfl) ?_
          refine lv_iload hx hb dX4_set_44 (lv_at hl 7 rfl) ?_
          have g := gbind h
          clear h
          obtain ⟨a28, e29, h⟩ := g
          have t30 := (gtk_of e29).2
          rw [(gtk_of e29).1]
          have g := gbind h
          clear h
          obtain ⟨S32, e31, h⟩ := g
          refine g_callV (As := [.int (v27 + x2), .int x3, .int x4]) (rest := []) hF hM (c_X3_lay e31) k_X3_lay u788 u292 u293 rfl rfl t30 rfl hl.1 rfl (Nat.le_of_ble_eq_true rfl) dX4_set_46 ⟨(Nat.le_of_ble_eq_true rfl), (Nat.le_of_ble_eq_true rfl)⟩ ⟨(Nat.le_of_ble_eq_true rfl), (Nat.le_of_ble_eq_true rfl)⟩ (fun H locs hM => ?_)
          refine lv_iload hx hb dX4_set_49 (lv_at hl 0 rfl) ?_
          exact nomatch (Option.some.inj h)
        · exact g_callSt (As := [.int x3, .int x4]) (rest := []) hF hM hout (cx_X4_needThing hfl e14) k_X4_needThing u590 u591 rfl hl.1 rfl (Nat.le_of_ble_eq_true rfl) dX4_set_23 ⟨(Nat.le_of_ble_eq_true rfl), (Nat.le_of_ble_eq_true rfl)⟩ ⟨(Nat.le_of_ble_eq_true rfl), (Nat.le_of_ble_eq_true rfl)⟩ (Nat.le_of_ble_eq_true rfl) (Nat.le_of_ble_eq_true rfl) (congrArg Sum.inr (Sum.inr.inj z17))
      · exact g_callSt (As := [va_rf v3, .int x2]) (rest := []) hF hM hout (cx_X4_needPlace hfl e10) k_X4_needPlace u696 u697 rfl hl.1 rfl (Nat.le_of_ble_eq_true rfl) dX4_set_17 ⟨(Nat.le_of_ble_eq_true rfl), (Nat.le_of_ble_eq_true rfl)⟩ ⟨(Nat.le_of_ble_eq_true rfl), (Nat.le_of_ble_eq_true rfl)⟩ (Nat.le_of_ble_eq_true rfl) (Nat.le_of_ble_eq_true rfl) (congrArg Sum.inr (Sum.inr.inj z13))
    · exact g_callSt (As := [va_rf v3]) (rest := []) hF hM hout (cx_X4_openStore hfl e6) k_X4_openStore u732 u733 rfl hl.1 rfl (Nat.le_of_ble_eq_true rfl) dX4_set_9 ⟨(Nat.le_of_ble_eq_true rfl), (Nat.le_of_ble_eq_true rfl)⟩ ⟨(Nat.le_of_ble_eq_true rfl), (Nat.le_of_ble_eq_true rfl)⟩ (Nat.le_of_ble_eq_true rfl) (Nat.le_of_ble_eq_true rfl) (congrArg Sum.inr (Sum.inr.inj z9))
  · exact g_callVt (As := [.int x1]) (rest := []) hF hM hout (cx_X4_needList hfl e2) k_X4_needList u692 u694 u17 rfl rfl t1 rfl hl.1 rfl (Nat.le_of_ble_eq_true rfl) dX4_set_2 ⟨(Nat.le_of_ble_eq_true rfl), (Nat.le_of_ble_eq_true rfl)⟩ ⟨(Nat.le_of_ble_eq_true rfl), (Nat.le_of_ble_eq_true rfl)⟩ (Nat.le_of_ble_eq_true rfl) (Nat.le_of_ble_eq_true rfl) (congrArg Sum.inr (Sum.inr.inj z5))
abbrev rm_X4_take : Room := { frames := 3, cells := 0, slots := 0, locals := 65 }
theorem k_X4_take : gKc yX4_take cX4_take 6 (some .int) 2 := ⟨u795, u63, by decide +kernel, by decide +kernel, by decide +kernel⟩
set_option maxHeartbeats 4000000 in
set_option maxRecDepth 100000 in
theorem c_X4_take {l : Launch} {D : va_G} {Y : Nat → ClassId} {S : GS} {hs : Nat} {a0 : Nat} {x1 : Int32} {x2 : Int32} {r : Int32} {S' : GS} (h : f_X4_take S a0 x1 x2 = some (.inl (r, S'))) : gMet l yX4_take (gWs yX4_take cX4_take 6 (some .int)) rm_X4_take [va_rf (some a0), .int x1, .int x2] D Y S hs (some (.int r)) S' hs := by
  refine g_ofW (by decide +kernel) (Or.inl ⟨(Nat.le_of_ble_eq_true rfl), (List.forall_mem_cons.mpr ⟨rf_cat _, (List.forall_mem_cons.mpr ⟨rfl, (List.forall_mem_cons.mpr ⟨rfl, (fun _ h => absurd h List.not_mem_nil)⟩)⟩)⟩)⟩) ?_
  intro p e s m args below meth c ls hsz hname hF hM hl
  have hl : lv_has ls 6 [(0, va_rf (some a0)), (1, .int x1), (2, .int x2)] := by rw [g_args [va_rf (some a0), .int x1, .int x2] 0 (List.forall_mem_cons.mpr ⟨rf_cat _, (List.forall_mem_cons.mpr ⟨rfl, (List.forall_mem_cons.mpr ⟨rfl, (fun _ h => absurd h List.not_mem_nil)⟩)⟩)⟩)] at hl; exact hl
  have hF : gF p s m args meth c RX4 cX4_take 6 (some .int) D Y (gA S hs) := hF
  have hx := hF.1
  have hb := hF.2.1
  unfold f_X4_take at h
  refine g_aload_n hx hb dX4_take_0 rfl (lv_at hl 0 rfl) ?_
  refine lv_iload_n hx hb dX4_take_1 rfl (lv_at hl 1 rfl) ?_
  have g := gckE h
  clear h
  obtain ⟨t1, h⟩ := g
  have t1 := eq_of_beq t1
  have g := gthE h
  clear h
  rcases g with ⟨v3, e2, h⟩ | ⟨y4, e2, z5⟩
  · refine g_callV (As := [.int x1]) (rest := []) hF hM (c_X4_needList e2) k_X4_needList u692 u694 u17 rfl rfl t1 rfl hl.1 rfl (Nat.le_of_ble_eq_true rfl) dX4_take_2 ⟨(Nat.le_of_ble_eq_true rfl), (Nat.le_of_ble_eq_true rfl)⟩ ⟨(Nat.le_of_ble_eq_true rfl), (Nat.le_of_ble_eq_true rfl)⟩ (fun H locs hM => ?_)
    refine g_astore_n (i := 3) (lv' := [(0, va_rf (some a0)), (1, .int x1), (2, .int x2)]) hx hb dX4_take_5 rfl hl (by decide) (fun v => rfl) (fun ls hl => ?_)
    refine g_aload_n hx hb dX4_take_6 rfl (lv_at hl 0 rfl) ?_
    have g := gthE h
    clear h
    rcases g with ⟨v7, e6, h⟩ | ⟨y8, e6, z9⟩
    · refine g_callS (As := [va_rf v3]) (rest := []) hF hM (c_X4_openStore e6) k_X4_openStore u732 u733 rfl hl.1 rfl (Nat.le_of_ble_eq_true rfl) dX4_take_7 ⟨(Nat.le_of_ble_eq_true rfl), (Nat.le_of_ble_eq_true rfl)⟩ ⟨(Nat.le_of_ble_eq_true rfl), (Nat.le_of_ble_eq_true rfl)⟩ (fun H locs hM => ?_)
      refine g_astore (i := 4) (lv' := [(3, va_rf v3), (0, va_rf (some a0)), (1, .int x1), (2, .int x2)]) hx hb dX4_take_10 hl (by decide) (fun v => by simp [rf_cat, ic_cat, lc_cat]) (fun ls hl => ?_)
      refine g_aload_n hx hb dX4_take_12 rfl (lv_at hl 1 rfl) ?_
      refine lv_iload_n hx hb dX4_take_13 rfl (lv_at hl 4 rfl) ?_
      have g := gthE h
      clear h
      rcases g with ⟨w11, e10, h⟩ | ⟨y12, e10, z13⟩
      · refine g_callS (As := [va_rf v3, .int x2]) (rest := []) hF hM (c_X4_needPlace e10) k_X4_needPlace u696 u697 rfl hl.1 rfl (Nat.le_of_ble_eq_true rfl) dX4_take_14 ⟨(Nat.le_of_ble_eq_true rfl), (Nat.le_of_ble_eq_true rfl)⟩ ⟨(Nat.le_of_ble_eq_true rfl), (Nat.le_of_ble_eq_true rfl)⟩ (fun H locs hM => ?_)
        refine g_aload_n hx hb dX4_take_17 rfl (lv_at hl 1 rfl) ?_
        refine lv_iload_n hx hb dX4_take_18 rfl (lv_at hl 4 rfl) ?_
        have g := gbind h
        clear h
        obtain ⟨a14, e15, h⟩ := g
        have t16 := (gtk_of e15).2
        rw [(gtk_of e15).1]
        have g := gbind h
        clear h
        obtain ⟨v18, e17, h⟩ := g
        refine g_callV (As := [.int x2]) (rest := []) hF hM (c_X1_hashOf e17) k_X1_hashOf u787 u222 u223 rfl rfl t16 rfl hl.1 rfl (Nat.le_of_ble_eq_true rfl) dX4_take_19 ⟨(Nat.le_of_ble_eq_true rfl), (Nat.le_of_ble_eq_true rfl)⟩ ⟨(Nat.le_of_ble_eq_true rfl), (Nat.le_of_ble_eq_true rfl)⟩ (fun H locs hM => ?_)
        refine lv_istore (i := 5) (lv' := [(5, .int v18), (4, va_rf v7), (3, va_rf v3), (0, va_rf (some a0)), (1, .int x1), (2, .int x2)]) hx hb dX4_take_22 hl (by decide) (by simp [rf_cat, ic_cat, lc_cat]) (fun ls hl => ?_)
        refine g_aload hx hb dX4_take_24 (lv_at hl 1 rfl) ?_
        refine g_aload_n hx hb dX4_take_26 rfl (lv_at hl 2 rfl) ?_
        have g := gbind h
        clear h
        obtain ⟨a19, e20, h⟩ := g
        have t21 := (gtk_of e20).2
        rw [(gtk_of e20).1]
        have g := gbind h
        clear h
        obtain ⟨v23, e22, h⟩ := g
        refine g_callV (As := []) (rest := [va_rf v7]) hF hM (c_X1_first e22) k_X1_first u553 u214 u215 rfl rfl t21 rfl hl.1 rfl (by simp [rf_cat, ic_cat, lc_cat]) dX4_take_27 ⟨(Nat.le_of_ble_eq_true rfl), (Nat.le_of_ble_eq_true rfl)⟩ ⟨(Nat.le_of_ble_eq_true rfl), (Nat.le_of_ble_eq_true rfl)⟩ (fun H locs hM => ?_)
        refine lv_iload_n hx hb dX4_take_30 rfl (lv_at hl 5 rfl) ?_
        refine lv_iadd hx hb dX4_take_31 ?_
        have g := gbind h
        clear h
        obtain ⟨a24, e25, h⟩ := g
        have t26 := (gtk_of e25).2
        rw [(gtk_of e25).1]
        have g := gbind h
        clear h
        obtain ⟨S28, e27, h⟩ := g
        refine g_callV (As := [.int (v23 + x2)]) (rest := []) hF hM (c_X3_remove e27) k_X3_remove u796 u797 u798 rfl rfl t26 rfl hl.1 rfl (Nat.le_of_ble_eq_true rfl) dX4_take_32 ⟨(Nat.le_of_ble_eq_true rfl), (Nat.le_of_ble_eq_true rfl)⟩ ⟨(Nat.le_of_ble_eq_true rfl), (Nat.le_of_ble_eq_true rfl)⟩ (fun H locs hM => ?_)
        refine g_aload_n hx hb dX4_take_35 rfl (lv_at hl 3 rfl) ?_
        refine g_aload_n hx hb dX4_take_36 rfl (lv_at hl 2 rfl) ?_
        refine lv_iconst (v := (-1)) hx hb dX4_take_37 (by decide) ?_
        have g := gckE h
        clear h
        obtain ⟨t29, h⟩ := g
        have t29 := eq_of_beq t29
        have g := gbind h
        clear h
        obtain ⟨S31, e30, h⟩ := g
        refine g_callV (As := [va_rf v3, .int (-1)]) (rest := []) hF hM (c_X4_settle e30) k_X4_settle u772 u774 u18 rfl rfl t29 rfl hl.1 rfl (Nat.le_of_ble_eq_true rfl) dX4_take_38 ⟨(Nat.le_of_ble_eq_true rfl), (Nat.le_of_ble_eq_true rfl)⟩ ⟨(Nat.le_of_ble_eq_true rfl), (Nat.le_of_ble_eq_true rfl)⟩ (fun H locs hM => ?_)
        refine lv_iload hx hb dX4_take_41 (lv_at hl 0 rfl) ?_
        obtain ⟨q1, q2⟩ := Prod.mk.inj (Sum.inl.inj (Option.some.inj h))
        rw [← q1, ← q2]
        exact g_iret hF hM rfl rfl dX4_take_43 (Nat.le_of_ble_eq_true rfl) (Nat.le_of_ble_eq_true rfl)
      · exact nomatch z13
    · exact nomatch z9
  · exact nomatch z5
abbrev rmx_X4_take : Room := { frames := 8, cells := 1, slots := 6, locals := 132 }
set_option maxHeartbeats 4000000 in
set_option maxRecDepth 100000 in
theorem cx_X4_take {l : Launch} {D : va_G} {Y : Nat → ClassId} {S : GS} {hs : Nat} {a0 : Nat} {x1 : Int32} {x2 : Int32} {x : Nat} (hfl : l.stackTraces = false) (h : f_X4_take S a0 x1 x2 = some (.inr x)) : gMx l yX4_take (gWs yX4_take cX4_take 6 (some .int)) rmx_X4_take [va_rf (some a0), .int x1, .int x2] D Y S hs (.inr x) := by
  refine g_ofWx (by decide +kernel) (Or.inl ⟨(Nat.le_of_ble_eq_true rfl), (List.forall_mem_cons.mpr ⟨rf_cat _, (List.forall_mem_cons.mpr ⟨rfl, (List.forall_mem_cons.mpr ⟨rfl, (fun _ h => absurd h List.not_mem_nil)⟩)⟩)⟩)⟩) ?_
  intro p e s m args below meth c ls hsz hout hF hM hl
  have hl : lv_has ls 6 [(0, va_rf (some a0)), (1, .int x1), (2, .int x2)] := by rw [g_args [va_rf (some a0), .int x1, .int x2] 0 (List.forall_mem_cons.mpr ⟨rf_cat _, (List.forall_mem_cons.mpr ⟨rfl, (List.forall_mem_cons.mpr ⟨rfl, (fun _ h => absurd h List.not_mem_nil)⟩)⟩)⟩)] at hl; exact hl
  have hF : gF p s m args meth c RX4 cX4_take 6 (some .int) D Y (gA S hs) := hF
  have hx := hF.1
  have hb := hF.2.1
  unfold f_X4_take at h
  refine g_aload_n hx hb dX4_take_0 rfl (lv_at hl 0 rfl) ?_
  refine lv_iload_n hx hb dX4_take_1 rfl (lv_at hl 1 rfl) ?_
  have g := gckE h
  clear h
  obtain ⟨t1, h⟩ := g
  have t1 := eq_of_beq t1
  have g := gthE h
  clear h
  rcases g with ⟨v3, e2, h⟩ | ⟨y4, e2, z5⟩
  · refine g_callV (As := [.int x1]) (rest := []) hF hM (c_X4_needList e2) k_X4_needList u692 u694 u17 rfl rfl t1 rfl hl.1 rfl (Nat.le_of_ble_eq_true rfl) dX4_take_2 ⟨(Nat.le_of_ble_eq_true rfl), (Nat.le_of_ble_eq_true rfl)⟩ ⟨(Nat.le_of_ble_eq_true rfl), (Nat.le_of_ble_eq_true rfl)⟩ (fun H locs hM => ?_)
    refine g_astore_n (i := 3) (lv' := [(0, va_rf (some a0)), (1, .int x1), (2, .int x2)]) hx hb dX4_take_5 rfl hl (by decide) (fun v => rfl) (fun ls hl => ?_)
    refine g_aload_n hx hb dX4_take_6 rfl (lv_at hl 0 rfl) ?_
    have g := gthE h
    clear h
    rcases g with ⟨v7, e6, h⟩ | ⟨y8, e6, z9⟩
    · refine g_callS (As := [va_rf v3]) (rest := []) hF hM (c_X4_openStore e6) k_X4_openStore u732 u733 rfl hl.1 rfl (Nat.le_of_ble_eq_true rfl) dX4_take_7 ⟨(Nat.le_of_ble_eq_true rfl), (Nat.le_of_ble_eq_true rfl)⟩ ⟨(Nat.le_of_ble_eq_true rfl), (Nat.le_of_ble_eq_true rfl)⟩ (fun H locs hM => ?_)
      refine g_astore (i := 4) (lv' := [(3, va_rf v3), (0, va_rf (some a0)), (1, .int x1), (2, .int x2)]) hx hb dX4_take_10 hl (by decide) (fun v => by simp [rf_cat, ic_cat, lc_cat]) (fun ls hl => ?_)
      refine g_aload_n hx hb dX4_take_12 rfl (lv_at hl 1 rfl) ?_
      refine lv_iload_n hx hb dX4_take_13 rfl (lv_at hl 4 rfl) ?_
      have g := gthE h
      clear h
      rcases g with ⟨w11, e10, h⟩ | ⟨y12, e10, z13⟩
      · refine g_callS (As := [va_rf v3, .int x2]) (rest := []) hF hM (c_X4_needPlace e10) k_X4_needPlace u696 u697 rfl hl.1 rfl (Nat.le_of_ble_eq_true rfl) dX4_take_14 ⟨(Nat.le_of_ble_eq_true rfl), (Nat.le_of_ble_eq_true rfl)⟩ ⟨(Nat.le_of_ble_eq_true rfl), (Nat.le_of_ble_eq_true rfl)⟩ (fun H locs hM => ?_)
        refine g_aload_n hx hb dX4_take_17 rfl (lv_at hl 1 rfl) ?_
        refine lv_iload_n hx hb dX4_take_18 rfl (lv_at hl 4 rfl) ?_
        have g := gbind h
        clear h
        obtain ⟨a14, e15, h⟩ := g
        have t16 := (gtk_of e15).2
        rw [(gtk_of e15).1]
        have g := gbind h
        clear h
        obtain ⟨v18, e17, h⟩ := g
        refine g_callV (As := [.int x2]) (rest := []) hF hM (c_X1_hashOf e17) k_X1_hashOf u787 u222 u223 rfl rfl t16 rfl hl.1 rfl (Nat.le_of_ble_eq_true rfl) dX4_take_19 ⟨(Nat.le_of_ble_eq_true rfl), (Nat.le_of_ble_eq_true rfl)⟩ ⟨(Nat.le_of_ble_eq_true rfl), (Nat.le_of_ble_eq_true rfl)⟩ (fun H locs hM => ?_)
        refine lv_istore (i := 5) (lv' := [(5, .int v18), (4, va_rf v7), (3, va_rf v3), (0, va_rf (some a0)), (1, .int x1), (2, .int x2)]) hx hb dX4_take_22 hl (by decide) (by simp [rf_cat, ic_cat, lc_cat]) (fun ls hl => ?_)
        refine g_aload hx hb dX4_take_24 (lv_at hl 1 rfl) ?_
        refine g_aload_n hx hb dX4_take_26 rfl (lv_at hl 2 rfl) ?_
        have g := gbind h
        clear h
        obtain ⟨a19, e20, h⟩ := g
        have t21 := (gtk_of e20).2
        rw [(gtk_of e20).1]
        have g := gbind h
        clear h
        obtain ⟨v23, e22, h⟩ := g
        refine g_callV (As := []) (rest := [va_rf v7]) hF hM (c_X1_first e22) k_X1_first u553 u214 u215 rfl rfl t21 rfl hl.1 rfl (by simp [rf_cat, ic_cat, lc_cat]) dX4_take_27 ⟨(Nat.le_of_ble_eq_true rfl), (Nat.le_of_ble_eq_true rfl)⟩ ⟨(Nat.le_of_ble_eq_true rfl), (Nat.le_of_ble_eq_true rfl)⟩ (fun H locs hM => ?_)
        refine lv_iload_n hx hb dX4_take_30 rfl (lv_at hl 5 rfl) ?_
        refine lv_iadd hx hb dX4_take_31 ?_
        have g := gbind h
        clear h
        obtain ⟨a24, e25, h⟩ := g
        have t26 := (gtk_of e25).2
        rw [(gtk_of e25).1]
        have g := gbind h
        clear h
        obtain ⟨S28, e27, h⟩ := g
        refine g_callV (As := [.int (v23 + x2)]) (rest := []) hF hM (c_X3_remove e27) k_X3_remove u796 u797 u798 rfl rfl t26 rfl hl.1 rfl (Nat.le_of_ble_eq_true rfl) dX4_take_32 ⟨(Nat.le_of_ble_eq_true rfl), (Nat.le_of_ble_eq_true rfl)⟩ ⟨(Nat.le_of_ble_eq_true rfl), (Nat.le_of_ble_eq_true rfl)⟩ (fun H locs hM => ?_)
        refine g_aload_n hx hb dX4_take_35 rfl (lv_at hl 3 rfl) ?_
        refine g_aload_n hx hb dX4_take_36 rfl (lv_at hl 2 rfl) ?_
        refine lv_iconst (v := (-1)) hx hb dX4_take_37 (by decide) ?_
        have g := gckE h
        clear h
        obtain ⟨t29, h⟩ := g
        have t29 := eq_of_beq t29
        have g := gbind h
        clear h
        obtain ⟨S31, e30, h⟩ := g
        refine g_callV (As := [va_rf v3, .int (-1)]) (rest := []) hF hM (c_X4_settle e30) k_X4_settle u772 u774 u18 rfl rfl t29 rfl hl.1 rfl (Nat.le_of_ble_eq_true rfl) dX4_take_38 ⟨(Nat.le_of_ble_eq_true rfl), (Nat.le_of_ble_eq_true rfl)⟩ ⟨(Nat.le_of_ble_eq_true rfl), (Nat.le_of_ble_eq_true rfl)⟩ (fun H locs hM => ?_)
        refine lv_iload hx hb dX4_take_41 (lv_at hl 0 rfl) ?_
        exact nomatch (Option.some.inj h)
      · exact g_callSt (As := [va_rf v3, .int x2]) (rest := []) hF hM hout (cx_X4_needPlace hfl e10) k_X4_needPlace u696 u697 rfl hl.1 rfl (Nat.le_of_ble_eq_true rfl) dX4_take_14 ⟨(Nat.le_of_ble_eq_true rfl), (Nat.le_of_ble_eq_true rfl)⟩ ⟨(Nat.le_of_ble_eq_true rfl), (Nat.le_of_ble_eq_true rfl)⟩ (Nat.le_of_ble_eq_true rfl) (Nat.le_of_ble_eq_true rfl) (congrArg Sum.inr (Sum.inr.inj z13))
    · exact g_callSt (As := [va_rf v3]) (rest := []) hF hM hout (cx_X4_openStore hfl e6) k_X4_openStore u732 u733 rfl hl.1 rfl (Nat.le_of_ble_eq_true rfl) dX4_take_7 ⟨(Nat.le_of_ble_eq_true rfl), (Nat.le_of_ble_eq_true rfl)⟩ ⟨(Nat.le_of_ble_eq_true rfl), (Nat.le_of_ble_eq_true rfl)⟩ (Nat.le_of_ble_eq_true rfl) (Nat.le_of_ble_eq_true rfl) (congrArg Sum.inr (Sum.inr.inj z9))
  · exact g_callVt (As := [.int x1]) (rest := []) hF hM hout (cx_X4_needList hfl e2) k_X4_needList u692 u694 u17 rfl rfl t1 rfl hl.1 rfl (Nat.le_of_ble_eq_true rfl) dX4_take_2 ⟨(Nat.le_of_ble_eq_true rfl), (Nat.le_of_ble_eq_true rfl)⟩ ⟨(Nat.le_of_ble_eq_true rfl), (Nat.le_of_ble_eq_true rfl)⟩ (Nat.le_of_ble_eq_true rfl) (Nat.le_of_ble_eq_true rfl) (congrArg Sum.inr (Sum.inr.inj z5))
abbrev rm_X4_needRow : Room := { frames := 2, cells := 0, slots := 0, locals := 40 }
theorem k_X4_needRow : gKc yX4_needRow cX4_needRow 3 (some (.object "Viewhouse$Pane")) 1 := ⟨u810, u63, by decide +kernel, by decide +kernel, by decide +kernel⟩
set_option maxHeartbeats 4000000 in
set_option maxRecDepth 100000 in
theorem c_X4_needRow {l : Launch} {D : va_G} {Y : Nat → ClassId} {S : GS} {hs : Nat} {a0 : Nat} {x1 : Int32} {r : Option Nat} (h : f_X4_needRow S a0 x1 = some (.inl r)) : gMet l yX4_needRow (gWs yX4_needRow cX4_needRow 3 (some (.object "Viewhouse$Pane"))) rm_X4_needRow [va_rf (some a0), .int x1] D Y S hs (some (va_rf r)) S hs := by
  refine g_ofW (by decide +kernel) (Or.inl ⟨(Nat.le_of_ble_eq_true rfl), (List.forall_mem_cons.mpr ⟨rf_cat _, (List.forall_mem_cons.mpr ⟨rfl, (fun _ h => absurd h List.not_mem_nil)⟩)⟩)⟩) ?_
  intro p e s m args below meth c ls hsz hname hF hM hl
  have hl : lv_has ls 3 [(0, va_rf (some a0)), (1, .int x1)] := by rw [g_args [va_rf (some a0), .int x1] 0 (List.forall_mem_cons.mpr ⟨rf_cat _, (List.forall_mem_cons.mpr ⟨rfl, (fun _ h => absurd h List.not_mem_nil)⟩)⟩)] at hl; exact hl
  have hF : gF p s m args meth c RX4 cX4_needRow 3 (some (.object "Viewhouse$Pane")) D Y (gA S hs) := hF
  have hx := hF.1
  have hb := hF.2.1
  unfold f_X4_needRow at h
  refine g_aload_n hx hb dX4_needRow_0 rfl (lv_at hl 0 rfl) ?_
  refine lv_iload_n hx hb dX4_needRow_1 rfl (lv_at hl 1 rfl) ?_
  have g := gckE h
  clear h
  obtain ⟨t1, h⟩ := g
  have t1 := eq_of_beq t1
  have g := gthE h
  clear h
  rcases g with ⟨v3, e2, h⟩ | ⟨y4, e2, z5⟩
  · refine g_callV (As := [.int x1]) (rest := []) hF hM (c_X4_held e2) k_X4_held u517 u519 u13 rfl rfl t1 rfl hl.1 rfl (Nat.le_of_ble_eq_true rfl) dX4_needRow_2 ⟨(Nat.le_of_ble_eq_true rfl), (Nat.le_of_ble_eq_true rfl)⟩ ⟨(Nat.le_of_ble_eq_true rfl), (Nat.le_of_ble_eq_true rfl)⟩ (fun H locs hM => ?_)
    refine g_astore_n (i := 2) (lv' := [(0, va_rf (some a0)), (1, .int x1)]) hx hb dX4_needRow_5 rfl hl (by decide) (fun v => rfl) (fun ls hl => ?_)
    refine g_aload_n hx hb dX4_needRow_6 rfl (lv_at hl 0 rfl) ?_
    refine g_ifnull (tgt := 17) hx hb dX4_needRow_7 (by decide) (fun c6 => ?_) (fun c6 => ?_)
    · replace h := (if_pos c6).symm.trans h
      exact nomatch (Option.some.inj h)
    · replace h := (if_neg c6).symm.trans h
      refine g_aload_n hx hb dX4_needRow_10 rfl (lv_at hl 0 rfl) ?_
      have g := gbind h
      clear h
      obtain ⟨a7, e8, h⟩ := g
      have t9 := (gtk_of e8).2
      rw [(gtk_of e8).1]
      have g := gbind h
      clear h
      obtain ⟨v11, e10, h⟩ := g
      refine g_callV (As := []) (rest := []) hF hM (c_X1_isRow e10) k_X1_isRow u811 u812 u813 rfl rfl t9 rfl hl.1 rfl (Nat.le_of_ble_eq_true rfl) dX4_needRow_11 ⟨(Nat.le_of_ble_eq_true rfl), (Nat.le_of_ble_eq_true rfl)⟩ ⟨(Nat.le_of_ble_eq_true rfl), (Nat.le_of_ble_eq_true rfl)⟩ (fun H locs hM => ?_)
      refine lv_if_ne (tgt := 25) hx hb dX4_needRow_14 (by decide) (fun c12 => ?_) (fun c12 => ?_)
      · replace h := (if_neg c12).symm.trans h
        refine g_aload_n hx hb dX4_needRow_25 rfl (lv_at hl 0 rfl) ?_
        rw [← (Sum.inl.inj (Option.some.inj h))]
        exact g_aret hF hM rfl (Or.inl ⟨_, rfl⟩) dX4_needRow_26 (Nat.le_of_ble_eq_true rfl) (Nat.le_of_ble_eq_true rfl)
      · replace h := (if_pos c12).symm.trans h
        exact nomatch (Option.some.inj h)
  · exact nomatch z5
abbrev rmx_X4_needRow : Room := { frames := 7, cells := 1, slots := 6, locals := 110 }
set_option maxHeartbeats 4000000 in
set_option maxRecDepth 100000 in
theorem cx_X4_needRow {l : Launch} {D : va_G} {Y : Nat → ClassId} {S : GS} {hs : Nat} {a0 : Nat} {x1 : Int32} {x : Nat} (hfl : l.stackTraces = false) (h : f_X4_needRow S a0 x1 = some (.inr x)) : gMx l yX4_needRow (gWs yX4_needRow cX4_needRow 3 (some (.object "Viewhouse$Pane"))) rmx_X4_needRow [va_rf (some a0), .int x1] D Y S hs (.inr x) := by
  refine g_ofWx (by decide +kernel) (Or.inl ⟨(Nat.le_of_ble_eq_true rfl), (List.forall_mem_cons.mpr ⟨rf_cat _, (List.forall_mem_cons.mpr ⟨rfl, (fun _ h => absurd h List.not_mem_nil)⟩)⟩)⟩) ?_
  intro p e s m args below meth c ls hsz hout hF hM hl
  have hl : lv_has ls 3 [(0, va_rf (some a0)), (1, .int x1)] := by rw [g_args [va_rf (some a0), .int x1] 0 (List.forall_mem_cons.mpr ⟨rf_cat _, (List.forall_mem_cons.mpr ⟨rfl, (fun _ h => absurd h List.not_mem_nil)⟩)⟩)] at hl; exact hl
  have hF : gF p s m args meth c RX4 cX4_needRow 3 (some (.object "Viewhouse$Pane")) D Y (gA S hs) := hF
  have hx := hF.1
  have hb := hF.2.1
  unfold f_X4_needRow at h
  refine g_aload_n hx hb dX4_needRow_0 rfl (lv_at hl 0 rfl) ?_
  refine lv_iload_n hx hb dX4_needRow_1 rfl (lv_at hl 1 rfl) ?_
  have g := gckE h
  clear h
  obtain ⟨t1, h⟩ := g
  have t1 := eq_of_beq t1
  have g := gthE h
  clear h
  rcases g with ⟨v3, e2, h⟩ | ⟨y4, e2, z5⟩
  · refine g_callV (As := [.int x1]) (rest := []) hF hM (c_X4_held e2) k_X4_held u517 u519 u13 rfl rfl t1 rfl hl.1 rfl (Nat.le_of_ble_eq_true rfl) dX4_needRow_2 ⟨(Nat.le_of_ble_eq_true rfl), (Nat.le_of_ble_eq_true rfl)⟩ ⟨(Nat.le_of_ble_eq_true rfl), (Nat.le_of_ble_eq_true rfl)⟩ (fun H locs hM => ?_)
    refine g_astore_n (i := 2) (lv' := [(0, va_rf (some a0)), (1, .int x1)]) hx hb dX4_needRow_5 rfl hl (by decide) (fun v => rfl) (fun ls hl => ?_)
    refine g_aload_n hx hb dX4_needRow_6 rfl (lv_at hl 0 rfl) ?_
    refine g_ifnull (tgt := 17) hx hb dX4_needRow_7 (by decide) (fun c6 => ?_) (fun c6 => ?_)
    · replace h := (if_pos c6).symm.trans h
      exact g_throw hF hM hfl hout ew_X4_50_52 (congrArg Sum.inr (Sum.inr.inj (Option.some.inj h)).symm) hl.1 dX4_needRow_17 dX4_needRow_20 dX4_needRow_21 dX4_needRow_24 (Nat.le_of_ble_eq_true rfl) (Nat.le_of_ble_eq_true rfl) (Nat.le_of_ble_eq_true rfl) (Nat.le_of_ble_eq_true rfl) (Nat.le_of_ble_eq_true rfl) (Nat.le_of_ble_eq_true rfl)
    · replace h := (if_neg c6).symm.trans h
      refine g_aload_n hx hb dX4_needRow_10 rfl (lv_at hl 0 rfl) ?_
      have g := gbind h
      clear h
      obtain ⟨a7, e8, h⟩ := g
      have t9 := (gtk_of e8).2
      rw [(gtk_of e8).1]
      have g := gbind h
      clear h
      obtain ⟨v11, e10, h⟩ := g
      refine g_callV (As := []) (rest := []) hF hM (c_X1_isRow e10) k_X1_isRow u811 u812 u813 rfl rfl t9 rfl hl.1 rfl (Nat.le_of_ble_eq_true rfl) dX4_needRow_11 ⟨(Nat.le_of_ble_eq_true rfl), (Nat.le_of_ble_eq_true rfl)⟩ ⟨(Nat.le_of_ble_eq_true rfl), (Nat.le_of_ble_eq_true rfl)⟩ (fun H locs hM => ?_)
      refine lv_if_ne (tgt := 25) hx hb dX4_needRow_14 (by decide) (fun c12 => ?_) (fun c12 => ?_)
      · replace h := (if_neg c12).symm.trans h
        refine g_aload_n hx hb dX4_needRow_25 rfl (lv_at hl 0 rfl) ?_
        exact nomatch (Option.some.inj h)
      · replace h := (if_pos c12).symm.trans h
        exact g_throw hF hM hfl hout ew_X4_50_52 (congrArg Sum.inr (Sum.inr.inj (Option.some.inj h)).symm) hl.1 dX4_needRow_17 dX4_needRow_20 dX4_needRow_21 dX4_needRow_24 (Nat.le_of_ble_eq_true rfl) (Nat.le_of_ble_eq_true rfl) (Nat.le_of_ble_eq_true rfl) (Nat.le_of_ble_eq_true rfl) (Nat.le_of_ble_eq_true rfl) (Nat.le_of_ble_eq_true rfl)
  · exact g_callVt (As := [.int x1]) (rest := []) hF hM hout (cx_X4_held hfl e2) k_X4_held u517 u519 u13 rfl rfl t1 rfl hl.1 rfl (Nat.le_of_ble_eq_true rfl) dX4_needRow_2 ⟨(Nat.le_of_ble_eq_true rfl), (Nat.le_of_ble_eq_true rfl)⟩ ⟨(Nat.le_of_ble_eq_true rfl), (Nat.le_of_ble_eq_true rfl)⟩ (Nat.le_of_ble_eq_true rfl) (Nat.le_of_ble_eq_true rfl) (congrArg Sum.inr (Sum.inr.inj z5))
abbrev rm_X4_drop : Room := { frames := 5, cells := 0, slots := 0, locals := 112 }
theorem k_X4_drop : gKc yX4_drop cX4_drop 7 (some .boolean) 3 := ⟨u806, u63, by decide +kernel, by decide +kernel, by decide +kernel⟩
set_option maxHeartbeats 4000000 in
set_option maxRecDepth 100000 in
theorem c_X4_drop {l : Launch} {D : va_G} {Y : Nat → ClassId} {S : GS} {hs : Nat} {a0 : Nat} {x1 : Int32} {x2 : Int32} {x3 : Int32} {r : Int32} {S' : GS} (h : f_X4_drop S a0 x1 x2 x3 = some (.inl (r, S'))) : gMet l yX4_drop (gWs yX4_drop cX4_drop 7 (some .boolean)) rm_X4_drop [va_rf (some a0), .int x1, .int x2, .int x3] D Y S hs (some (.int r)) S' hs := by
  refine g_ofW (by decide +kernel) (Or.inl ⟨(Nat.le_of_ble_eq_true rfl), (List.forall_mem_cons.mpr ⟨rf_cat _, (List.forall_mem_cons.mpr ⟨rfl, (List.forall_mem_cons.mpr ⟨rfl, (List.forall_mem_cons.mpr ⟨rfl, (fun _ h => absurd h List.not_mem_nil)⟩)⟩)⟩)⟩)⟩) ?_
  intro p e s m args below meth c ls hsz hname hF hM hl
  have hl : lv_has ls 7 [(0, va_rf (some a0)), (1, .int x1), (2, .int x2), (3, .int x3)] := by rw [g_args [va_rf (some a0), .int x1, .int x2, .int x3] 0 (List.forall_mem_cons.mpr ⟨rf_cat _, (List.forall_mem_cons.mpr ⟨rfl, (List.forall_mem_cons.mpr ⟨rfl, (List.forall_mem_cons.mpr ⟨rfl, (fun _ h => absurd h List.not_mem_nil)⟩)⟩)⟩)⟩)] at hl; exact hl
  have hF : gF p s m args meth c RX4 cX4_drop 7 (some .boolean) D Y (gA S hs) := hF
  have hx := hF.1
  have hb := hF.2.1
  have Jb40 : ∀ (x2 : Int32) (x3 : Int32) (x4 : Option Nat) (x5 : Option Nat), f_X4_drop_b40 S a0 x2 x3 x4 x5 = some (.inl (r, S')) → ∀ (H : Heap) (locs : List Loc) (ls : Array Slot), gM D Y (gA S hs) s.heap S hs H locs → lv_has ls 7 [(0, va_rf (some a0)), (2, .int x2), (3, .int x3), (4, va_rf x4), (5, va_rf x5)] → W p l e rm_X4_drop s m args below meth c H locs 0 0 (MQ below (gQ (some (.int r)) D Y S' hs (gA S hs)) args s rm_X4_drop.cells rm_X4_drop.slots (gA S hs)) (F0 m 40 ls []) := by
    intro x2 x3 x4 x5 h H locs ls hM hl
    unfold f_X4_drop_b40 at h
    refine g_aload hx hb dX4_drop_40 (lv_at hl 3 rfl) ?_
    refine lv_iload_n hx hb dX4_drop_42 rfl (lv_at hl 1 rfl) ?_
    refine lv_iload_n hx hb dX4_drop_43 rfl (lv_at hl 2 rfl) ?_
    refine lv_iconst (v := 0) hx hb dX4_drop_44 (by decide) ?_
    have g := gbind h
    clear h
    obtain ⟨a13, e14, h⟩ := g
    have t15 := (gtk_of e14).2
    rw [(gtk_of e14).1]
    have g := gbind h
    clear h
    obtain ⟨v17, e16, h⟩ := g
    refine g_callV (As := [.int x2, .int x3, .int 0]) (rest := []) hF hM (c_X1_find e16) k_X1_find u715 u716 u717 rfl rfl t15 rfl hl.1 rfl (Nat.le_of_ble_eq_true rfl) dX4_drop_45 ⟨(Nat.le_of_ble_eq_true rfl), (Nat.le_of_ble_eq_true rfl)⟩ ⟨(Nat.le_of_ble_eq_true rfl), (Nat.le_of_ble_eq_true rfl)⟩ (fun H locs hM => ?_)
    refine lv_istore (i := 6) (lv' := [(6, .int v17), (0, va_rf (some a0)), (2, .int x2), (3, .int x3), (4, va_rf x4), (5, va_rf x5)]) hx hb dX4_drop_48 hl (by decide) (by simp [rf_cat, ic_cat, lc_cat]) (fun ls hl => ?_)
    refine lv_iload hx hb dX4_drop_50 (lv_at hl 0 rfl) ?_
    refine lv_if_ge (tgt := 57) hx hb dX4_drop_52 (by decide) (fun c18 => ?_) (fun c18 => ?_)
    · replace h := (if_pos c18).symm.trans h
      refine g_aload hx hb dX4_drop_57 (lv_at hl 5 rfl) ?_
      refine g_aload hx hb dX4_drop_59 (lv_at hl 4 rfl) ?_
      have g := gbind h
      clear h
      obtain ⟨a19, e20, h⟩ := g
      have t21 := (gtk_of e20).2
      rw [(gtk_of e20).1]
      have g := gbind h
      clear h
      obtain ⟨v23, e22, h⟩ := g
      refine g_callV (As := []) (rest := [va_rf x5]) hF hM (c_X1_first e22) k_X1_first u553 u214 u215 rfl rfl t21 rfl hl.1 rfl (by simp [rf_cat, ic_cat, lc_cat]) dX4_drop_61 ⟨(Nat.le_of_ble_eq_true rfl), (Nat.le_of_ble_eq_true rfl)⟩ ⟨(Nat.le_of_ble_eq_true rfl), (Nat.le_of_ble_eq_true rfl)⟩ (fun H locs hM => ?_)
      refine lv_iload hx hb dX4_drop_64 (lv_at hl 0 rfl) ?_
      refine lv_iadd hx hb dX4_drop_66 ?_
      have g := gbind h
      clear h
      obtain ⟨a24, e25, h⟩ := g
      have t26 := (gtk_of e25).2
      rw [(gtk_of e25).1]
      have g := gbind h
      clear h
      obtain ⟨S28, e27, h⟩ := g
      refine g_callV (As := [.int (v23 + v17)]) (rest := []) hF hM (c_X3_remove e27) k_X3_remove u796 u797 u798 rfl rfl t26 rfl hl.1 rfl (Nat.le_of_ble_eq_true rfl) dX4_drop_67 ⟨(Nat.le_of_ble_eq_true rfl), (Nat.le_of_ble_eq_true rfl)⟩ ⟨(Nat.le_of_ble_eq_true rfl), (Nat.le_of_ble_eq_true rfl)⟩ (fun H locs hM => ?_)
      refine g_aload_n hx hb dX4_drop_70 rfl (lv_at hl 1 rfl) ?_
      refine g_aload hx hb dX4_drop_71 (lv_at hl 4 rfl) ?_
      refine lv_iconst (v := (-1)) hx hb dX4_drop_73 (by decide) ?_
      have g := gckE h
      clear h
      obtain ⟨t29, h⟩ := g
      have t29 := eq_of_beq t29
      have g := gbind h
      clear h
      obtain ⟨S31, e30, h⟩ := g
      refine g_callV (As := [va_rf x4, .int (-1)]) (rest := []) hF hM (c_X4_settle e30) k_X4_settle u772 u774 u18 rfl rfl t29 rfl hl.1 rfl (Nat.le_of_ble_eq_true rfl) dX4_drop_74 ⟨(Nat.le_of_ble_eq_true rfl), (Nat.le_of_ble_eq_true rfl)⟩ ⟨(Nat.le_of_ble_eq_true rfl), (Nat.le_of_ble_eq_true rfl)⟩ (fun H locs hM => ?_)
      refine lv_iconst (v := 1) hx hb dX4_drop_77 (by decide) ?_
      obtain ⟨q1, q2⟩ := Prod.mk.inj (Sum.inl.inj (Option.some.inj h))
      rw [← q1, ← q2]
      exact g_iret hF hM rfl rfl dX4_drop_78 (Nat.le_of_ble_eq_true rfl) (Nat.le_of_ble_eq_true rfl)
    · replace h := (if_neg c18).symm.trans h
      refine lv_iconst (v := 0) hx hb dX4_drop_55 (by decide) ?_
      obtain ⟨q1, q2⟩ := Prod.mk.inj (Sum.inl.inj (Option.some.inj h))
      rw [← q1, ← q2]
      exact g_iret hF hM rfl rfl dX4_drop_56 (Nat.le_of_ble_eq_true rfl) (Nat.le_of_ble_eq_true rfl)
  unfold f_X4_drop at h
  refine g_aload_n hx hb dX4_drop_0 rfl (lv_at hl 0 rfl) ?_
  refine lv_iload_n hx hb dX4_drop_1 rfl (lv_at hl 1 rfl) ?_
  have g := gckE h
  clear h
  obtain ⟨t1, h⟩ := g
  have t1 := eq_of_beq t1
  have g := gthE h
  clear h
  rcases g with ⟨v3, e2, h⟩ | ⟨y4, e2, z5⟩
  · refine g_callV (As := [.int x1]) (rest := []) hF hM (c_X4_needRow e2) k_X4_needRow u807 u809 u20 rfl rfl t1 rfl hl.1 rfl (Nat.le_of_ble_eq_true rfl) dX4_drop_2 ⟨(Nat.le_of_ble_eq_true rfl), (Nat.le_of_ble_eq_true rfl)⟩ ⟨(Nat.le_of_ble_eq_true rfl), (Nat.le_of_ble_eq_true rfl)⟩ (fun H locs hM => ?_)
    refine g_astore (i := 4) (lv' := [(0, va_rf (some a0)), (1, .int x1), (2, .int x2), (3, .int x3)]) hx hb dX4_drop_5 hl (by decide) (fun v => rfl) (fun ls hl => ?_)
    refine g_aload hx hb dX4_drop_7 (lv_at hl 0 rfl) ?_
    have g := gthE h
    clear h
    rcases g with ⟨v7, e6, h⟩ | ⟨y8, e6, z9⟩
    · refine g_callS (As := [va_rf v3]) (rest := []) hF hM (c_X4_openStore e6) k_X4_openStore u732 u733 rfl hl.1 rfl (Nat.le_of_ble_eq_true rfl) dX4_drop_9 ⟨(Nat.le_of_ble_eq_true rfl), (Nat.le_of_ble_eq_true rfl)⟩ ⟨(Nat.le_of_ble_eq_true rfl), (Nat.le_of_ble_eq_true rfl)⟩ (fun H locs hM => ?_)
      refine g_astore (i := 5) (lv' := [(4, va_rf v3), (0, va_rf (some a0)), (1, .int x1), (2, .int x2), (3, .int x3)]) hx hb dX4_drop_12 hl (by decide) (fun v => by simp [rf_cat, ic_cat, lc_cat]) (fun ls hl => ?_)
      refine g_aload hx hb dX4_drop_14 (lv_at hl 1 rfl) ?_
      have g := gbind h
      clear h
      obtain ⟨v10, e11, h⟩ := g
      refine g_getI hF hM fdX1 e11 (by decide) rfl u131 dX4_drop_16 ?_
      refine lv_bipush (v := 118) hx hb dX4_drop_19 (by decide) ?_
      refine lv_icmp_ne (tgt := 40) hx hb dX4_drop_21 (by decide) (fun c12 => ?_) (fun c12 => ?_)
      · replace h := (if_neg c12).symm.trans h
        refine W.widen (k := 0) (n := 0) (Nat.le_of_ble_eq_true rfl) (Nat.le_of_ble_eq_true rfl) ?_
        exact Jb40 _ _ _ _ h _ _ _ hM (lv_sub hl [2, 4, 5, 1, 0] rfl)
      · replace h := (if_pos c12).symm.trans h
        refine g_aload hx hb dX4_drop_24 (lv_at hl 1 rfl) ?_
        have g := gbind h
        clear h
        obtain ⟨a32, e33, h⟩ := g
        have t34 := (gtk_of e33).2
        rw [(gtk_of e33).1]
        have g := gbind h
        clear h
        obtain ⟨v36, e35, h⟩ := g
        refine g_callV (As := []) (rest := []) hF hM (c_X1_hasTwins e35) k_X1_hasTwins u816 u817 u818 rfl rfl t34 rfl hl.1 rfl (Nat.le_of_ble_eq_true rfl) dX4_drop_26 ⟨(Nat.le_of_ble_eq_true rfl), (Nat.le_of_ble_eq_true rfl)⟩ ⟨(Nat.le_of_ble_eq_true rfl), (Nat.le_of_ble_eq_true rfl)⟩ (fun H locs hM => ?_)
        refine lv_if_eq (tgt := 40) hx hb dX4_drop_29 (by decide) (fun c37 => ?_) (fun c37 => ?_)
        · replace h := (if_pos c37).symm.trans h
          refine W.widen (k := 0) (n := 0) (Nat.le_of_ble_eq_true rfl) (Nat.le_of_ble_eq_true rfl) ?_
          exact Jb40 _ _ _ _ h _ _ _ hM (lv_sub hl [2, 4, 5, 1, 0] rfl)
        · replace h := (if_neg c37).symm.trans h
          exact nomatch (Option.some.inj h)
    · exact nomatch z9
  · exact nomatch z5
abbrev rmx_X4_drop : Room := { frames := 8, cells := 1, slots := 6, locals := 132 }
set_option maxHeartbeats 4000000 in
set_option maxRecDepth 100000 in
theorem cx_X4_drop {l : Launch} {D : va_G} {Y : Nat → ClassId} {S : GS} {hs : Nat} {a0 : Nat} {x1 : Int32} {x2 : Int32} {x3 : Int32} {x : Nat} (hfl : l.stackTraces = false) (h : f_X4_drop S a0 x1 x2 x3 = some (.inr x)) : gMx l yX4_drop (gWs yX4_drop cX4_drop 7 (some .boolean)) rmx_X4_drop [va_rf (some a0), .int x1, .int x2, .int x3] D Y S hs (.inr x) := by
  refine g_ofWx (by decide +kernel) (Or.inl ⟨(Nat.le_of_ble_eq_true rfl), (List.forall_mem_cons.mpr ⟨rf_cat _, (List.forall_mem_cons.mpr ⟨rfl, (List.forall_mem_cons.mpr ⟨rfl, (List.forall_mem_cons.mpr ⟨rfl, (fun _ h => absurd h List.not_mem_nil)⟩)⟩)⟩)⟩)⟩) ?_
  intro p e s m args below meth c ls hsz hout hF hM hl
  have hl : lv_has ls 7 [(0, va_rf (some a0)), (1, .int x1), (2, .int x2), (3, .int x3)] := by rw [g_args [va_rf (some a0), .int x1, .int x2, .int x3] 0 (List.forall_mem_cons.mpr ⟨rf_cat _, (List.forall_mem_cons.mpr ⟨rfl, (List.forall_mem_cons.mpr ⟨rfl, (List.forall_mem_cons.mpr ⟨rfl, (fun _ h => absurd h List.not_mem_nil)⟩)⟩)⟩)⟩)] at hl; exact hl
  have hF : gF p s m args meth c RX4 cX4_drop 7 (some .boolean) D Y (gA S hs) := hF
  have hx := hF.1
  have hb := hF.2.1
  have Jb40 : ∀ (x2 : Int32) (x3 : Int32) (x4 : Option Nat) (x5 : Option Nat), f_X4_drop_b40 S a0 x2 x3 x4 x5 = some (.inr x) → ∀ (H : Heap) (locs : List Loc) (ls : Array Slot), gM D Y (gA S hs) s.heap S hs H locs → lv_has ls 7 [(0, va_rf (some a0)), (2, .int x2), (3, .int x3), (4, va_rf x4), (5, va_rf x5)] → W p l e rmx_X4_drop s m args below meth c H locs 0 0 (vx_MQ below (gQz (.inr x) D Y (gA S hs)) (gXz (.inr x) D Y S (gA S hs)) args s rmx_X4_drop.cells rmx_X4_drop.slots (gA S hs)) (F0 m 40 ls []) := by
    intro x2 x3 x4 x5 h H locs ls hM hl
    unfold f_X4_drop_b40 at h
    refine g_aload hx hb dX4_drop_40 (lv_at hl 3 rfl) ?_
    refine lv_iload_n hx hb dX4_drop_42 rfl (lv_at hl 1 rfl) ?_
    refine lv_iload_n hx hb dX4_drop_43 rfl (lv_at hl 2 rfl) ?_
    refine lv_iconst (v := 0) hx hb dX4_drop_44 (by decide) ?_
    have g := gbind h
    clear h
    obtain ⟨a13, e14, h⟩ := g
    have t15 := (gtk_of e14).2
    rw [(gtk_of e14).1]
    have g := gbind h
    clear h
    obtain ⟨v17, e16, h⟩ := g
    refine g_callV (As := [.int x2, .int x3, .int 0]) (rest := []) hF hM (c_X1_find e16) k_X1_find u715 u716 u717 rfl rfl t15 rfl hl.1 rfl (Nat.le_of_ble_eq_true rfl) dX4_drop_45 ⟨(Nat.le_of_ble_eq_true rfl), (Nat.le_of_ble_eq_true rfl)⟩ ⟨(Nat.le_of_ble_eq_true rfl), (Nat.le_of_ble_eq_true rfl)⟩ (fun H locs hM => ?_)
    refine lv_istore (i := 6) (lv' := [(6, .int v17), (0, va_rf (some a0)), (2, .int x2), (3, .int x3), (4, va_rf x4), (5, va_rf x5)]) hx hb dX4_drop_48 hl (by decide) (by simp [rf_cat, ic_cat, lc_cat]) (fun ls hl => ?_)
    refine lv_iload hx hb dX4_drop_50 (lv_at hl 0 rfl) ?_
    refine lv_if_ge (tgt := 57) hx hb dX4_drop_52 (by decide) (fun c18 => ?_) (fun c18 => ?_)
    · replace h := (if_pos c18).symm.trans h
      refine g_aload hx hb dX4_drop_57 (lv_at hl 5 rfl) ?_
      refine g_aload hx hb dX4_drop_59 (lv_at hl 4 rfl) ?_
      have g := gbind h
      clear h
      obtain ⟨a19, e20, h⟩ := g
      have t21 := (gtk_of e20).2
      rw [(gtk_of e20).1]
      have g := gbind h
      clear h
      obtain ⟨v23, e22, h⟩ := g
      refine g_callV (As := []) (rest := [va_rf x5]) hF hM (c_X1_first e22) k_X1_first u553 u214 u215 rfl rfl t21 rfl hl.1 rfl (by simp [rf_cat, ic_cat, lc_cat]) dX4_drop_61 ⟨(Nat.le_of_ble_eq_true rfl), (Nat.le_of_ble_eq_true rfl)⟩ ⟨(Nat.le_of_ble_eq_true rfl), (Nat.le_of_ble_eq_true rfl)⟩ (fun H locs hM => ?_)
      refine lv_iload hx hb dX4_drop_64 (lv_at hl 0 rfl) ?_
      refine lv_iadd hx hb dX4_drop_66 ?_
      have g := gbind h
      clear h
      obtain ⟨a24, e25, h⟩ := g
      have t26 := (gtk_of e25).2
      rw [(gtk_of e25).1]
      have g := gbind h
      clear h
      obtain ⟨S28, e27, h⟩ := g
      refine g_callV (As := [.int (v23 + v17)]) (rest := []) hF hM (c_X3_remove e27) k_X3_remove u796 u797 u798 rfl rfl t26 rfl hl.1 rfl (Nat.le_of_ble_eq_true rfl) dX4_drop_67 ⟨(Nat.le_of_ble_eq_true rfl), (Nat.le_of_ble_eq_true rfl)⟩ ⟨(Nat.le_of_ble_eq_true rfl), (Nat.le_of_ble_eq_true rfl)⟩ (fun H locs hM => ?_)
      refine g_aload_n hx hb dX4_drop_70 rfl (lv_at hl 1 rfl) ?_
      refine g_aload hx hb dX4_drop_71 (lv_at hl 4 rfl) ?_
      refine lv_iconst (v := (-1)) hx hb dX4_drop_73 (by decide) ?_
      have g := gckE h
      clear h
      obtain ⟨t29, h⟩ := g
      have t29 := eq_of_beq t29
      have g := gbind h
      clear h
      obtain ⟨S31, e30, h⟩ := g
      refine g_callV (As := [va_rf x4, .int (-1)]) (rest := []) hF hM (c_X4_settle e30) k_X4_settle u772 u774 u18 rfl rfl t29 rfl hl.1 rfl (Nat.le_of_ble_eq_true rfl) dX4_drop_74 ⟨(Nat.le_of_ble_eq_true rfl), (Nat.le_of_ble_eq_true rfl)⟩ ⟨(Nat.le_of_ble_eq_true rfl), (Nat.le_of_ble_eq_true rfl)⟩ (fun H locs hM => ?_)
      refine lv_iconst (v := 1) hx hb dX4_drop_77 (by decide) ?_
      exact nomatch (Option.some.inj h)
    · replace h := (if_neg c18).symm.trans h
      refine lv_iconst (v := 0) hx hb dX4_drop_55 (by decide) ?_
      exact nomatch (Option.some.inj h)
  unfold f_X4_drop at h
  refine g_aload_n hx hb dX4_drop_0 rfl (lv_at hl 0 rfl) ?_
  refine lv_iload_n hx hb dX4_drop_1 rfl (lv_at hl 1 rfl) ?_
  have g := gckE h
  clear h
  obtain ⟨t1, h⟩ := g
  have t1 := eq_of_beq t1
  have g := gthE h
  clear h
  rcases g with ⟨v3, e2, h⟩ | ⟨y4, e2, z5⟩
  · refine g_callV (As := [.int x1]) (rest := []) hF hM (c_X4_needRow e2) k_X4_needRow u807 u809 u20 rfl rfl t1 rfl hl.1 rfl (Nat.le_of_ble_eq_true rfl) dX4_drop_2 ⟨(Nat.le_of_ble_eq_true rfl), (Nat.le_of_ble_eq_true rfl)⟩ ⟨(Nat.le_of_ble_eq_true rfl), (Nat.le_of_ble_eq_true rfl)⟩ (fun H locs hM => ?_)
    refine g_astore (i := 4) (lv' := [(0, va_rf (some a0)), (1, .int x1), (2, .int x2), (3, .int x3)]) hx hb dX4_drop_5 hl (by decide) (fun v => rfl) (fun ls hl => ?_)
    refine g_aload hx hb dX4_drop_7 (lv_at hl 0 rfl) ?_
    have g := gthE h
    clear h
    rcases g with ⟨v7, e6, h⟩ | ⟨y8, e6, z9⟩
    · refine g_callS (As := [va_rf v3]) (rest := []) hF hM (c_X4_openStore e6) k_X4_openStore u732 u733 rfl hl.1 rfl (Nat.le_of_ble_eq_true rfl) dX4_drop_9 ⟨(Nat.le_of_ble_eq_true rfl), (Nat.le_of_ble_eq_true rfl)⟩ ⟨(Nat.le_of_ble_eq_true rfl), (Nat.le_of_ble_eq_true rfl)⟩ (fun H locs hM => ?_)
      refine g_astore (i := 5) (lv' := [(4, va_rf v3), (0, va_rf (some a0)), (1, .int x1), (2, .int x2), (3, .int x3)]) hx hb dX4_drop_12 hl (by decide) (fun v => by simp [rf_cat, ic_cat, lc_cat]) (fun ls hl => ?_)
      refine g_aload hx hb dX4_drop_14 (lv_at hl 1 rfl) ?_
      have g := gbind h
      clear h
      obtain ⟨v10, e11, h⟩ := g
      refine g_getI hF hM fdX1 e11 (by decide) rfl u131 dX4_drop_16 ?_
      refine lv_bipush (v := 118) hx hb dX4_drop_19 (by decide) ?_
      refine lv_icmp_ne (tgt := 40) hx hb dX4_drop_21 (by decide) (fun c12 => ?_) (fun c12 => ?_)
      · replace h := (if_neg c12).symm.trans h
        refine W.widen (k := 0) (n := 0) (Nat.le_of_ble_eq_true rfl) (Nat.le_of_ble_eq_true rfl) ?_
        exact Jb40 _ _ _ _ h _ _ _ hM (lv_sub hl [2, 4, 5, 1, 0] rfl)
      · replace h := (if_pos c12).symm.trans h
        refine g_aload hx hb dX4_drop_24 (lv_at hl 1 rfl) ?_
        have g := gbind h
        clear h
        obtain ⟨a32, e33, h⟩ := g
        have t34 := (gtk_of e33).2
        rw [(gtk_of e33).1]
        have g := gbind h
        clear h
        obtain ⟨v36, e35, h⟩ := g
        refine g_callV (As := []) (rest := []) hF hM (c_X1_hasTwins e35) k_X1_hasTwins u816 u817 u818 rfl rfl t34 rfl hl.1 rfl (Nat.le_of_ble_eq_true rfl) dX4_drop_26 ⟨(Nat.le_of_ble_eq_true rfl), (Nat.le_of_ble_eq_true rfl)⟩ ⟨(Nat.le_of_ble_eq_true rfl), (Nat.le_of_ble_eq_true rfl)⟩ (fun H locs hM => ?_)
        refine lv_if_eq (tgt := 40) hx hb dX4_drop_29 (by decide) (fun c37 => ?_) (fun c37 => ?_)
        · replace h := (if_pos c37).symm.trans h
          refine W.widen (k := 0) (n := 0) (Nat.le_of_ble_eq_true rfl) (Nat.le_of_ble_eq_true rfl) ?_
          exact Jb40 _ _ _ _ h _ _ _ hM (lv_sub hl [2, 4, 5, 1, 0] rfl)
        · replace h := (if_neg c37).symm.trans h
          exact g_throw hF hM hfl hout ew_X4_180_182 (congrArg Sum.inr (Sum.inr.inj (Option.some.inj h)).symm) hl.1 dX4_drop_32 dX4_drop_35 dX4_drop_36 dX4_drop_39 (Nat.le_of_ble_eq_true rfl) (Nat.le_of_ble_eq_true rfl) (Nat.le_of_ble_eq_true rfl) (Nat.le_of_ble_eq_true rfl) (Nat.le_of_ble_eq_true rfl) (Nat.le_of_ble_eq_true rfl)
    · exact g_callSt (As := [va_rf v3]) (rest := []) hF hM hout (cx_X4_openStore hfl e6) k_X4_openStore u732 u733 rfl hl.1 rfl (Nat.le_of_ble_eq_true rfl) dX4_drop_9 ⟨(Nat.le_of_ble_eq_true rfl), (Nat.le_of_ble_eq_true rfl)⟩ ⟨(Nat.le_of_ble_eq_true rfl), (Nat.le_of_ble_eq_true rfl)⟩ (Nat.le_of_ble_eq_true rfl) (Nat.le_of_ble_eq_true rfl) (congrArg Sum.inr (Sum.inr.inj z9))
  · exact g_callVt (As := [.int x1]) (rest := []) hF hM hout (cx_X4_needRow hfl e2) k_X4_needRow u807 u809 u20 rfl rfl t1 rfl hl.1 rfl (Nat.le_of_ble_eq_true rfl) dX4_drop_2 ⟨(Nat.le_of_ble_eq_true rfl), (Nat.le_of_ble_eq_true rfl)⟩ ⟨(Nat.le_of_ble_eq_true rfl), (Nat.le_of_ble_eq_true rfl)⟩ (Nat.le_of_ble_eq_true rfl) (Nat.le_of_ble_eq_true rfl) (congrArg Sum.inr (Sum.inr.inj z5))
abbrev rm_X4_markGoing : Room := { frames := 0, cells := 0, slots := 0, locals := 0 }
theorem k_X4_markGoing : gKc yX4_markGoing cX4_markGoing 3 none 2 := ⟨u831, u63, by decide +kernel, by decide +kernel, by decide +kernel⟩
set_option maxHeartbeats 4000000 in
set_option maxRecDepth 100000 in
theorem c_X4_markGoing {l : Launch} {D : va_G} {Y : Nat → ClassId} {S : GS} {hs : Nat} {a0 : Nat} {x1 : Int32} {x2 : Int32} {S' : GS} (h : f_X4_markGoing S a0 x1 x2 = some S') : gMet l yX4_markGoing (gWs yX4_markGoing cX4_markGoing 3 none) rm_X4_markGoing [va_rf (some a0), .int x1, .int x2] D Y S hs none S' hs := by
  refine g_ofW (by decide +kernel) (Or.inl ⟨(Nat.le_of_ble_eq_true rfl), (List.forall_mem_cons.mpr ⟨rf_cat _, (List.forall_mem_cons.mpr ⟨rfl, (List.forall_mem_cons.mpr ⟨rfl, (fun _ h => absurd h List.not_mem_nil)⟩)⟩)⟩)⟩) ?_
  intro p e s m args below meth c ls hsz hname hF hM hl
  have hl : lv_has ls 3 [(0, va_rf (some a0)), (1, .int x1), (2, .int x2)] := by rw [g_args [va_rf (some a0), .int x1, .int x2] 0 (List.forall_mem_cons.mpr ⟨rf_cat _, (List.forall_mem_cons.mpr ⟨rfl, (List.forall_mem_cons.mpr ⟨rfl, (fun _ h => absurd h List.not_mem_nil)⟩)⟩)⟩)] at hl; exact hl
  have hF : gF p s m args meth c RX4 cX4_markGoing 3 none D Y (gA S hs) := hF
  have hx := hF.1
  have hb := hF.2.1
  unfold f_X4_markGoing at h
  refine lv_iload_n hx hb dX4_markGoing_0 rfl (lv_at hl 1 rfl) ?_
  refine lv_if_lt (tgt := 20) hx hb dX4_markGoing_1 (by decide) (fun c1 => ?_) (fun c1 => ?_)
  · replace h := (if_pos c1).symm.trans h
    rw [← (Option.some.inj h)]
    exact g_vret hF hM rfl dX4_markGoing_20 (Nat.le_of_ble_eq_true rfl) (Nat.le_of_ble_eq_true rfl)
  · replace h := (if_neg c1).symm.trans h
    refine lv_iload_n hx hb dX4_markGoing_4 rfl (lv_at hl 1 rfl) ?_
    refine g_aload_n hx hb dX4_markGoing_5 rfl (lv_at hl 0 rfl) ?_
    have g := gbind h
    clear h
    obtain ⟨v2, e3, h⟩ := g
    refine g_getR hF hM fdX4 e3 (by decide) rfl u177 dX4_markGoing_6 ?_
    have g := gbind h
    clear h
    obtain ⟨v4, e5, h⟩ := g
    refine g_alen hF hM (by decide) e5 dX4_markGoing_9 ?_
    refine lv_icmp_ge (tgt := 20) hx hb dX4_markGoing_10 (by decide) (fun c6 => ?_) (fun c6 => ?_)
    · replace h := (if_pos c6).symm.trans h
      rw [← (Option.some.inj h)]
      exact g_vret hF hM rfl dX4_markGoing_20 (Nat.le_of_ble_eq_true rfl) (Nat.le_of_ble_eq_true rfl)
    · replace h := (if_neg c6).symm.trans h
      refine g_aload_n hx hb dX4_markGoing_13 rfl (lv_at hl 0 rfl) ?_
      have g := gbind h
      clear h
      obtain ⟨v7, e8, h⟩ := g
      refine g_getR hF hM fdX4 e8 (by decide) rfl u177 dX4_markGoing_14 ?_
      refine lv_iload_n hx hb dX4_markGoing_17 rfl (lv_at hl 1 rfl) ?_
      refine lv_iload_n hx hb dX4_markGoing_18 rfl (lv_at hl 2 rfl) ?_
      have g := gckE h
      clear h
      obtain ⟨q11, h⟩ := g
      have g := gbind h
      clear h
      obtain ⟨S9, e10, h⟩ := g
      refine g_zast hF hM e10 q11 dX4_markGoing_19 (fun H locs hM => ?_)
      rw [← (Option.some.inj h)]
      exact g_vret hF hM rfl dX4_markGoing_20 (Nat.le_of_ble_eq_true rfl) (Nat.le_of_ble_eq_true rfl)
abbrev rm_X4_removeGoing : Room := { frames := 3, cells := 0, slots := 0, locals := 65 }
theorem k_X4_removeGoing : gKc yX4_removeGoing cX4_removeGoing 5 (some .int) 2 := ⟨u835, u63, by decide +kernel, by decide +kernel, by decide +kernel⟩
set_option maxHeartbeats 4000000 in
set_option maxRecDepth 100000 in
theorem c_X4_removeGoing {l : Launch} {D : va_G} {Y : Nat → ClassId} {S : GS} {hs : Nat} {a0 : Nat} {x1 : Option Nat} {x2 : Option Nat} {r : Int32} {S' : GS} (h : f_X4_removeGoing S a0 x1 x2 = some (r, S')) : gMet l yX4_removeGoing (gWs yX4_removeGoing cX4_removeGoing 5 (some .int)) rm_X4_removeGoing [va_rf (some a0), va_rf x1, va_rf x2] D Y S hs (some (.int r)) S' hs := by
  refine g_ofW (by decide +kernel) (Or.inl ⟨(Nat.le_of_ble_eq_true rfl), (List.forall_mem_cons.mpr ⟨rf_cat _, (List.forall_mem_cons.mpr ⟨rf_cat _, (List.forall_mem_cons.mpr ⟨rf_cat _, (fun _ h => absurd h List.not_mem_nil)⟩)⟩)⟩)⟩) ?_
  intro p e s m args below meth c ls hsz hname hF hM hl
  have hl : lv_has ls 5 [(0, va_rf (some a0)), (1, va_rf x1), (2, va_rf x2)] := by rw [g_args [va_rf (some a0), va_rf x1, va_rf x2] 0 (List.forall_mem_cons.mpr ⟨rf_cat _, (List.forall_mem_cons.mpr ⟨rf_cat _, (List.forall_mem_cons.mpr ⟨rf_cat _, (fun _ h => absurd h List.not_mem_nil)⟩)⟩)⟩)] at hl; exact hl
  have hF : gF p s m args meth c RX4 cX4_removeGoing 5 (some .int) D Y (gA S hs) := hF
  have hx := hF.1
  have hb := hF.2.1
  have Jb47 : ∀ (k18 : GS → Option Nat → Option Nat → Int32 → Int32 → Option (Int32 × GS)) (hk18 : ∀ (T18 : GS) (x1 : Option Nat) (x2 : Option Nat) (x3 : Int32) (x4 : Int32), k18 T18 x1 x2 x3 x4 = some (r, S') → ∀ (H : Heap) (locs : List Loc) (ls : Array Slot), gM D Y (gA S hs) s.heap T18 hs H locs → lv_has ls 5 [(0, va_rf (some a0)), (1, va_rf x1), (2, va_rf x2), (3, .int x3), (4, .int x4)] → W p l e rm_X4_removeGoing s m args below meth c H locs 0 0 (MQ below (gQ (some (.int r)) D Y S' hs (gA S hs)) args s rm_X4_removeGoing.cells rm_X4_removeGoing.slots (gA S hs)) (F0 m 18 ls [])) (T47 : GS) (x1 : Option Nat) (x2 : Option Nat) (x3 : Int32) (x4 : Int32), f_X4_removeGoing_b47 k18 a0 T47 x1 x2 x3 x4 = some (r, S') → ∀ (H : Heap) (locs : List Loc) (ls : Array Slot), gM D Y (gA S hs) s.heap T47 hs H locs → lv_has ls 5 [(0, va_rf (some a0)), (1, va_rf x1), (2, va_rf x2), (3, .int x3), (4, .int x4)] → W p l e rm_X4_removeGoing s m args below meth c H locs 0 0 (MQ below (gQ (some (.int r)) D Y S' hs (gA S hs)) args s rm_X4_removeGoing.cells rm_X4_removeGoing.slots (gA S hs)) (F0 m 47 ls []) := by
    intro k18 hk18 T47 x1 x2 x3 x4 h H locs ls hM hl
    unfold f_X4_removeGoing_b47 at h
    refine lv_iinc (v := (x4 + (-1))) (lv' := [(4, .int (x4 + (-1))), (0, va_rf (some a0)), (1, va_rf x1), (2, va_rf x2), (3, .int x3)]) hx hb dX4_removeGoing_47 hl (k := 4) rfl rfl (by decide) rfl (fun ls hl => ?_)
    refine lv_goto (tgt := 18) hx hb dX4_removeGoing_50 (by decide) ?_
    refine W.widen (k := 0) (n := 0) (Nat.le_of_ble_eq_true rfl) (Nat.le_of_ble_eq_true rfl) ?_
    exact hk18 _ _ _ _ _ h _ _ _ hM (lv_sub hl [1, 2, 3, 4, 0] rfl)
  have JL18 : ∀ (n : Nat) (T18 : GS) (x1 : Option Nat) (x2 : Option Nat) (x3 : Int32) (x4 : Int32), f_X4_removeGoing_L18 a0 n T18 x1 x2 x3 x4 = some (r, S') → ∀ (H : Heap) (locs : List Loc) (ls : Array Slot), gM D Y (gA S hs) s.heap T18 hs H locs → lv_has ls 5 [(0, va_rf (some a0)), (1, va_rf x1), (2, va_rf x2), (3, .int x3), (4, .int x4)] → W p l e rm_X4_removeGoing s m args below meth c H locs 0 0 (MQ below (gQ (some (.int r)) D Y S' hs (gA S hs)) args s rm_X4_removeGoing.cells rm_X4_removeGoing.slots (gA S hs)) (F0 m 18 ls []) := by
    intro n
    induction n with
    | zero => intro T18 x1 x2 x3 x4 h; unfold f_X4_removeGoing_L18 at h; exact nomatch h
    | succ n ih =>
      intro T18 x1 x2 x3 x4 h H locs ls hM hl
      unfold f_X4_removeGoing_L18 at h
      refine lv_iload hx hb dX4_removeGoing_18 (lv_at hl 4 rfl) ?_
      refine lv_if_lt (tgt := 53) hx hb dX4_removeGoing_20 (by decide) (fun c10 => ?_) (fun c10 => ?_)
      · replace h := (if_pos c10).symm.trans h
        refine g_aload_n hx hb dX4_removeGoing_53 rfl (lv_at hl 0 rfl) ?_
        refine g_aload_n hx hb dX4_removeGoing_54 rfl (lv_at hl 1 rfl) ?_
        refine lv_iload_n hx hb dX4_removeGoing_55 rfl (lv_at hl 3 rfl) ?_
        refine lv_ineg hx hb dX4_removeGoing_56 ?_
        have g := gckE h
        clear h
        obtain ⟨t11, h⟩ := g
        have t11 := eq_of_beq t11
        have g := gbind h
        clear h
        obtain ⟨S13, e12, h⟩ := g
        refine g_callV (As := [va_rf x1, .int (-x3)]) (rest := []) hF hM (c_X4_settle e12) k_X4_settle u772 u774 u18 rfl rfl t11 rfl hl.1 rfl (Nat.le_of_ble_eq_true rfl) dX4_removeGoing_57 ⟨(Nat.le_of_ble_eq_true rfl), (Nat.le_of_ble_eq_true rfl)⟩ ⟨(Nat.le_of_ble_eq_true rfl), (Nat.le_of_ble_eq_true rfl)⟩ (fun H locs hM => ?_)
        refine lv_iload_n hx hb dX4_removeGoing_60 rfl (lv_at hl 3 rfl) ?_
        obtain ⟨q1, q2⟩ := Prod.mk.inj (Option.some.inj h)
        rw [← q1, ← q2]
        exact g_iret hF hM rfl rfl dX4_removeGoing_61 (Nat.le_of_ble_eq_true rfl) (Nat.le_of_ble_eq_true rfl)
      · replace h := (if_neg c10).symm.trans h
        refine g_aload_n hx hb dX4_removeGoing_23 rfl (lv_at hl 0 rfl) ?_
        have g := gbind h
        clear h
        obtain ⟨v14, e15, h⟩ := g
        refine g_getR hF hM fdX4 e15 (by decide) rfl u177 dX4_removeGoing_24 ?_
        refine lv_iload hx hb dX4_removeGoing_27 (lv_at hl 4 rfl) ?_
        have g := gbind h
        clear h
        obtain ⟨v16, e17, h⟩ := g
        refine g_zald hF hM e17 dX4_removeGoing_29 ?_
        refine lv_if_eq (tgt := 47) hx hb dX4_removeGoing_30 (by decide) (fun c18 => ?_) (fun c18 => ?_)
        · replace h := (if_pos c18).symm.trans h
          refine W.widen (k := 0) (n := 0) (Nat.le_of_ble_eq_true rfl) (Nat.le_of_ble_eq_true rfl) ?_
          exact Jb47 _ ih _ _ _ _ _ h _ _ _ hM (lv_sub hl [0, 1, 2, 3, 4] rfl)
        · replace h := (if_neg c18).symm.trans h
          refine g_aload_n hx hb dX4_removeGoing_33 rfl (lv_at hl 2 rfl) ?_
          refine g_aload_n hx hb dX4_removeGoing_34 rfl (lv_at hl 1 rfl) ?_
          have g := gbind h
          clear h
          obtain ⟨a19, e20, h⟩ := g
          have t21 := (gtk_of e20).2
          rw [(gtk_of e20).1]
          have g := gbind h
          clear h
          obtain ⟨v23, e22, h⟩ := g
          refine g_callV (As := []) (rest := [va_rf x2]) hF hM (c_X1_first e22) k_X1_first u553 u214 u215 rfl rfl t21 rfl hl.1 rfl (by simp [rf_cat, ic_cat, lc_cat]) dX4_removeGoing_35 ⟨(Nat.le_of_ble_eq_true rfl), (Nat.le_of_ble_eq_true rfl)⟩ ⟨(Nat.le_of_ble_eq_true rfl), (Nat.le_of_ble_eq_true rfl)⟩ (fun H locs hM => ?_)
          refine lv_iload hx hb dX4_removeGoing_38 (lv_at hl 4 rfl) ?_
          refine lv_iadd hx hb dX4_removeGoing_40 ?_
          have g := gbind h
          clear h
          obtain ⟨a24, e25, h⟩ := g
          have t26 := (gtk_of e25).2
          rw [(gtk_of e25).1]
          have g := gbind h
          clear h
          obtain ⟨S28, e27, h⟩ := g
          refine g_callV (As := [.int (v23 + x4)]) (rest := []) hF hM (c_X3_remove e27) k_X3_remove u796 u797 u798 rfl rfl t26 rfl hl.1 rfl (Nat.le_of_ble_eq_true rfl) dX4_removeGoing_41 ⟨(Nat.le_of_ble_eq_true rfl), (Nat.le_of_ble_eq_true rfl)⟩ ⟨(Nat.le_of_ble_eq_true rfl), (Nat.le_of_ble_eq_true rfl)⟩ (fun H locs hM => ?_)
          refine lv_iinc (v := (x3 + 1)) (lv' := [(3, .int (x3 + 1)), (0, va_rf (some a0)), (1, va_rf x1), (2, va_rf x2), (4, .int x4)]) hx hb dX4_removeGoing_44 hl (k := 3) rfl rfl (by decide) (by simp [rf_cat, ic_cat, lc_cat]) (fun ls hl => ?_)
          refine W.widen (k := 0) (n := 0) (Nat.le_of_ble_eq_true rfl) (Nat.le_of_ble_eq_true rfl) ?_
          exact Jb47 _ ih _ _ _ _ _ h _ _ _ hM (lv_sub hl [1, 2, 3, 0, 4] rfl)
  unfold f_X4_removeGoing at h
  refine lv_iconst (v := 0) hx hb dX4_removeGoing_0 (by decide) ?_
  refine lv_istore_n (i := 3) (lv' := [(3, .int 0), (0, va_rf (some a0)), (1, va_rf x1), (2, va_rf x2)]) hx hb dX4_removeGoing_1 rfl hl (by decide) (by simp [rf_cat, ic_cat, lc_cat]) (fun ls hl => ?_)
  refine g_aload_n hx hb dX4_removeGoing_2 rfl (lv_at hl 2 rfl) ?_
  have g := gbind h
  clear h
  obtain ⟨a1, e2, h⟩ := g
  have t3 := (gtk_of e2).2
  rw [(gtk_of e2).1]
  have g := gbind h
  clear h
  obtain ⟨v5, e4, h⟩ := g
  refine g_callV (As := []) (rest := []) hF hM (c_X1_count e4) k_X1_count u195 u196 u197 rfl rfl t3 rfl hl.1 rfl (Nat.le_of_ble_eq_true rfl) dX4_removeGoing_3 ⟨(Nat.le_of_ble_eq_true rfl), (Nat.le_of_ble_eq_true rfl)⟩ ⟨(Nat.le_of_ble_eq_true rfl), (Nat.le_of_ble_eq_true rfl)⟩ (fun H locs hM => ?_)
  refine g_aload_n hx hb dX4_removeGoing_6 rfl (lv_at hl 1 rfl) ?_
  have g := gbind h
  clear h
  obtain ⟨v6, e7, h⟩ := g
  refine g_getR hF hM fdX4 e7 (by decide) rfl u177 dX4_removeGoing_7 ?_
  have g := gbind h
  clear h
  obtain ⟨v8, e9, h⟩ := g
  refine g_alen hF hM (by decide) e9 dX4_removeGoing_10 ?_
  refine g_mmin hF u836 u388 u389 u78 hl.1 dX4_removeGoing_11 ⟨(Nat.le_of_ble_eq_true rfl), (Nat.le_of_ble_eq_true rfl)⟩ (Nat.le_of_ble_eq_true rfl) ⟨(Nat.le_of_ble_eq_true rfl), (Nat.le_of_ble_eq_true rfl)⟩ ?_
  refine lv_iconst (v := 1) hx hb dX4_removeGoing_14 (by decide) ?_
  refine lv_isub hx hb dX4_removeGoing_15 ?_
  refine lv_istore (i := 4) (lv' := [(4, .int ((gmin v5 v8) - 1)), (3, .int 0), (0, va_rf (some a0)), (1, va_rf x1), (2, va_rf x2)]) hx hb dX4_removeGoing_16 hl (by decide) rfl (fun ls hl => ?_)
  refine W.widen (k := 0) (n := 0) (Nat.le_of_ble_eq_true rfl) (Nat.le_of_ble_eq_true rfl) ?_
  exact JL18 gN _ _ _ _ _ h _ _ _ hM (lv_sub hl [2, 3, 4, 1, 0] rfl)
abbrev rm_X4_wipe : Room := { frames := 4, cells := 0, slots := 0, locals := 89 }
theorem k_X4_wipe : gKc yX4_wipe cX4_wipe 5 (some .int) 1 := ⟨u827, u63, by decide +kernel, by decide +kernel, by decide +kernel⟩
set_option maxHeartbeats 4000000 in
set_option maxRecDepth 100000 in
theorem c_X4_wipe {l : Launch} {D : va_G} {Y : Nat → ClassId} {S : GS} {hs : Nat} {a0 : Nat} {x1 : Int32} {r : Int32} {S' : GS} (h : f_X4_wipe S a0 x1 = some (.inl (r, S'))) : gMet l yX4_wipe (gWs yX4_wipe cX4_wipe 5 (some .int)) rm_X4_wipe [va_rf (some a0), .int x1] D Y S hs (some (.int r)) S' hs := by
  refine g_ofW (by decide +kernel) (Or.inl ⟨(Nat.le_of_ble_eq_true rfl), (List.forall_mem_cons.mpr ⟨rf_cat _, (List.forall_mem_cons.mpr ⟨rfl, (fun _ h => absurd h List.not_mem_nil)⟩)⟩)⟩) ?_
  intro p e s m args below meth c ls hsz hname hF hM hl
  have hl : lv_has ls 5 [(0, va_rf (some a0)), (1, .int x1)] := by rw [g_args [va_rf (some a0), .int x1] 0 (List.forall_mem_cons.mpr ⟨rf_cat _, (List.forall_mem_cons.mpr ⟨rfl, (fun _ h => absurd h List.not_mem_nil)⟩)⟩)] at hl; exact hl
  have hF : gF p s m args meth c RX4 cX4_wipe 5 (some .int) D Y (gA S hs) := hF
  have hx := hF.1
  have hb := hF.2.1
  have JL14 : ∀ (n : Nat) (T14 : GS) (x2 : Option Nat) (x3 : Option Nat) (x4 : Int32), f_X4_wipe_L14 a0 n T14 x2 x3 x4 = some (.inl (r, S')) → ∀ (H : Heap) (locs : List Loc) (ls : Array Slot), gM D Y (gA S hs) s.heap T14 hs H locs → lv_has ls 5 [(0, va_rf (some a0)), (2, va_rf x2), (3, va_rf x3), (4, .int x4)] → W p l e rm_X4_wipe s m args below meth c H locs 0 0 (MQ below (gQ (some (.int r)) D Y S' hs (gA S hs)) args s rm_X4_wipe.cells rm_X4_wipe.slots (gA S hs)) (F0 m 14 ls []) := by
    intro n
    induction n with
    | zero => intro T14 x2 x3 x4 h; unfold f_X4_wipe_L14 at h; exact nomatch h
    | succ n ih =>
      intro T14 x2 x3 x4 h H locs ls hM hl
      unfold f_X4_wipe_L14 at h
      refine lv_iload hx hb dX4_wipe_14 (lv_at hl 3 rfl) ?_
      refine g_aload_n hx hb dX4_wipe_16 rfl (lv_at hl 1 rfl) ?_
      have g := gbind h
      clear h
      obtain ⟨a10, e11, h⟩ := g
      have t12 := (gtk_of e11).2
      rw [(gtk_of e11).1]
      have g := gbind h
      clear h
      obtain ⟨v14, e13, h⟩ := g
      refine g_callV (As := []) (rest := [.int x4]) hF hM (c_X1_count e13) k_X1_count u195 u196 u197 rfl rfl t12 rfl hl.1 rfl (Nat.le_of_ble_eq_true rfl) dX4_wipe_17 ⟨(Nat.le_of_ble_eq_true rfl), (Nat.le_of_ble_eq_true rfl)⟩ ⟨(Nat.le_of_ble_eq_true rfl), (Nat.le_of_ble_eq_true rfl)⟩ (fun H locs hM => ?_)
      refine lv_icmp_ge (tgt := 36) hx hb dX4_wipe_20 (by decide) (fun c15 => ?_) (fun c15 => ?_)
      · replace h := (if_pos c15).symm.trans h
        refine g_aload_n hx hb dX4_wipe_36 rfl (lv_at hl 0 rfl) ?_
        refine g_aload_n hx hb dX4_wipe_37 rfl (lv_at hl 1 rfl) ?_
        refine g_aload_n hx hb dX4_wipe_38 rfl (lv_at hl 2 rfl) ?_
        have g := gckE h
        clear h
        obtain ⟨t16, h⟩ := g
        have t16 := eq_of_beq t16
        have g := gb2E h
        clear h
        obtain ⟨v18, S19, e17, h⟩ := g
        refine g_callV (As := [va_rf x2, va_rf x3]) (rest := []) hF hM (c_X4_removeGoing e17) k_X4_removeGoing u832 u834 u22 rfl rfl t16 rfl hl.1 rfl (Nat.le_of_ble_eq_true rfl) dX4_wipe_39 ⟨(Nat.le_of_ble_eq_true rfl), (Nat.le_of_ble_eq_true rfl)⟩ ⟨(Nat.le_of_ble_eq_true rfl), (Nat.le_of_ble_eq_true rfl)⟩ (fun H locs hM => ?_)
        obtain ⟨q1, q2⟩ := Prod.mk.inj (Sum.inl.inj (Option.some.inj h))
        rw [← q1, ← q2]
        exact g_iret hF hM rfl rfl dX4_wipe_42 (Nat.le_of_ble_eq_true rfl) (Nat.le_of_ble_eq_true rfl)
      · replace h := (if_neg c15).symm.trans h
        refine g_aload_n hx hb dX4_wipe_23 rfl (lv_at hl 0 rfl) ?_
        refine lv_iload hx hb dX4_wipe_24 (lv_at hl 3 rfl) ?_
        refine lv_iconst (v := 1) hx hb dX4_wipe_26 (by decide) ?_
        have g := gckE h
        clear h
        obtain ⟨t20, h⟩ := g
        have t20 := eq_of_beq t20
        have g := gbind h
        clear h
        obtain ⟨S22, e21, h⟩ := g
        refine g_callV (As := [.int x4, .int 1]) (rest := []) hF hM (c_X4_markGoing e21) k_X4_markGoing u828 u830 u21 rfl rfl t20 rfl hl.1 rfl (Nat.le_of_ble_eq_true rfl) dX4_wipe_27 ⟨(Nat.le_of_ble_eq_true rfl), (Nat.le_of_ble_eq_true rfl)⟩ ⟨(Nat.le_of_ble_eq_true rfl), (Nat.le_of_ble_eq_true rfl)⟩ (fun H locs hM => ?_)
        refine lv_iinc (v := (x4 + 1)) (lv' := [(4, .int (x4 + 1)), (0, va_rf (some a0)), (2, va_rf x2), (3, va_rf x3)]) hx hb dX4_wipe_30 hl (k := 3) rfl rfl (by decide) (by simp [rf_cat, ic_cat, lc_cat]) (fun ls hl => ?_)
        refine lv_goto (tgt := 14) hx hb dX4_wipe_33 (by decide) ?_
        refine W.widen (k := 0) (n := 0) (Nat.le_of_ble_eq_true rfl) (Nat.le_of_ble_eq_true rfl) ?_
        exact ih _ _ _ _ h _ _ _ hM (lv_sub hl [1, 2, 3, 0] rfl)
  unfold f_X4_wipe at h
  refine g_aload_n hx hb dX4_wipe_0 rfl (lv_at hl 0 rfl) ?_
  refine lv_iload_n hx hb dX4_wipe_1 rfl (lv_at hl 1 rfl) ?_
  have g := gckE h
  clear h
  obtain ⟨t1, h⟩ := g
  have t1 := eq_of_beq t1
  have g := gthE h
  clear h
  rcases g with ⟨v3, e2, h⟩ | ⟨y4, e2, z5⟩
  · refine g_callV (As := [.int x1]) (rest := []) hF hM (c_X4_needSomething e2) k_X4_needSomething u648 u650 u16 rfl rfl t1 rfl hl.1 rfl (Nat.le_of_ble_eq_true rfl) dX4_wipe_2 ⟨(Nat.le_of_ble_eq_true rfl), (Nat.le_of_ble_eq_true rfl)⟩ ⟨(Nat.le_of_ble_eq_true rfl), (Nat.le_of_ble_eq_true rfl)⟩ (fun H locs hM => ?_)
    refine g_astore_n (i := 2) (lv' := [(0, va_rf (some a0)), (1, .int x1)]) hx hb dX4_wipe_5 rfl hl (by decide) (fun v => rfl) (fun ls hl => ?_)
    refine g_aload_n hx hb dX4_wipe_6 rfl (lv_at hl 0 rfl) ?_
    have g := gthE h
    clear h
    rcases g with ⟨v7, e6, h⟩ | ⟨y8, e6, z9⟩
    · refine g_callS (As := [va_rf v3]) (rest := []) hF hM (c_X4_openStore e6) k_X4_openStore u732 u733 rfl hl.1 rfl (Nat.le_of_ble_eq_true rfl) dX4_wipe_7 ⟨(Nat.le_of_ble_eq_true rfl), (Nat.le_of_ble_eq_true rfl)⟩ ⟨(Nat.le_of_ble_eq_true rfl), (Nat.le_of_ble_eq_true rfl)⟩ (fun H locs hM => ?_)
      refine g_astore_n (i := 3) (lv' := [(2, va_rf v3), (0, va_rf (some a0)), (1, .int x1)]) hx hb dX4_wipe_10 rfl hl (by decide) (fun v => by simp [rf_cat, ic_cat, lc_cat]) (fun ls hl => ?_)
      refine lv_iconst (v := 0) hx hb dX4_wipe_11 (by decide) ?_
      refine lv_istore (i := 4) (lv' := [(4, .int 0), (3, va_rf v7), (2, va_rf v3), (0, va_rf (some a0)), (1, .int x1)]) hx hb dX4_wipe_12 hl (by decide) (by simp [rf_cat, ic_cat, lc_cat]) (fun ls hl => ?_)
      refine W.widen (k := 0) (n := 0) (Nat.le_of_ble_eq_true rfl) (Nat.le_of_ble_eq_true rfl) ?_
      exact JL14 gN _ _ _ _ h _ _ _ hM (lv_sub hl [3, 2, 1, 0] rfl)
    · exact nomatch z9
  · exact nomatch z5
abbrev rmx_X4_wipe : Room := { frames := 8, cells := 1, slots := 6, locals := 132 }
set_option maxHeartbeats 4000000 in
set_option maxRecDepth 100000 in
theorem cx_X4_wipe {l : Launch} {D : va_G} {Y : Nat → ClassId} {S : GS} {hs : Nat} {a0 : Nat} {x1 : Int32} {x : Nat} (hfl : l.stackTraces = false) (h : f_X4_wipe S a0 x1 = some (.inr x)) : gMx l yX4_wipe (gWs yX4_wipe cX4_wipe 5 (some .int)) rmx_X4_wipe [va_rf (some a0), .int x1] D Y S hs (.inr x) := by
  refine g_ofWx (by decide +kernel) (Or.inl ⟨(Nat.le_of_ble_eq_true rfl), (List.forall_mem_cons.mpr ⟨rf_cat _, (List.forall_mem_cons.mpr ⟨rfl, (fun _ h => absurd h List.not_mem_nil)⟩)⟩)⟩) ?_
  intro p e s m args below meth c ls hsz hout hF hM hl
  have hl : lv_has ls 5 [(0, va_rf (some a0)), (1, .int x1)] := by rw [g_args [va_rf (some a0), .int x1] 0 (List.forall_mem_cons.mpr ⟨rf_cat _, (List.forall_mem_cons.mpr ⟨rfl, (fun _ h => absurd h List.not_mem_nil)⟩)⟩)] at hl; exact hl
  have hF : gF p s m args meth c RX4 cX4_wipe 5 (some .int) D Y (gA S hs) := hF
  have hx := hF.1
  have hb := hF.2.1
  have JL14 : ∀ (n : Nat) (T14 : GS) (x2 : Option Nat) (x3 : Option Nat) (x4 : Int32), f_X4_wipe_L14 a0 n T14 x2 x3 x4 = some (.inr x) → ∀ (H : Heap) (locs : List Loc) (ls : Array Slot), gM D Y (gA S hs) s.heap T14 hs H locs → lv_has ls 5 [(0, va_rf (some a0)), (2, va_rf x2), (3, va_rf x3), (4, .int x4)] → W p l e rmx_X4_wipe s m args below meth c H locs 0 0 (vx_MQ below (gQz (.inr x) D Y (gA S hs)) (gXz (.inr x) D Y S (gA S hs)) args s rmx_X4_wipe.cells rmx_X4_wipe.slots (gA S hs)) (F0 m 14 ls []) := by
    intro n
    induction n with
    | zero => intro T14 x2 x3 x4 h; unfold f_X4_wipe_L14 at h; exact nomatch h
    | succ n ih =>
      intro T14 x2 x3 x4 h H locs ls hM hl
      unfold f_X4_wipe_L14 at h
      refine lv_iload hx hb dX4_wipe_14 (lv_at hl 3 rfl) ?_
      refine g_aload_n hx hb dX4_wipe_16 rfl (lv_at hl 1 rfl) ?_
      have g := gbind h
      clear h
      obtain ⟨a10, e11, h⟩ := g
      have t12 := (gtk_of e11).2
      rw [(gtk_of e11).1]
      have g := gbind h
      clear h
      obtain ⟨v14, e13, h⟩ := g
      refine g_callV (As := []) (rest := [.int x4]) hF hM (c_X1_count e13) k_X1_count u195 u196 u197 rfl rfl t12 rfl hl.1 rfl (Nat.le_of_ble_eq_true rfl) dX4_wipe_17 ⟨(Nat.le_of_ble_eq_true rfl), (Nat.le_of_ble_eq_true rfl)⟩ ⟨(Nat.le_of_ble_eq_true rfl), (Nat.le_of_ble_eq_true rfl)⟩ (fun H locs hM => ?_)
      refine lv_icmp_ge (tgt := 36) hx hb dX4_wipe_20 (by decide) (fun c15 => ?_) (fun c15 => ?_)
      · replace h := (if_pos c15).symm.trans h
        refine g_aload_n hx hb dX4_wipe_36 rfl (lv_at hl 0 rfl) ?_
        refine g_aload_n hx hb dX4_wipe_37 rfl (lv_at hl 1 rfl) ?_
        refine g_aload_n hx hb dX4_wipe_38 rfl (lv_at hl 2 rfl) ?_
        have g := gckE h
        clear h
        obtain ⟨t16, h⟩ := g
        have t16 := eq_of_beq t16
        have g := gb2E h
        clear h
        obtain ⟨v18, S19, e17, h⟩ := g
        refine g_callV (As := [va_rf x2, va_rf x3]) (rest := []) hF hM (c_X4_removeGoing e17) k_X4_removeGoing u832 u834 u22 rfl rfl t16 rfl hl.1 rfl (Nat.le_of_ble_eq_true rfl) dX4_wipe_39 ⟨(Nat.le_of_ble_eq_true rfl), (Nat.le_of_ble_eq_true rfl)⟩ ⟨(Nat.le_of_ble_eq_true rfl), (Nat.le_of_ble_eq_true rfl)⟩ (fun H locs hM => ?_)
        exact nomatch (Option.some.inj h)
      · replace h := (if_neg c15).symm.trans h
        refine g_aload_n hx hb dX4_wipe_23 rfl (lv_at hl 0 rfl) ?_
        refine lv_iload hx hb dX4_wipe_24 (lv_at hl 3 rfl) ?_
        refine lv_iconst (v := 1) hx hb dX4_wipe_26 (by decide) ?_
        have g := gckE h
        clear h
        obtain ⟨t20, h⟩ := g
        have t20 := eq_of_beq t20
        have g := gbind h
        clear h
        obtain ⟨S22, e21, h⟩ := g
        refine g_callV (As := [.int x4, .int 1]) (rest := []) hF hM (c_X4_markGoing e21) k_X4_markGoing u828 u830 u21 rfl rfl t20 rfl hl.1 rfl (Nat.le_of_ble_eq_true rfl) dX4_wipe_27 ⟨(Nat.le_of_ble_eq_true rfl), (Nat.le_of_ble_eq_true rfl)⟩ ⟨(Nat.le_of_ble_eq_true rfl), (Nat.le_of_ble_eq_true rfl)⟩ (fun H locs hM => ?_)
        refine lv_iinc (v := (x4 + 1)) (lv' := [(4, .int (x4 + 1)), (0, va_rf (some a0)), (2, va_rf x2), (3, va_rf x3)]) hx hb dX4_wipe_30 hl (k := 3) rfl rfl (by decide) (by simp [rf_cat, ic_cat, lc_cat]) (fun ls hl => ?_)
        refine lv_goto (tgt := 14) hx hb dX4_wipe_33 (by decide) ?_
        refine W.widen (k := 0) (n := 0) (Nat.le_of_ble_eq_true rfl) (Nat.le_of_ble_eq_true rfl) ?_
        exact ih _ _ _ _ h _ _ _ hM (lv_sub hl [1, 2, 3, 0] rfl)
  unfold f_X4_wipe at h
  refine g_aload_n hx hb dX4_wipe_0 rfl (lv_at hl 0 rfl) ?_
  refine lv_iload_n hx hb dX4_wipe_1 rfl (lv_at hl 1 rfl) ?_
  have g := gckE h
  clear h
  obtain ⟨t1, h⟩ := g
  have t1 := eq_of_beq t1
  have g := gthE h
  clear h
  rcases g with ⟨v3, e2, h⟩ | ⟨y4, e2, z5⟩
  · refine g_callV (As := [.int x1]) (rest := []) hF hM (c_X4_needSomething e2) k_X4_needSomething u648 u650 u16 rfl rfl t1 rfl hl.1 rfl (Nat.le_of_ble_eq_true rfl) dX4_wipe_2 ⟨(Nat.le_of_ble_eq_true rfl), (Nat.le_of_ble_eq_true rfl)⟩ ⟨(Nat.le_of_ble_eq_true rfl), (Nat.le_of_ble_eq_true rfl)⟩ (fun H locs hM => ?_)
    refine g_astore_n (i := 2) (lv' := [(0, va_rf (some a0)), (1, .int x1)]) hx hb dX4_wipe_5 rfl hl (by decide) (fun v => rfl) (fun ls hl => ?_)
    refine g_aload_n hx hb dX4_wipe_6 rfl (lv_at hl 0 rfl) ?_
    have g := gthE h
    clear h
    rcases g with ⟨v7, e6, h⟩ | ⟨y8, e6, z9⟩
    · refine g_callS (As := [va_rf v3]) (rest := []) hF hM (c_X4_openStore e6) k_X4_openStore u732 u733 rfl hl.1 rfl (Nat.le_of_ble_eq_true rfl) dX4_wipe_7 ⟨(Nat.le_of_ble_eq_true rfl), (Nat.le_of_ble_eq_true rfl)⟩ ⟨(Nat.le_of_ble_eq_true rfl), (Nat.le_of_ble_eq_true rfl)⟩ (fun H locs hM => ?_)
      refine g_astore_n (i := 3) (lv' := [(2, va_rf v3), (0, va_rf (some a0)), (1, .int x1)]) hx hb dX4_wipe_10 rfl hl (by decide) (fun v => by simp [rf_cat, ic_cat, lc_cat]) (fun ls hl => ?_)
      refine lv_iconst (v := 0) hx hb dX4_wipe_11 (by decide) ?_
      refine lv_istore (i := 4) (lv' := [(4, .int 0), (3, va_rf v7), (2, va_rf v3), (0, va_rf (some a0)), (1, .int x1)]) hx hb dX4_wipe_12 hl (by decide) (by simp [rf_cat, ic_cat, lc_cat]) (fun ls hl => ?_)
      refine W.widen (k := 0) (n := 0) (Nat.le_of_ble_eq_true rfl) (Nat.le_of_ble_eq_true rfl) ?_
      exact JL14 gN _ _ _ _ h _ _ _ hM (lv_sub hl [3, 2, 1, 0] rfl)
    · exact g_callSt (As := [va_rf v3]) (rest := []) hF hM hout (cx_X4_openStore hfl e6) k_X4_openStore u732 u733 rfl hl.1 rfl (Nat.le_of_ble_eq_true rfl) dX4_wipe_7 ⟨(Nat.le_of_ble_eq_true rfl), (Nat.le_of_ble_eq_true rfl)⟩ ⟨(Nat.le_of_ble_eq_true rfl), (Nat.le_of_ble_eq_true rfl)⟩ (Nat.le_of_ble_eq_true rfl) (Nat.le_of_ble_eq_true rfl) (congrArg Sum.inr (Sum.inr.inj z9))
  · exact g_callVt (As := [.int x1]) (rest := []) hF hM hout (cx_X4_needSomething hfl e2) k_X4_needSomething u648 u650 u16 rfl rfl t1 rfl hl.1 rfl (Nat.le_of_ble_eq_true rfl) dX4_wipe_2 ⟨(Nat.le_of_ble_eq_true rfl), (Nat.le_of_ble_eq_true rfl)⟩ ⟨(Nat.le_of_ble_eq_true rfl), (Nat.le_of_ble_eq_true rfl)⟩ (Nat.le_of_ble_eq_true rfl) (Nat.le_of_ble_eq_true rfl) (congrArg Sum.inr (Sum.inr.inj z5))
abbrev rm_X4_needSlots : Room := { frames := 0, cells := 0, slots := 0, locals := 0 }
theorem k_X4_needSlots : gKc yX4_needSlots cX4_needSlots 2 none 2 := ⟨u846, u63, by decide +kernel, by decide +kernel, by decide +kernel⟩
set_option maxHeartbeats 4000000 in
set_option maxRecDepth 100000 in
theorem c_X4_needSlots {l : Launch} {D : va_G} {Y : Nat → ClassId} {S : GS} {hs : Nat} {x0 : Int32} {x1 : Int32} {r : Unit} (h : f_X4_needSlots S x0 x1 = some (.inl r)) : gMet l yX4_needSlots (gWs yX4_needSlots cX4_needSlots 2 none) rm_X4_needSlots [.int x0, .int x1] D Y S hs none S hs := by
  refine g_ofW (by decide +kernel) (Or.inl ⟨(Nat.le_of_ble_eq_true rfl), (List.forall_mem_cons.mpr ⟨rfl, (List.forall_mem_cons.mpr ⟨rfl, (fun _ h => absurd h List.not_mem_nil)⟩)⟩)⟩) ?_
  intro p e s m args below meth c ls hsz hname hF hM hl
  have hl : lv_has ls 2 [(0, .int x0), (1, .int x1)] := by rw [g_args [.int x0, .int x1] 0 (List.forall_mem_cons.mpr ⟨rfl, (List.forall_mem_cons.mpr ⟨rfl, (fun _ h => absurd h List.not_mem_nil)⟩)⟩)] at hl; exact hl
  have hF : gF p s m args meth c RX4 cX4_needSlots 2 none D Y (gA S hs) := hF
  have hx := hF.1
  have hb := hF.2.1
  unfold f_X4_needSlots at h
  refine lv_iload_n hx hb dX4_needSlots_0 rfl (lv_at hl 0 rfl) ?_
  refine lv_if_lt (tgt := 20) hx hb dX4_needSlots_1 (by decide) (fun c1 => ?_) (fun c1 => ?_)
  · replace h := (if_pos c1).symm.trans h
    exact nomatch (Option.some.inj h)
  · replace h := (if_neg c1).symm.trans h
    refine lv_iload_n hx hb dX4_needSlots_4 rfl (lv_at hl 0 rfl) ?_
    refine lv_bipush (v := 12) hx hb dX4_needSlots_5 (by decide) ?_
    refine lv_icmp_ge (tgt := 20) hx hb dX4_needSlots_7 (by decide) (fun c2 => ?_) (fun c2 => ?_)
    · replace h := (if_pos c2).symm.trans h
      exact nomatch (Option.some.inj h)
    · replace h := (if_neg c2).symm.trans h
      refine lv_iload_n hx hb dX4_needSlots_10 rfl (lv_at hl 1 rfl) ?_
      refine lv_if_lt (tgt := 20) hx hb dX4_needSlots_11 (by decide) (fun c3 => ?_) (fun c3 => ?_)
      · replace h := (if_pos c3).symm.trans h
        exact nomatch (Option.some.inj h)
      · replace h := (if_neg c3).symm.trans h
        refine lv_iload_n hx hb dX4_needSlots_14 rfl (lv_at hl 1 rfl) ?_
        refine lv_bipush (v := 12) hx hb dX4_needSlots_15 (by decide) ?_
        refine lv_icmp_lt (tgt := 28) hx hb dX4_needSlots_17 (by decide) (fun c4 => ?_) (fun c4 => ?_)
        · replace h := (if_pos c4).symm.trans h
          exact g_vret hF hM rfl dX4_needSlots_28 (Nat.le_of_ble_eq_true rfl) (Nat.le_of_ble_eq_true rfl)
        · replace h := (if_neg c4).symm.trans h
          exact nomatch (Option.some.inj h)
abbrev rmx_X4_needSlots : Room := { frames := 6, cells := 1, slots := 6, locals := 89 }
set_option maxHeartbeats 4000000 in
set_option maxRecDepth 100000 in
theorem cx_X4_needSlots {l : Launch} {D : va_G} {Y : Nat → ClassId} {S : GS} {hs : Nat} {x0 : Int32} {x1 : Int32} {x : Nat} (hfl : l.stackTraces = false) (h : f_X4_needSlots S x0 x1 = some (.inr x)) : gMx l yX4_needSlots (gWs yX4_needSlots cX4_needSlots 2 none) rmx_X4_needSlots [.int x0, .int x1] D Y S hs (.inr x) := by
  refine g_ofWx (by decide +kernel) (Or.inl ⟨(Nat.le_of_ble_eq_true rfl), (List.forall_mem_cons.mpr ⟨rfl, (List.forall_mem_cons.mpr ⟨rfl, (fun _ h => absurd h List.not_mem_nil)⟩)⟩)⟩) ?_
  intro p e s m args below meth c ls hsz hout hF hM hl
  have hl : lv_has ls 2 [(0, .int x0), (1, .int x1)] := by rw [g_args [.int x0, .int x1] 0 (List.forall_mem_cons.mpr ⟨rfl, (List.forall_mem_cons.mpr ⟨rfl, (fun _ h => absurd h List.not_mem_nil)⟩)⟩)] at hl; exact hl
  have hF : gF p s m args meth c RX4 cX4_needSlots 2 none D Y (gA S hs) := hF
  have hx := hF.1
  have hb := hF.2.1
  unfold f_X4_needSlots at h
  refine lv_iload_n hx hb dX4_needSlots_0 rfl (lv_at hl 0 rfl) ?_
  refine lv_if_lt (tgt := 20) hx hb dX4_needSlots_1 (by decide) (fun c1 => ?_) (fun c1 => ?_)
  · replace h := (if_pos c1).symm.trans h
    exact g_throw hF hM hfl hout ew_X4_292_294 (congrArg Sum.inr (Sum.inr.inj (Option.some.inj h)).symm) hl.1 dX4_needSlots_20 dX4_needSlots_23 dX4_needSlots_24 dX4_needSlots_27 (Nat.le_of_ble_eq_true rfl) (Nat.le_of_ble_eq_true rfl) (Nat.le_of_ble_eq_true rfl) (Nat.le_of_ble_eq_true rfl) (Nat.le_of_ble_eq_true rfl) (Nat.le_of_ble_eq_true rfl)
  · replace h := (if_neg c1).symm.trans h
    refine lv_iload_n hx hb dX4_needSlots_4 rfl (lv_at hl 0 rfl) ?_
    refine lv_bipush (v := 12) hx hb dX4_needSlots_5 (by decide) ?_
    refine lv_icmp_ge (tgt := 20) hx hb dX4_needSlots_7 (by decide) (fun c2 => ?_) (fun c2 => ?_)
    · replace h := (if_pos c2).symm.trans h
      exact g_throw hF hM hfl hout ew_X4_292_294 (congrArg Sum.inr (Sum.inr.inj (Option.some.inj h)).symm) hl.1 dX4_needSlots_20 dX4_needSlots_23 dX4_needSlots_24 dX4_needSlots_27 (Nat.le_of_ble_eq_true rfl) (Nat.le_of_ble_eq_true rfl) (Nat.le_of_ble_eq_true rfl) (Nat.le_of_ble_eq_true rfl) (Nat.le_of_ble_eq_true rfl) (Nat.le_of_ble_eq_true rfl)
    · replace h := (if_neg c2).symm.trans h
      refine lv_iload_n hx hb dX4_needSlots_10 rfl (lv_at hl 1 rfl) ?_
      refine lv_if_lt (tgt := 20) hx hb dX4_needSlots_11 (by decide) (fun c3 => ?_) (fun c3 => ?_)
      · replace h := (if_pos c3).symm.trans h
        exact g_throw hF hM hfl hout ew_X4_292_294 (congrArg Sum.inr (Sum.inr.inj (Option.some.inj h)).symm) hl.1 dX4_needSlots_20 dX4_needSlots_23 dX4_needSlots_24 dX4_needSlots_27 (Nat.le_of_ble_eq_true rfl) (Nat.le_of_ble_eq_true rfl) (Nat.le_of_ble_eq_true rfl) (Nat.le_of_ble_eq_true rfl) (Nat.le_of_ble_eq_true rfl) (Nat.le_of_ble_eq_true rfl)
      · replace h := (if_neg c3).symm.trans h
        refine lv_iload_n hx hb dX4_needSlots_14 rfl (lv_at hl 1 rfl) ?_
        refine lv_bipush (v := 12) hx hb dX4_needSlots_15 (by decide) ?_
        refine lv_icmp_lt (tgt := 28) hx hb dX4_needSlots_17 (by decide) (fun c4 => ?_) (fun c4 => ?_)
        · replace h := (if_pos c4).symm.trans h
          exact nomatch (Option.some.inj h)
        · replace h := (if_neg c4).symm.trans h
          exact g_throw hF hM hfl hout ew_X4_292_294 (congrArg Sum.inr (Sum.inr.inj (Option.some.inj h)).symm) hl.1 dX4_needSlots_20 dX4_needSlots_23 dX4_needSlots_24 dX4_needSlots_27 (Nat.le_of_ble_eq_true rfl) (Nat.le_of_ble_eq_true rfl) (Nat.le_of_ble_eq_true rfl) (Nat.le_of_ble_eq_true rfl) (Nat.le_of_ble_eq_true rfl) (Nat.le_of_ble_eq_true rfl)
abbrev rm_X4_putAll : Room := { frames := 4, cells := 0, slots := 0, locals := 91 }
theorem k_X4_putAll : gKc yX4_putAll cX4_putAll 8 (some .int) 3 := ⟨u843, u63, by decide +kernel, by decide +kernel, by decide +kernel⟩
set_option maxHeartbeats 4000000 in
set_option maxRecDepth 100000 in
theorem c_X4_putAll {l : Launch} {D : va_G} {Y : Nat → ClassId} {S : GS} {hs : Nat} {a0 : Nat} {x1 : Int32} {x2 : Int32} {x3 : Int32} {r : Int32} {S' : GS} (h : f_X4_putAll S a0 x1 x2 x3 = some (.inl (r, S'))) : gMet l yX4_putAll (gWs yX4_putAll cX4_putAll 8 (some .int)) rm_X4_putAll [va_rf (some a0), .int x1, .int x2, .int x3] D Y S hs (some (.int r)) S' hs := by
  refine g_ofW (by decide +kernel) (Or.inl ⟨(Nat.le_of_ble_eq_true rfl), (List.forall_mem_cons.mpr ⟨rf_cat _, (List.forall_mem_cons.mpr ⟨rfl, (List.forall_mem_cons.mpr ⟨rfl, (List.forall_mem_cons.mpr ⟨rfl, (fun _ h => absurd h List.not_mem_nil)⟩)⟩)⟩)⟩)⟩) ?_
  intro p e s m args below meth c ls hsz hname hF hM hl
  have hl : lv_has ls 8 [(0, va_rf (some a0)), (1, .int x1), (2, .int x2), (3, .int x3)] := by rw [g_args [va_rf (some a0), .int x1, .int x2, .int x3] 0 (List.forall_mem_cons.mpr ⟨rf_cat _, (List.forall_mem_cons.mpr ⟨rfl, (List.forall_mem_cons.mpr ⟨rfl, (List.forall_mem_cons.mpr ⟨rfl, (fun _ h => absurd h List.not_mem_nil)⟩)⟩)⟩)⟩)] at hl; exact hl
  have hF : gF p s m args meth c RX4 cX4_putAll 8 (some .int) D Y (gA S hs) := hF
  have hx := hF.1
  have hb := hF.2.1
  have JL54 : ∀ (n : Nat) (T54 : GS) (x2 : Int32) (x4 : Option Nat) (x6 : Option Nat) (x7 : Int32), f_X4_putAll_L54 a0 n T54 x2 x4 x6 x7 = some (.inl (r, S')) → ∀ (H : Heap) (locs : List Loc) (ls : Array Slot), gM D Y (gA S hs) s.heap T54 hs H locs → lv_has ls 8 [(0, va_rf (some a0)), (2, .int x2), (4, va_rf x4), (6, va_rf x6), (7, .int x7)] → W p l e rm_X4_putAll s m args below meth c H locs 0 0 (MQ below (gQ (some (.int r)) D Y S' hs (gA S hs)) args s rm_X4_putAll.cells rm_X4_putAll.slots (gA S hs)) (F0 m 54 ls []) := by
    intro n
    induction n with
    | zero => intro T54 x2 x4 x6 x7 h; unfold f_X4_putAll_L54 at h; exact nomatch h
    | succ n ih =>
      intro T54 x2 x4 x6 x7 h H locs ls hM hl
      unfold f_X4_putAll_L54 at h
      refine lv_iload hx hb dX4_putAll_54 (lv_at hl 4 rfl) ?_
      refine g_aload_n hx hb dX4_putAll_56 rfl (lv_at hl 0 rfl) ?_
      have g := gbind h
      clear h
      obtain ⟨v39, e40, h⟩ := g
      refine g_getR hF hM fdX4 e40 (by decide) rfl u176 dX4_putAll_57 ?_
      have g := gbind h
      clear h
      obtain ⟨v41, e42, h⟩ := g
      refine g_getI hF hM fdX3 e42 (by decide) rfl u110 dX4_putAll_60 ?_
      refine lv_icmp_ge (tgt := 106) hx hb dX4_putAll_63 (by decide) (fun c43 => ?_) (fun c43 => ?_)
      · replace h := (if_pos c43).symm.trans h
        refine g_aload_n hx hb dX4_putAll_106 rfl (lv_at hl 0 rfl) ?_
        refine g_aload hx hb dX4_putAll_107 (lv_at hl 2 rfl) ?_
        refine g_aload_n hx hb dX4_putAll_109 rfl (lv_at hl 0 rfl) ?_
        have g := gbind h
        clear h
        obtain ⟨v44, e45, h⟩ := g
        refine g_getR hF hM fdX4 e45 (by decide) rfl u176 dX4_putAll_110 ?_
        have g := gbind h
        clear h
        obtain ⟨v46, e47, h⟩ := g
        refine g_getI hF hM fdX3 e47 (by decide) rfl u110 dX4_putAll_113 ?_
        have g := gckE h
        clear h
        obtain ⟨t48, h⟩ := g
        have t48 := eq_of_beq t48
        have g := gbind h
        clear h
        obtain ⟨S50, e49, h⟩ := g
        refine g_callV (As := [va_rf x4, .int v46]) (rest := []) hF hM (c_X4_settle e49) k_X4_settle u772 u774 u18 rfl rfl t48 rfl hl.1 rfl (Nat.le_of_ble_eq_true rfl) dX4_putAll_116 ⟨(Nat.le_of_ble_eq_true rfl), (Nat.le_of_ble_eq_true rfl)⟩ ⟨(Nat.le_of_ble_eq_true rfl), (Nat.le_of_ble_eq_true rfl)⟩ (fun H locs hM => ?_)
        refine g_aload hx hb dX4_putAll_119 (lv_at hl 2 rfl) ?_
        have g := gbind h
        clear h
        obtain ⟨a51, e52, h⟩ := g
        have t53 := (gtk_of e52).2
        rw [(gtk_of e52).1]
        have g := gbind h
        clear h
        obtain ⟨v55, e54, h⟩ := g
        refine g_callV (As := []) (rest := []) hF hM (c_X1_count e54) k_X1_count u195 u196 u197 rfl rfl t53 rfl hl.1 rfl (Nat.le_of_ble_eq_true rfl) dX4_putAll_121 ⟨(Nat.le_of_ble_eq_true rfl), (Nat.le_of_ble_eq_true rfl)⟩ ⟨(Nat.le_of_ble_eq_true rfl), (Nat.le_of_ble_eq_true rfl)⟩ (fun H locs hM => ?_)
        obtain ⟨q1, q2⟩ := Prod.mk.inj (Sum.inl.inj (Option.some.inj h))
        rw [← q1, ← q2]
        exact g_iret hF hM rfl rfl dX4_putAll_124 (Nat.le_of_ble_eq_true rfl) (Nat.le_of_ble_eq_true rfl)
      · replace h := (if_neg c43).symm.trans h
        refine g_aload hx hb dX4_putAll_66 (lv_at hl 3 rfl) ?_
        refine g_aload hx hb dX4_putAll_68 (lv_at hl 2 rfl) ?_
        have g := gbind h
        clear h
        obtain ⟨a56, e57, h⟩ := g
        have t58 := (gtk_of e57).2
        rw [(gtk_of e57).1]
        have g := gbind h
        clear h
        obtain ⟨v60, e59, h⟩ := g
        refine g_callV (As := []) (rest := [va_rf x6]) hF hM (c_X1_first e59) k_X1_first u553 u214 u215 rfl rfl t58 rfl hl.1 rfl (by simp [rf_cat, ic_cat, lc_cat]) dX4_putAll_70 ⟨(Nat.le_of_ble_eq_true rfl), (Nat.le_of_ble_eq_true rfl)⟩ ⟨(Nat.le_of_ble_eq_true rfl), (Nat.le_of_ble_eq_true rfl)⟩ (fun H locs hM => ?_)
        refine lv_iload_n hx hb dX4_putAll_73 rfl (lv_at hl 1 rfl) ?_
        refine lv_iadd hx hb dX4_putAll_74 ?_
        refine lv_iload hx hb dX4_putAll_75 (lv_at hl 4 rfl) ?_
        refine lv_iadd hx hb dX4_putAll_77 ?_
        refine lv_iconst (v := 0) hx hb dX4_putAll_78 (by decide) ?_
        refine g_aload_n hx hb dX4_putAll_79 rfl (lv_at hl 0 rfl) ?_
        have g := gbind h
        clear h
        obtain ⟨v61, e62, h⟩ := g
        refine g_getR hF hM fdX4 e62 (by decide) rfl u176 dX4_putAll_80 ?_
        refine lv_iload hx hb dX4_putAll_83 (lv_at hl 4 rfl) ?_
        have g := gbind h
        clear h
        obtain ⟨a63, e64, h⟩ := g
        have t65 := (gtk_of e64).2
        rw [(gtk_of e64).1]
        have g := gbind h
        clear h
        obtain ⟨v67, e66, h⟩ := g
        refine g_callV (As := [.int x7]) (rest := [.int 0, .int ((v60 + x2) + x7), va_rf x6]) hF hM (c_X3_keyIn e66) k_X3_keyIn u848 u230 u231 rfl rfl t65 rfl hl.1 rfl (by simp [rf_cat, ic_cat, lc_cat]) dX4_putAll_85 ⟨(Nat.le_of_ble_eq_true rfl), (Nat.le_of_ble_eq_true rfl)⟩ ⟨(Nat.le_of_ble_eq_true rfl), (Nat.le_of_ble_eq_true rfl)⟩ (fun H locs hM => ?_)
        refine g_aload_n hx hb dX4_putAll_88 rfl (lv_at hl 0 rfl) ?_
        have g := gbind h
        clear h
        obtain ⟨v68, e69, h⟩ := g
        refine g_getR hF hM fdX4 e69 (by decide) rfl u176 dX4_putAll_89 ?_
        refine lv_iload hx hb dX4_putAll_92 (lv_at hl 4 rfl) ?_
        have g := gbind h
        clear h
        obtain ⟨a70, e71, h⟩ := g
        have t72 := (gtk_of e71).2
        rw [(gtk_of e71).1]
        have g := gbind h
        clear h
        obtain ⟨v74, e73, h⟩ := g
        refine g_callV (As := [.int x7]) (rest := [.int v67, .int 0, .int ((v60 + x2) + x7), va_rf x6]) hF hM (c_X3_markIn e73) k_X3_markIn u849 u238 u239 rfl rfl t72 rfl hl.1 rfl (by simp [rf_cat, ic_cat, lc_cat]) dX4_putAll_94 ⟨(Nat.le_of_ble_eq_true rfl), (Nat.le_of_ble_eq_true rfl)⟩ ⟨(Nat.le_of_ble_eq_true rfl), (Nat.le_of_ble_eq_true rfl)⟩ (fun H locs hM => ?_)
        have g := gbind h
        clear h
        obtain ⟨a75, e76, h⟩ := g
        have t77 := (gtk_of e76).2
        rw [(gtk_of e76).1]
        have g := gbind h
        clear h
        obtain ⟨S79, e78, h⟩ := g
        refine g_callV (As := [.int ((v60 + x2) + x7), .int 0, .int v67, .int v74]) (rest := []) hF hM (c_X3_insert e78) k_X3_insert u771 u280 u281 rfl rfl t77 rfl hl.1 rfl (Nat.le_of_ble_eq_true rfl) dX4_putAll_97 ⟨(Nat.le_of_ble_eq_true rfl), (Nat.le_of_ble_eq_true rfl)⟩ ⟨(Nat.le_of_ble_eq_true rfl), (Nat.le_of_ble_eq_true rfl)⟩ (fun H locs hM => ?_)
        refine lv_iinc (v := (x7 + 1)) (lv' := [(7, .int (x7 + 1)), (0, va_rf (some a0)), (2, .int x2), (4, va_rf x4), (6, va_rf x6)]) hx hb dX4_putAll_100 hl (k := 4) rfl rfl (by decide) (by simp [rf_cat, ic_cat, lc_cat]) (fun ls hl => ?_)
        refine lv_goto (tgt := 54) hx hb dX4_putAll_103 (by decide) ?_
        refine W.widen (k := 0) (n := 0) (Nat.le_of_ble_eq_true rfl) (Nat.le_of_ble_eq_true rfl) ?_
        exact ih _ _ _ _ _ h _ _ _ hM (lv_sub hl [1, 2, 3, 4, 0] rfl)
  unfold f_X4_putAll at h
  refine lv_iload_n hx hb dX4_putAll_0 rfl (lv_at hl 1 rfl) ?_
  refine lv_iload_n hx hb dX4_putAll_1 rfl (lv_at hl 3 rfl) ?_
  have g := gthE h
  clear h
  rcases g with ⟨w2, e1, h⟩ | ⟨y3, e1, z4⟩
  · refine g_callS (As := [.int x1, .int x3]) (rest := []) hF hM (c_X4_needSlots e1) k_X4_needSlots u844 u845 rfl hl.1 rfl (Nat.le_of_ble_eq_true rfl) dX4_putAll_2 ⟨(Nat.le_of_ble_eq_true rfl), (Nat.le_of_ble_eq_true rfl)⟩ ⟨(Nat.le_of_ble_eq_true rfl), (Nat.le_of_ble_eq_true rfl)⟩ (fun H locs hM => ?_)
    refine g_aload_n hx hb dX4_putAll_5 rfl (lv_at hl 0 rfl) ?_
    refine lv_iload_n hx hb dX4_putAll_6 rfl (lv_at hl 1 rfl) ?_
    have g := gckE h
    clear h
    obtain ⟨t5, h⟩ := g
    have t5 := eq_of_beq t5
    have g := gthE h
    clear h
    rcases g with ⟨v7, e6, h⟩ | ⟨y8, e6, z9⟩
    · refine g_callV (As := [.int x1]) (rest := []) hF hM (c_X4_needList e6) k_X4_needList u692 u694 u17 rfl rfl t5 rfl hl.1 rfl (Nat.le_of_ble_eq_true rfl) dX4_putAll_7 ⟨(Nat.le_of_ble_eq_true rfl), (Nat.le_of_ble_eq_true rfl)⟩ ⟨(Nat.le_of_ble_eq_true rfl), (Nat.le_of_ble_eq_true rfl)⟩ (fun H locs hM => ?_)
      refine g_astore (i := 4) (lv' := [(0, va_rf (some a0)), (1, .int x1), (2, .int x2), (3, .int x3)]) hx hb dX4_putAll_10 hl (by decide) (fun v => rfl) (fun ls hl => ?_)
      refine g_aload_n hx hb dX4_putAll_12 rfl (lv_at hl 1 rfl) ?_
      refine lv_iload_n hx hb dX4_putAll_13 rfl (lv_at hl 4 rfl) ?_
      have g := gckE h
      clear h
      obtain ⟨t10, h⟩ := g
      have t10 := eq_of_beq t10
      have g := gthE h
      clear h
      rcases g with ⟨v12, e11, h⟩ | ⟨y13, e11, z14⟩
      · refine g_callV (As := [.int x3]) (rest := []) hF hM (c_X4_needRow e11) k_X4_needRow u807 u809 u20 rfl rfl t10 rfl hl.1 rfl (Nat.le_of_ble_eq_true rfl) dX4_putAll_14 ⟨(Nat.le_of_ble_eq_true rfl), (Nat.le_of_ble_eq_true rfl)⟩ ⟨(Nat.le_of_ble_eq_true rfl), (Nat.le_of_ble_eq_true rfl)⟩ (fun H locs hM => ?_)
        refine g_astore (i := 5) (lv' := [(4, va_rf v7), (0, va_rf (some a0)), (1, .int x1), (2, .int x2), (3, .int x3)]) hx hb dX4_putAll_17 hl (by decide) (fun v => by simp [rf_cat, ic_cat, lc_cat]) (fun ls hl => ?_)
        refine g_aload hx hb dX4_putAll_19 (lv_at hl 1 rfl) ?_
        have g := gthE h
        clear h
        rcases g with ⟨v16, e15, h⟩ | ⟨y17, e15, z18⟩
        · refine g_callS (As := [va_rf v7]) (rest := []) hF hM (c_X4_openStore e15) k_X4_openStore u732 u733 rfl hl.1 rfl (Nat.le_of_ble_eq_true rfl) dX4_putAll_21 ⟨(Nat.le_of_ble_eq_true rfl), (Nat.le_of_ble_eq_true rfl)⟩ ⟨(Nat.le_of_ble_eq_true rfl), (Nat.le_of_ble_eq_true rfl)⟩ (fun H locs hM => ?_)
          refine g_astore (i := 6) (lv' := [(5, va_rf v12), (4, va_rf v7), (0, va_rf (some a0)), (1, .int x1), (2, .int x2), (3, .int x3)]) hx hb dX4_putAll_24 hl (by decide) (fun v => by simp [rf_cat, ic_cat, lc_cat]) (fun ls hl => ?_)
          refine g_aload hx hb dX4_putAll_26 (lv_at hl 2 rfl) ?_
          refine lv_iload_n hx hb dX4_putAll_28 rfl (lv_at hl 5 rfl) ?_
          have g := gthE h
          clear h
          rcases g with ⟨w20, e19, h⟩ | ⟨y21, e19, z22⟩
          · refine g_callS (As := [va_rf v7, .int x2]) (rest := []) hF hM (c_X4_needPlaceToPut e19) k_X4_needPlaceToPut u750 u751 rfl hl.1 rfl (Nat.le_of_ble_eq_true rfl) dX4_putAll_29 ⟨(Nat.le_of_ble_eq_true rfl), (Nat.le_of_ble_eq_true rfl)⟩ ⟨(Nat.le_of_ble_eq_true rfl), (Nat.le_of_ble_eq_true rfl)⟩ (fun H locs hM => ?_)
            refine g_aload hx hb dX4_putAll_32 (lv_at hl 0 rfl) ?_
            refine g_aload hx hb dX4_putAll_34 (lv_at hl 1 rfl) ?_
            have g := gbind h
            clear h
            obtain ⟨a23, e24, h⟩ := g
            have t25 := (gtk_of e24).2
            rw [(gtk_of e24).1]
            have g := gbind h
            clear h
            obtain ⟨v27, e26, h⟩ := g
            refine g_callV (As := []) (rest := [va_rf v16]) hF hM (c_X1_count e26) k_X1_count u195 u196 u197 rfl rfl t25 rfl hl.1 rfl (by simp [rf_cat, ic_cat, lc_cat]) dX4_putAll_36 ⟨(Nat.le_of_ble_eq_true rfl), (Nat.le_of_ble_eq_true rfl)⟩ ⟨(Nat.le_of_ble_eq_true rfl), (Nat.le_of_ble_eq_true rfl)⟩ (fun H locs hM => ?_)
            have g := gthE h
            clear h
            rcases g with ⟨w29, e28, h⟩ | ⟨y30, e28, z31⟩
            · refine g_callS (As := [va_rf v16, .int v27]) (rest := []) hF hM (c_X4_needRoom e28) k_X4_needRoom u753 u754 rfl hl.1 rfl (Nat.le_of_ble_eq_true rfl) dX4_putAll_39 ⟨(Nat.le_of_ble_eq_true rfl), (Nat.le_of_ble_eq_true rfl)⟩ ⟨(Nat.le_of_ble_eq_true rfl), (Nat.le_of_ble_eq_true rfl)⟩ (fun H locs hM => ?_)
              refine g_aload_n hx hb dX4_putAll_42 rfl (lv_at hl 3 rfl) ?_
              have g := gbind h
              clear h
              obtain ⟨v32, e33, h⟩ := g
              refine g_getR hF hM fdX4 e33 (by decide) rfl u176 dX4_putAll_43 ?_
              refine g_aload hx hb dX4_putAll_46 (lv_at hl 1 rfl) ?_
              have g := gbind h
              clear h
              obtain ⟨a34, e35, h⟩ := g
              have t36 := (gtk_of e35).2
              rw [(gtk_of e35).1]
              have g := gbind h
              clear h
              obtain ⟨S38, e37, h⟩ := g
              refine g_callV (As := [va_rf v12]) (rest := []) hF hM (c_X3_copyThings e37) k_X3_copyThings u847 u273 u274 rfl rfl t36 rfl hl.1 rfl (Nat.le_of_ble_eq_true rfl) dX4_putAll_48 ⟨(Nat.le_of_ble_eq_true rfl), (Nat.le_of_ble_eq_true rfl)⟩ ⟨(Nat.le_of_ble_eq_true rfl), (Nat.le_of_ble_eq_true rfl)⟩ (fun H locs hM => ?_)
              refine lv_iconst (v := 0) hx hb dX4_putAll_51 (by decide) ?_
              refine lv_istore (i := 7) (lv' := [(7, .int 0), (6, va_rf v16), (5, va_rf v12), (4, va_rf v7), (0, va_rf (some a0)), (1, .int x1), (2, .int x2), (3, .int x3)]) hx hb dX4_putAll_52 hl (by decide) (by simp [rf_cat, ic_cat, lc_cat]) (fun ls hl => ?_)
              refine W.widen (k := 0) (n := 0) (Nat.le_of_ble_eq_true rfl) (Nat.le_of_ble_eq_true rfl) ?_
              exact JL54 gN _ _ _ _ _ h _ _ _ hM (lv_sub hl [4, 6, 3, 1, 0] rfl)
            · exact nomatch z31
          · exact nomatch z22
        · exact nomatch z18
      · exact nomatch z14
    · exact nomatch z9
  · exact nomatch z4
abbrev rmx_X4_putAll : Room := { frames := 8, cells := 1, slots := 6, locals := 132 }
set_option maxHeartbeats 4000000 in
set_option maxRecDepth 100000 in
theorem cx_X4_putAll {l : Launch} {D : va_G} {Y : Nat → ClassId} {S : GS} {hs : Nat} {a0 : Nat} {x1 : Int32} {x2 : Int32} {x3 : Int32} {x : Nat} (hfl : l.stackTraces = false) (h : f_X4_putAll S a0 x1 x2 x3 = some (.inr x)) : gMx l yX4_putAll (gWs yX4_putAll cX4_putAll 8 (some .int)) rmx_X4_putAll [va_rf (some a0), .int x1, .int x2, .int x3] D Y S hs (.inr x) := by
  refine g_ofWx (by decide +kernel) (Or.inl ⟨(Nat.le_of_ble_eq_true rfl), (List.forall_mem_cons.mpr ⟨rf_cat _, (List.forall_mem_cons.mpr ⟨rfl, (List.forall_mem_cons.mpr ⟨rfl, (List.forall_mem_cons.mpr ⟨rfl, (fun _ h => absurd h List.not_mem_nil)⟩)⟩)⟩)⟩)⟩) ?_
  intro p e s m args below meth c ls hsz hout hF hM hl
  have hl : lv_has ls 8 [(0, va_rf (some a0)), (1, .int x1), (2, .int x2), (3, .int x3)] := by rw [g_args [va_rf (some a0), .int x1, .int x2, .int x3] 0 (List.forall_mem_cons.mpr ⟨rf_cat _, (List.forall_mem_cons.mpr ⟨rfl, (List.forall_mem_cons.mpr ⟨rfl, (List.forall_mem_cons.mpr ⟨rfl, (fun _ h => absurd h List.not_mem_nil)⟩)⟩)⟩)⟩)] at hl; exact hl
  have hF : gF p s m args meth c RX4 cX4_putAll 8 (some .int) D Y (gA S hs) := hF
  have hx := hF.1
  have hb := hF.2.1
  have JL54 : ∀ (n : Nat) (T54 : GS) (x2 : Int32) (x4 : Option Nat) (x6 : Option Nat) (x7 : Int32), f_X4_putAll_L54 a0 n T54 x2 x4 x6 x7 = some (.inr x) → ∀ (H : Heap) (locs : List Loc) (ls : Array Slot), gM D Y (gA S hs) s.heap T54 hs H locs → lv_has ls 8 [(0, va_rf (some a0)), (2, .int x2), (4, va_rf x4), (6, va_rf x6), (7, .int x7)] → W p l e rmx_X4_putAll s m args below meth c H locs 0 0 (vx_MQ below (gQz (.inr x) D Y (gA S hs)) (gXz (.inr x) D Y S (gA S hs)) args s rmx_X4_putAll.cells rmx_X4_putAll.slots (gA S hs)) (F0 m 54 ls []) := by
    intro n
    induction n with
    | zero => intro T54 x2 x4 x6 x7 h; unfold f_X4_putAll_L54 at h; exact nomatch h
    | succ n ih =>
      intro T54 x2 x4 x6 x7 h H locs ls hM hl
      unfold f_X4_putAll_L54 at h
      refine lv_iload hx hb dX4_putAll_54 (lv_at hl 4 rfl) ?_
      refine g_aload_n hx hb dX4_putAll_56 rfl (lv_at hl 0 rfl) ?_
      have g := gbind h
      clear h
      obtain ⟨v39, e40, h⟩ := g
      refine g_getR hF hM fdX4 e40 (by decide) rfl u176 dX4_putAll_57 ?_
      have g := gbind h
      clear h
      obtain ⟨v41, e42, h⟩ := g
      refine g_getI hF hM fdX3 e42 (by decide) rfl u110 dX4_putAll_60 ?_
      refine lv_icmp_ge (tgt := 106) hx hb dX4_putAll_63 (by decide) (fun c43 => ?_) (fun c43 => ?_)
      · replace h := (if_pos c43).symm.trans h
        refine g_aload_n hx hb dX4_putAll_106 rfl (lv_at hl 0 rfl) ?_
        refine g_aload hx hb dX4_putAll_107 (lv_at hl 2 rfl) ?_
        refine g_aload_n hx hb dX4_putAll_109 rfl (lv_at hl 0 rfl) ?_
        have g := gbind h
        clear h
        obtain ⟨v44, e45, h⟩ := g
        refine g_getR hF hM fdX4 e45 (by decide) rfl u176 dX4_putAll_110 ?_
        have g := gbind h
        clear h
        obtain ⟨v46, e47, h⟩ := g
        refine g_getI hF hM fdX3 e47 (by decide) rfl u110 dX4_putAll_113 ?_
        have g := gckE h
        clear h
        obtain ⟨t48, h⟩ := g
        have t48 := eq_of_beq t48
        have g := gbind h
        clear h
        obtain ⟨S50, e49, h⟩ := g
        refine g_callV (As := [va_rf x4, .int v46]) (rest := []) hF hM (c_X4_settle e49) k_X4_settle u772 u774 u18 rfl rfl t48 rfl hl.1 rfl (Nat.le_of_ble_eq_true rfl) dX4_putAll_116 ⟨(Nat.le_of_ble_eq_true rfl), (Nat.le_of_ble_eq_true rfl)⟩ ⟨(Nat.le_of_ble_eq_true rfl), (Nat.le_of_ble_eq_true rfl)⟩ (fun H locs hM => ?_)
        refine g_aload hx hb dX4_putAll_119 (lv_at hl 2 rfl) ?_
        have g := gbind h
        clear h
        obtain ⟨a51, e52, h⟩ := g
        have t53 := (gtk_of e52).2
        rw [(gtk_of e52).1]
        have g := gbind h
        clear h
        obtain ⟨v55, e54, h⟩ := g
        refine g_callV (As := []) (rest := []) hF hM (c_X1_count e54) k_X1_count u195 u196 u197 rfl rfl t53 rfl hl.1 rfl (Nat.le_of_ble_eq_true rfl) dX4_putAll_121 ⟨(Nat.le_of_ble_eq_true rfl), (Nat.le_of_ble_eq_true rfl)⟩ ⟨(Nat.le_of_ble_eq_true rfl), (Nat.le_of_ble_eq_true rfl)⟩ (fun H locs hM => ?_)
        exact nomatch (Option.some.inj h)
      · replace h := (if_neg c43).symm.trans h
        refine g_aload hx hb dX4_putAll_66 (lv_at hl 3 rfl) ?_
        refine g_aload hx hb dX4_putAll_68 (lv_at hl 2 rfl) ?_
        have g := gbind h
        clear h
        obtain ⟨a56, e57, h⟩ := g
        have t58 := (gtk_of e57).2
        rw [(gtk_of e57).1]
        have g := gbind h
        clear h
        obtain ⟨v60, e59, h⟩ := g
        refine g_callV (As := []) (rest := [va_rf x6]) hF hM (c_X1_first e59) k_X1_first u553 u214 u215 rfl rfl t58 rfl hl.1 rfl (by simp [rf_cat, ic_cat, lc_cat]) dX4_putAll_70 ⟨(Nat.le_of_ble_eq_true rfl), (Nat.le_of_ble_eq_true rfl)⟩ ⟨(Nat.le_of_ble_eq_true rfl), (Nat.le_of_ble_eq_true rfl)⟩ (fun H locs hM => ?_)
        refine lv_iload_n hx hb dX4_putAll_73 rfl (lv_at hl 1 rfl) ?_
        refine lv_iadd hx hb dX4_putAll_74 ?_
        refine lv_iload hx hb dX4_putAll_75 (lv_at hl 4 rfl) ?_
        refine lv_iadd hx hb dX4_putAll_77 ?_
        refine lv_iconst (v := 0) hx hb dX4_putAll_78 (by decide) ?_
        refine g_aload_n hx hb dX4_putAll_79 rfl (lv_at hl 0 rfl) ?_
        have g := gbind h
        clear h
        obtain ⟨v61, e62, h⟩ := g
        refine g_getR hF hM fdX4 e62 (by decide) rfl u176 dX4_putAll_80 ?_
        refine lv_iload hx hb dX4_putAll_83 (lv_at hl 4 rfl) ?_
        have g := gbind h
        clear h
        obtain ⟨a63, e64, h⟩ := g
        have t65 := (gtk_of e64).2
        rw [(gtk_of e64).1]
        have g := gbind h
        clear h
        obtain ⟨v67, e66, h⟩ := g
        refine g_callV (As := [.int x7]) (rest := [.int 0, .int ((v60 + x2) + x7), va_rf x6]) hF hM (c_X3_keyIn e66) k_X3_keyIn u848 u230 u231 rfl rfl t65 rfl hl.1 rfl (by simp [rf_cat, ic_cat, lc_cat]) dX4_putAll_85 ⟨(Nat.le_of_ble_eq_true rfl), (Nat.le_of_ble_eq_true rfl)⟩ ⟨(Nat.le_of_ble_eq_true rfl), (Nat.le_of_ble_eq_true rfl)⟩ (fun H locs hM => ?_)
        refine g_aload_n hx hb dX4_putAll_88 rfl (lv_at hl 0 rfl) ?_
        have g := gbind h
        clear h
        obtain ⟨v68, e69, h⟩ := g
        refine g_getR hF hM fdX4 e69 (by decide) rfl u176 dX4_putAll_89 ?_
        refine lv_iload hx hb dX4_putAll_92 (lv_at hl 4 rfl) ?_
        have g := gbind h
        clear h
        obtain ⟨a70, e71, h⟩ := g
        have t72 := (gtk_of e71).2
        rw [(gtk_of e71).1]
        have g := gbind h
        clear h
        obtain ⟨v74, e73, h⟩ := g
        refine g_callV (As := [.int x7]) (rest := [.int v67, .int 0, .int ((v60 + x2) + x7), va_rf x6]) hF hM (c_X3_markIn e73) k_X3_markIn u849 u238 u239 rfl rfl t72 rfl hl.1 rfl (by simp [rf_cat, ic_cat, lc_cat]) dX4_putAll_94 ⟨(Nat.le_of_ble_eq_true rfl), (Nat.le_of_ble_eq_true rfl)⟩ ⟨(Nat.le_of_ble_eq_true rfl), (Nat.le_of_ble_eq_true rfl)⟩ (fun H locs hM => ?_)
        have g := gbind h
        clear h
        obtain ⟨a75, e76, h⟩ := g
        have t77 := (gtk_of e76).2
        rw [(gtk_of e76).1]
        have g := gbind h
        clear h
        obtain ⟨S79, e78, h⟩ := g
        refine g_callV (As := [.int ((v60 + x2) + x7), .int 0, .int v67, .int v74]) (rest := []) hF hM (c_X3_insert e78) k_X3_insert u771 u280 u281 rfl rfl t77 rfl hl.1 rfl (Nat.le_of_ble_eq_true rfl) dX4_putAll_97 ⟨(Nat.le_of_ble_eq_true rfl), (Nat.le_of_ble_eq_true rfl)⟩ ⟨(Nat.le_of_ble_eq_true rfl), (Nat.le_of_ble_eq_true rfl)⟩ (fun H locs hM => ?_)
        refine lv_iinc (v := (x7 + 1)) (lv' := [(7, .int (x7 + 1)), (0, va_rf (some a0)), (2, .int x2), (4, va_rf x4), (6, va_rf x6)]) hx hb dX4_putAll_100 hl (k := 4) rfl rfl (by decide) (by simp [rf_cat, ic_cat, lc_cat]) (fun ls hl => ?_)
        refine lv_goto (tgt := 54) hx hb dX4_putAll_103 (by decide) ?_
        refine W.widen (k := 0) (n := 0) (Nat.le_of_ble_eq_true rfl) (Nat.le_of_ble_eq_true rfl) ?_
        exact ih _ _ _ _ _ h _ _ _ hM (lv_sub hl [1, 2, 3, 4, 0] rfl)
  unfold f_X4_putAll at h
  refine lv_iload_n hx hb dX4_putAll_0 rfl (lv_at hl 1 rfl) ?_
  refine lv_iload_n hx hb dX4_putAll_1 rfl (lv_at hl 3 rfl) ?_
  have g := gthE h
  clear h
  rcases g with ⟨w2, e1, h⟩ | ⟨y3, e1, z4⟩
  · refine g_callS (As := [.int x1, .int x3]) (rest := []) hF hM (c_X4_needSlots e1) k_X4_needSlots u844 u845 rfl hl.1 rfl (Nat.le_of_ble_eq_true rfl) dX4_putAll_2 ⟨(Nat.le_of_ble_eq_true rfl), (Nat.le_of_ble_eq_true rfl)⟩ ⟨(Nat.le_of_ble_eq_true rfl), (Nat.le_of_ble_eq_true rfl)⟩ (fun H locs hM => ?_)
    refine g_aload_n hx hb dX4_putAll_5 rfl (lv_at hl 0 rfl) ?_
    refine lv_iload_n hx hb dX4_putAll_6 rfl (lv_at hl 1 rfl) ?_
    have g := gckE h
    clear h
    obtain ⟨t5, h⟩ := g
    have t5 := eq_of_beq t5
    have g := gthE h
    clear h
    rcases g with ⟨v7, e6, h⟩ | ⟨y8, e6, z9⟩
    · refine g_callV (As := [.int x1]) (rest := []) hF hM (c_X4_needList e6) k_X4_needList u692 u694 u17 rfl rfl t5 rfl hl.1 rfl (Nat.le_of_ble_eq_true rfl) dX4_putAll_7 ⟨(Nat.le_of_ble_eq_true rfl), (Nat.le_of_ble_eq_true rfl)⟩ ⟨(Nat.le_of_ble_eq_true rfl), (Nat.le_of_ble_eq_true rfl)⟩ (fun H locs hM => ?_)
      refine g_astore (i := 4) (lv' := [(0, va_rf (some a0)), (1, .int x1), (2, .int x2), (3, .int x3)]) hx hb dX4_putAll_10 hl (by decide) (fun v => rfl) (fun ls hl => ?_)
      refine g_aload_n hx hb dX4_putAll_12 rfl (lv_at hl 1 rfl) ?_
      refine lv_iload_n hx hb dX4_putAll_13 rfl (lv_at hl 4 rfl) ?_
      have g := gckE h
      clear h
      obtain ⟨t10, h⟩ := g
      have t10 := eq_of_beq t10
      have g := gthE h
      clear h
      rcases g with ⟨v12, e11, h⟩ | ⟨y13, e11, z14⟩
      · refine g_callV (As := [.int x3]) (rest := []) hF hM (c_X4_needRow e11) k_X4_needRow u807 u809 u20 rfl rfl t10 rfl hl.1 rfl (Nat.le_of_ble_eq_true rfl) dX4_putAll_14 ⟨(Nat.le_of_ble_eq_true rfl), (Nat.le_of_ble_eq_true rfl)⟩ ⟨(Nat.le_of_ble_eq_true rfl), (Nat.le_of_ble_eq_true rfl)⟩ (fun H locs hM => ?_)
        refine g_astore (i := 5) (lv' := [(4, va_rf v7), (0, va_rf (some a0)), (1, .int x1), (2, .int x2), (3, .int x3)]) hx hb dX4_putAll_17 hl (by decide) (fun v => by simp [rf_cat, ic_cat, lc_cat]) (fun ls hl => ?_)
        refine g_aload hx hb dX4_putAll_19 (lv_at hl 1 rfl) ?_
        have g := gthE h
        clear h
        rcases g with ⟨v16, e15, h⟩ | ⟨y17, e15, z18⟩
        · refine g_callS (As := [va_rf v7]) (rest := []) hF hM (c_X4_openStore e15) k_X4_openStore u732 u733 rfl hl.1 rfl (Nat.le_of_ble_eq_true rfl) dX4_putAll_21 ⟨(Nat.le_of_ble_eq_true rfl), (Nat.le_of_ble_eq_true rfl)⟩ ⟨(Nat.le_of_ble_eq_true rfl), (Nat.le_of_ble_eq_true rfl)⟩ (fun H locs hM => ?_)
          refine g_astore (i := 6) (lv' := [(5, va_rf v12), (4, va_rf v7), (0, va_rf (some a0)), (1, .int x1), (2, .int x2), (3, .int x3)]) hx hb dX4_putAll_24 hl (by decide) (fun v => by simp [rf_cat, ic_cat, lc_cat]) (fun ls hl => ?_)
          refine g_aload hx hb dX4_putAll_26 (lv_at hl 2 rfl) ?_
          refine lv_iload_n hx hb dX4_putAll_28 rfl (lv_at hl 5 rfl) ?_
          have g := gthE h
          clear h
          rcases g with ⟨w20, e19, h⟩ | ⟨y21, e19, z22⟩
          · refine g_callS (As := [va_rf v7, .int x2]) (rest := []) hF hM (c_X4_needPlaceToPut e19) k_X4_needPlaceToPut u750 u751 rfl hl.1 rfl (Nat.le_of_ble_eq_true rfl) dX4_putAll_29 ⟨(Nat.le_of_ble_eq_true rfl), (Nat.le_of_ble_eq_true rfl)⟩ ⟨(Nat.le_of_ble_eq_true rfl), (Nat.le_of_ble_eq_true rfl)⟩ (fun H locs hM => ?_)
            refine g_aload hx hb dX4_putAll_32 (lv_at hl 0 rfl) ?_
            refine g_aload hx hb dX4_putAll_34 (lv_at hl 1 rfl) ?_
            have g := gbind h
            clear h
            obtain ⟨a23, e24, h⟩ := g
            have t25 := (gtk_of e24).2
            rw [(gtk_of e24).1]
            have g := gbind h
            clear h
            obtain ⟨v27, e26, h⟩ := g
            refine g_callV (As := []) (rest := [va_rf v16]) hF hM (c_X1_count e26) k_X1_count u195 u196 u197 rfl rfl t25 rfl hl.1 rfl (by simp [rf_cat, ic_cat, lc_cat]) dX4_putAll_36 ⟨(Nat.le_of_ble_eq_true rfl), (Nat.le_of_ble_eq_true rfl)⟩ ⟨(Nat.le_of_ble_eq_true rfl), (Nat.le_of_ble_eq_true rfl)⟩ (fun H locs hM => ?_)
            have g := gthE h
            clear h
            rcases g with ⟨w29, e28, h⟩ | ⟨y30, e28, z31⟩
            · refine g_callS (As := [va_rf v16, .int v27]) (rest := []) hF hM (c_X4_needRoom e28) k_X4_needRoom u753 u754 rfl hl.1 rfl (Nat.le_of_ble_eq_true rfl) dX4_putAll_39 ⟨(Nat.le_of_ble_eq_true rfl), (Nat.le_of_ble_eq_true rfl)⟩ ⟨(Nat.le_of_ble_eq_true rfl), (Nat.le_of_ble_eq_true rfl)⟩ (fun H locs hM => ?_)
              refine g_aload_n hx hb dX4_putAll_42 rfl (lv_at hl 3 rfl) ?_
              have g := gbind h
              clear h
              obtain ⟨v32, e33, h⟩ := g
              refine g_getR hF hM fdX4 e33 (by decide) rfl u176 dX4_putAll_43 ?_
              refine g_aload hx hb dX4_putAll_46 (lv_at hl 1 rfl) ?_
              have g := gbind h
              clear h
              obtain ⟨a34, e35, h⟩ := g
              have t36 := (gtk_of e35).2
              rw [(gtk_of e35).1]
              have g := gbind h
              clear h
              obtain ⟨S38, e37, h⟩ := g
              refine g_callV (As := [va_rf v12]) (rest := []) hF hM (c_X3_copyThings e37) k_X3_copyThings u847 u273 u274 rfl rfl t36 rfl hl.1 rfl (Nat.le_of_ble_eq_true rfl) dX4_putAll_48 ⟨(Nat.le_of_ble_eq_true rfl), (Nat.le_of_ble_eq_true rfl)⟩ ⟨(Nat.le_of_ble_eq_true rfl), (Nat.le_of_ble_eq_true rfl)⟩ (fun H locs hM => ?_)
              refine lv_iconst (v := 0) hx hb dX4_putAll_51 (by decide) ?_
              refine lv_istore (i := 7) (lv' := [(7, .int 0), (6, va_rf v16), (5, va_rf v12), (4, va_rf v7), (0, va_rf (some a0)), (1, .int x1), (2, .int x2), (3, .int x3)]) hx hb dX4_putAll_52 hl (by decide) (by simp [rf_cat, ic_cat, lc_cat]) (fun ls hl => ?_)
              refine W.widen (k := 0) (n := 0) (Nat.le_of_ble_eq_true rfl) (Nat.le_of_ble_eq_true rfl) ?_
              exact JL54 gN _ _ _ _ _ h _ _ _ hM (lv_sub hl [4, 6, 3, 1, 0] rfl)
            · exact g_callSt (As := [va_rf v16, .int v27]) (rest := []) hF hM hout (cx_X4_needRoom hfl e28) k_X4_needRoom u753 u754 rfl hl.1 rfl (Nat.le_of_ble_eq_true rfl) dX4_putAll_39 ⟨(Nat.le_of_ble_eq_true rfl), (Nat.le_of_ble_eq_true rfl)⟩ ⟨(Nat.le_of_ble_eq_true rfl), (Nat.le_of_ble_eq_true rfl)⟩ (Nat.le_of_ble_eq_true rfl) (Nat.le_of_ble_eq_true rfl) (congrArg Sum.inr (Sum.inr.inj z31))
          · exact g_callSt (As := [va_rf v7, .int x2]) (rest := []) hF hM hout (cx_X4_needPlaceToPut hfl e19) k_X4_needPlaceToPut u750 u751 rfl hl.1 rfl (Nat.le_of_ble_eq_true rfl) dX4_putAll_29 ⟨(Nat.le_of_ble_eq_true rfl), (Nat.le_of_ble_eq_true rfl)⟩ ⟨(Nat.le_of_ble_eq_true rfl), (Nat.le_of_ble_eq_true rfl)⟩ (Nat.le_of_ble_eq_true rfl) (Nat.le_of_ble_eq_true rfl) (congrArg Sum.inr (Sum.inr.inj z22))
        · exact g_callSt (As := [va_rf v7]) (rest := []) hF hM hout (cx_X4_openStore hfl e15) k_X4_openStore u732 u733 rfl hl.1 rfl (Nat.le_of_ble_eq_true rfl) dX4_putAll_21 ⟨(Nat.le_of_ble_eq_true rfl), (Nat.le_of_ble_eq_true rfl)⟩ ⟨(Nat.le_of_ble_eq_true rfl), (Nat.le_of_ble_eq_true rfl)⟩ (Nat.le_of_ble_eq_true rfl) (Nat.le_of_ble_eq_true rfl) (congrArg Sum.inr (Sum.inr.inj z18))
      · exact g_callVt (As := [.int x3]) (rest := []) hF hM hout (cx_X4_needRow hfl e11) k_X4_needRow u807 u809 u20 rfl rfl t10 rfl hl.1 rfl (Nat.le_of_ble_eq_true rfl) dX4_putAll_14 ⟨(Nat.le_of_ble_eq_true rfl), (Nat.le_of_ble_eq_true rfl)⟩ ⟨(Nat.le_of_ble_eq_true rfl), (Nat.le_of_ble_eq_true rfl)⟩ (Nat.le_of_ble_eq_true rfl) (Nat.le_of_ble_eq_true rfl) (congrArg Sum.inr (Sum.inr.inj z14))
    · exact g_callVt (As := [.int x1]) (rest := []) hF hM hout (cx_X4_needList hfl e6) k_X4_needList u692 u694 u17 rfl rfl t5 rfl hl.1 rfl (Nat.le_of_ble_eq_true rfl) dX4_putAll_7 ⟨(Nat.le_of_ble_eq_true rfl), (Nat.le_of_ble_eq_true rfl)⟩ ⟨(Nat.le_of_ble_eq_true rfl), (Nat.le_of_ble_eq_true rfl)⟩ (Nat.le_of_ble_eq_true rfl) (Nat.le_of_ble_eq_true rfl) (congrArg Sum.inr (Sum.inr.inj z9))
  · exact g_callSt (As := [.int x1, .int x3]) (rest := []) hF hM hout (cx_X4_needSlots hfl e1) k_X4_needSlots u844 u845 rfl hl.1 rfl (Nat.le_of_ble_eq_true rfl) dX4_putAll_2 ⟨(Nat.le_of_ble_eq_true rfl), (Nat.le_of_ble_eq_true rfl)⟩ ⟨(Nat.le_of_ble_eq_true rfl), (Nat.le_of_ble_eq_true rfl)⟩ (Nat.le_of_ble_eq_true rfl) (Nat.le_of_ble_eq_true rfl) (congrArg Sum.inr (Sum.inr.inj z4))
abbrev rm_X4_keep : Room := { frames := 4, cells := 0, slots := 0, locals := 91 }
theorem k_X4_keep : gKc yX4_keep cX4_keep 9 (some .int) 3 := ⟨u856, u63, by decide +kernel, by decide +kernel, by decide +kernel⟩
set_option maxHeartbeats 4000000 in
set_option maxRecDepth 100000 in
theorem c_X4_keep {l : Launch} {D : va_G} {Y : Nat → ClassId} {S : GS} {hs : Nat} {a0 : Nat} {x1 : Int32} {x2 : Int32} {x3 : Int32} {r : Int32} {S' : GS} (h : f_X4_keep S a0 x1 x2 x3 = some (.inl (r, S'))) : gMet l yX4_keep (gWs yX4_keep cX4_keep 9 (some .int)) rm_X4_keep [va_rf (some a0), .int x1, .int x2, .int x3] D Y S hs (some (.int r)) S' hs := by
  refine g_ofW (by decide +kernel) (Or.inl ⟨(Nat.le_of_ble_eq_true rfl), (List.forall_mem_cons.mpr ⟨rf_cat _, (List.forall_mem_cons.mpr ⟨rfl, (List.forall_mem_cons.mpr ⟨rfl, (List.forall_mem_cons.mpr ⟨rfl, (fun _ h => absurd h List.not_mem_nil)⟩)⟩)⟩)⟩)⟩) ?_
  intro p e s m args below meth c ls hsz hname hF hM hl
  have hl : lv_has ls 9 [(0, va_rf (some a0)), (1, .int x1), (2, .int x2), (3, .int x3)] := by rw [g_args [va_rf (some a0), .int x1, .int x2, .int x3] 0 (List.forall_mem_cons.mpr ⟨rf_cat _, (List.forall_mem_cons.mpr ⟨rfl, (List.forall_mem_cons.mpr ⟨rfl, (List.forall_mem_cons.mpr ⟨rfl, (fun _ h => absurd h List.not_mem_nil)⟩)⟩)⟩)⟩)] at hl; exact hl
  have hF : gF p s m args meth c RX4 cX4_keep 9 (some .int) D Y (gA S hs) := hF
  have hx := hF.1
  have hb := hF.2.1
  have Jb83 : ∀ (k29 : GS → Int32 → Option Nat → Option Nat → Option Nat → Int32 → Option ((Int32 × GS) ⊕ Nat)) (hk29 : ∀ (T29 : GS) (x3 : Int32) (x4 : Option Nat) (x5 : Option Nat) (x6 : Option Nat) (x7 : Int32), k29 T29 x3 x4 x5 x6 x7 = some (.inl (r, S')) → ∀ (H : Heap) (locs : List Loc) (ls : Array Slot), gM D Y (gA S hs) s.heap T29 hs H locs → lv_has ls 9 [(0, va_rf (some a0)), (3, .int x3), (4, va_rf x4), (5, va_rf x5), (6, va_rf x6), (7, .int x7)] → W p l e rm_X4_keep s m args below meth c H locs 0 0 (MQ below (gQ (some (.int r)) D Y S' hs (gA S hs)) args s rm_X4_keep.cells rm_X4_keep.slots (gA S hs)) (F0 m 29 ls [])) (T83 : GS) (x3 : Int32) (x4 : Option Nat) (x5 : Option Nat) (x6 : Option Nat) (x7 : Int32) (s0 : Option Nat) (s1 : Int32) (s2 : Int32), f_X4_keep_b83 k29 a0 T83 x3 x4 x5 x6 x7 s0 s1 s2 = some (.inl (r, S')) → ∀ (H : Heap) (locs : List Loc) (ls : Array Slot), gM D Y (gA S hs) s.heap T83 hs H locs → lv_has ls 9 [(0, va_rf (some a0)), (3, .int x3), (4, va_rf x4), (5, va_rf x5), (6, va_rf x6), (7, .int x7)] → W p l e rm_X4_keep s m args below meth c H locs 0 0 (MQ below (gQ (some (.int r)) D Y S' hs (gA S hs)) args s rm_X4_keep.cells rm_X4_keep.slots (gA S hs)) (F0 m 83 ls [.int s2, .int s1, va_rf s0]) := by
    intro k29 hk29 T83 x3 x4 x5 x6 x7 s0 s1 s2 h H locs ls hM hl
    unfold f_X4_keep_b83 at h
    have g := gbind h
    clear h
    obtain ⟨a46, e47, h⟩ := g
    have t48 := (gtk_of e47).2
    rw [(gtk_of e47).1]
    have g := gbind h
    clear h
    obtain ⟨S50, e49, h⟩ := g
    refine g_callV (As := [.int s1, .int s2]) (rest := []) hF hM (c_X4_markGoing e49) k_X4_markGoing u828 u830 u21 rfl rfl t48 rfl hl.1 rfl (Nat.le_of_ble_eq_true rfl) dX4_keep_83 ⟨(Nat.le_of_ble_eq_true rfl), (Nat.le_of_ble_eq_true rfl)⟩ ⟨(Nat.le_of_ble_eq_true rfl), (Nat.le_of_ble_eq_true rfl)⟩ (fun H locs hM => ?_)
    refine lv_iinc (v := (x7 + 1)) (lv' := [(7, .int (x7 + 1)), (0, va_rf (some a0)), (3, .int x3), (4, va_rf x4), (5, va_rf x5), (6, va_rf x6)]) hx hb dX4_keep_86 hl (k := 5) rfl rfl (by decide) (by simp [rf_cat, ic_cat, lc_cat]) (fun ls hl => ?_)
    refine lv_goto (tgt := 29) hx hb dX4_keep_89 (by decide) ?_
    refine W.widen (k := 0) (n := 0) (Nat.le_of_ble_eq_true rfl) (Nat.le_of_ble_eq_true rfl) ?_
    exact hk29 _ _ _ _ _ _ h _ _ _ hM (lv_sub hl [1, 2, 3, 4, 5, 0] rfl)
  have Jb67 : ∀ (k29 : GS → Int32 → Option Nat → Option Nat → Option Nat → Int32 → Option ((Int32 × GS) ⊕ Nat)) (hk29 : ∀ (T29 : GS) (x3 : Int32) (x4 : Option Nat) (x5 : Option Nat) (x6 : Option Nat) (x7 : Int32), k29 T29 x3 x4 x5 x6 x7 = some (.inl (r, S')) → ∀ (H : Heap) (locs : List Loc) (ls : Array Slot), gM D Y (gA S hs) s.heap T29 hs H locs → lv_has ls 9 [(0, va_rf (some a0)), (3, .int x3), (4, va_rf x4), (5, va_rf x5), (6, va_rf x6), (7, .int x7)] → W p l e rm_X4_keep s m args below meth c H locs 0 0 (MQ below (gQ (some (.int r)) D Y S' hs (gA S hs)) args s rm_X4_keep.cells rm_X4_keep.slots (gA S hs)) (F0 m 29 ls [])) (T67 : GS) (x3 : Int32) (x4 : Option Nat) (x5 : Option Nat) (x6 : Option Nat) (x7 : Int32) (s0 : Int32), f_X4_keep_b67 k29 a0 T67 x3 x4 x5 x6 x7 s0 = some (.inl (r, S')) → ∀ (H : Heap) (locs : List Loc) (ls : Array Slot), gM D Y (gA S hs) s.heap T67 hs H locs → lv_has ls 9 [(0, va_rf (some a0)), (3, .int x3), (4, va_rf x4), (5, va_rf x5), (6, va_rf x6), (7, .int x7)] → W p l e rm_X4_keep s m args below meth c H locs 0 0 (MQ below (gQ (some (.int r)) D Y S' hs (gA S hs)) args s rm_X4_keep.cells rm_X4_keep.slots (gA S hs)) (F0 m 67 ls [.int s0]) := by
    intro k29 hk29 T67 x3 x4 x5 x6 x7 s0 h H locs ls hM hl
    unfold f_X4_keep_b67 at h
    refine lv_istore (i := 8) (lv' := [(8, .int s0), (0, va_rf (some a0)), (3, .int x3), (4, va_rf x4), (5, va_rf x5), (6, va_rf x6), (7, .int x7)]) hx hb dX4_keep_67 hl (by decide) rfl (fun ls hl => ?_)
    refine g_aload_n hx hb dX4_keep_69 rfl (lv_at hl 1 rfl) ?_
    refine lv_iload hx hb dX4_keep_70 (lv_at hl 6 rfl) ?_
    refine lv_iload hx hb dX4_keep_72 (lv_at hl 0 rfl) ?_
    refine lv_iload_n hx hb dX4_keep_74 rfl (lv_at hl 2 rfl) ?_
    refine lv_icmp_eq (tgt := 82) hx hb dX4_keep_75 (by decide) (fun c45 => ?_) (fun c45 => ?_)
    · replace h := (if_pos c45).symm.trans h
      refine lv_iconst (v := 0) hx hb dX4_keep_82 (by decide) ?_
      refine W.widen (k := 0) (n := 0) (Nat.le_of_ble_eq_true rfl) (Nat.le_of_ble_eq_true rfl) ?_
      exact Jb83 _ hk29 _ _ _ _ _ _ _ _ _ h _ _ _ hM (lv_sub hl [1, 2, 3, 4, 5, 6] rfl)
    · replace h := (if_neg c45).symm.trans h
      refine lv_iconst (v := 1) hx hb dX4_keep_78 (by decide) ?_
      refine lv_goto (tgt := 83) hx hb dX4_keep_79 (by decide) ?_
      refine W.widen (k := 0) (n := 0) (Nat.le_of_ble_eq_true rfl) (Nat.le_of_ble_eq_true rfl) ?_
      exact Jb83 _ hk29 _ _ _ _ _ _ _ _ _ h _ _ _ hM (lv_sub hl [1, 2, 3, 4, 5, 6] rfl)
  have JL29 : ∀ (n : Nat) (T29 : GS) (x3 : Int32) (x4 : Option Nat) (x5 : Option Nat) (x6 : Option Nat) (x7 : Int32), f_X4_keep_L29 a0 n T29 x3 x4 x5 x6 x7 = some (.inl (r, S')) → ∀ (H : Heap) (locs : List Loc) (ls : Array Slot), gM D Y (gA S hs) s.heap T29 hs H locs → lv_has ls 9 [(0, va_rf (some a0)), (3, .int x3), (4, va_rf x4), (5, va_rf x5), (6, va_rf x6), (7, .int x7)] → W p l e rm_X4_keep s m args below meth c H locs 0 0 (MQ below (gQ (some (.int r)) D Y S' hs (gA S hs)) args s rm_X4_keep.cells rm_X4_keep.slots (gA S hs)) (F0 m 29 ls []) := by
    intro n
    induction n with
    | zero => intro T29 x3 x4 x5 x6 x7 h; unfold f_X4_keep_L29 at h; exact nomatch h
    | succ n ih =>
      intro T29 x3 x4 x5 x6 x7 h H locs ls hM hl
      unfold f_X4_keep_L29 at h
      refine lv_iload hx hb dX4_keep_29 (lv_at hl 5 rfl) ?_
      refine g_aload hx hb dX4_keep_31 (lv_at hl 2 rfl) ?_
      have g := gbind h
      clear h
      obtain ⟨a19, e20, h⟩ := g
      have t21 := (gtk_of e20).2
      rw [(gtk_of e20).1]
      have g := gbind h
      clear h
      obtain ⟨v23, e22, h⟩ := g
      refine g_callV (As := []) (rest := [.int x7]) hF hM (c_X1_count e22) k_X1_count u195 u196 u197 rfl rfl t21 rfl hl.1 rfl (Nat.le_of_ble_eq_true rfl) dX4_keep_33 ⟨(Nat.le_of_ble_eq_true rfl), (Nat.le_of_ble_eq_true rfl)⟩ ⟨(Nat.le_of_ble_eq_true rfl), (Nat.le_of_ble_eq_true rfl)⟩ (fun H locs hM => ?_)
      refine lv_icmp_ge (tgt := 92) hx hb dX4_keep_36 (by decide) (fun c24 => ?_) (fun c24 => ?_)
      · replace h := (if_pos c24).symm.trans h
        refine g_aload_n hx hb dX4_keep_92 rfl (lv_at hl 0 rfl) ?_
        refine g_aload hx hb dX4_keep_93 (lv_at hl 2 rfl) ?_
        refine g_aload hx hb dX4_keep_95 (lv_at hl 4 rfl) ?_
        have g := gckE h
        clear h
        obtain ⟨t25, h⟩ := g
        have t25 := eq_of_beq t25
        have g := gb2E h
        clear h
        obtain ⟨v27, S28, e26, h⟩ := g
        refine g_callV (As := [va_rf x4, va_rf x6]) (rest := []) hF hM (c_X4_removeGoing e26) k_X4_removeGoing u832 u834 u22 rfl rfl t25 rfl hl.1 rfl (Nat.le_of_ble_eq_true rfl) dX4_keep_97 ⟨(Nat.le_of_ble_eq_true rfl), (Nat.le_of_ble_eq_true rfl)⟩ ⟨(Nat.le_of_ble_eq_true rfl), (Nat.le_of_ble_eq_true rfl)⟩ (fun H locs hM => ?_)
        obtain ⟨q1, q2⟩ := Prod.mk.inj (Sum.inl.inj (Option.some.inj h))
        rw [← q1, ← q2]
        exact g_iret hF hM rfl rfl dX4_keep_100 (Nat.le_of_ble_eq_true rfl) (Nat.le_of_ble_eq_true rfl)
      · replace h := (if_neg c24).symm.trans h
        refine g_aload hx hb dX4_keep_39 (lv_at hl 3 rfl) ?_
        refine g_aload hx hb dX4_keep_41 (lv_at hl 2 rfl) ?_
        refine lv_iload hx hb dX4_keep_43 (lv_at hl 5 rfl) ?_
        have g := gbind h
        clear h
        obtain ⟨a29, e30, h⟩ := g
        have t31 := (gtk_of e30).2
        rw [(gtk_of e30).1]
        have g := gbind h
        clear h
        obtain ⟨v33, e32, h⟩ := g
        refine g_callV (As := [.int x7]) (rest := [va_rf x5]) hF hM (c_X1_keyOf e32) k_X1_keyOf u699 u226 u227 rfl rfl t31 rfl hl.1 rfl (by simp [rf_cat, ic_cat, lc_cat]) dX4_keep_45 ⟨(Nat.le_of_ble_eq_true rfl), (Nat.le_of_ble_eq_true rfl)⟩ ⟨(Nat.le_of_ble_eq_true rfl), (Nat.le_of_ble_eq_true rfl)⟩ (fun H locs hM => ?_)
        refine g_aload hx hb dX4_keep_48 (lv_at hl 2 rfl) ?_
        refine lv_iload hx hb dX4_keep_50 (lv_at hl 5 rfl) ?_
        have g := gbind h
        clear h
        obtain ⟨a34, e35, h⟩ := g
        have t36 := (gtk_of e35).2
        rw [(gtk_of e35).1]
        have g := gbind h
        clear h
        obtain ⟨v38, e37, h⟩ := g
        refine g_callV (As := [.int x7]) (rest := [.int v33, va_rf x5]) hF hM (c_X1_markOf e37) k_X1_markOf u707 u234 u235 rfl rfl t36 rfl hl.1 rfl (by simp [rf_cat, ic_cat, lc_cat]) dX4_keep_52 ⟨(Nat.le_of_ble_eq_true rfl), (Nat.le_of_ble_eq_true rfl)⟩ ⟨(Nat.le_of_ble_eq_true rfl), (Nat.le_of_ble_eq_true rfl)⟩ (fun H locs hM => ?_)
        refine lv_iconst (v := 0) hx hb dX4_keep_55 (by decide) ?_
        have g := gbind h
        clear h
        obtain ⟨a39, e40, h⟩ := g
        have t41 := (gtk_of e40).2
        rw [(gtk_of e40).1]
        have g := gbind h
        clear h
        obtain ⟨v43, e42, h⟩ := g
        refine g_callV (As := [.int v33, .int v38, .int 0]) (rest := []) hF hM (c_X1_find e42) k_X1_find u715 u716 u717 rfl rfl t41 rfl hl.1 rfl (Nat.le_of_ble_eq_true rfl) dX4_keep_56 ⟨(Nat.le_of_ble_eq_true rfl), (Nat.le_of_ble_eq_true rfl)⟩ ⟨(Nat.le_of_ble_eq_true rfl), (Nat.le_of_ble_eq_true rfl)⟩ (fun H locs hM => ?_)
        refine lv_if_lt (tgt := 66) hx hb dX4_keep_59 (by decide) (fun c44 => ?_) (fun c44 => ?_)
        · replace h := (if_pos c44).symm.trans h
          refine lv_iconst (v := 0) hx hb dX4_keep_66 (by decide) ?_
          refine W.widen (k := 0) (n := 0) (Nat.le_of_ble_eq_true rfl) (Nat.le_of_ble_eq_true rfl) ?_
          exact Jb67 _ ih _ _ _ _ _ _ _ h _ _ _ hM (lv_sub hl [0, 1, 2, 3, 4, 5] rfl)
        · replace h := (if_neg c44).symm.trans h
          refine lv_iconst (v := 1) hx hb dX4_keep_62 (by decide) ?_
          refine lv_goto (tgt := 67) hx hb dX4_keep_63 (by decide) ?_
          refine W.widen (k := 0) (n := 0) (Nat.le_of_ble_eq_true rfl) (Nat.le_of_ble_eq_true rfl) ?_
          exact Jb67 _ ih _ _ _ _ _ _ _ h _ _ _ hM (lv_sub hl [0, 1, 2, 3, 4, 5] rfl)
  unfold f_X4_keep at h
  refine lv_iload_n hx hb dX4_keep_0 rfl (lv_at hl 1 rfl) ?_
  refine lv_iload_n hx hb dX4_keep_1 rfl (lv_at hl 2 rfl) ?_
  have g := gthE h
  clear h
  rcases g with ⟨w2, e1, h⟩ | ⟨y3, e1, z4⟩
  · refine g_callS (As := [.int x1, .int x2]) (rest := []) hF hM (c_X4_needSlots e1) k_X4_needSlots u844 u845 rfl hl.1 rfl (Nat.le_of_ble_eq_true rfl) dX4_keep_2 ⟨(Nat.le_of_ble_eq_true rfl), (Nat.le_of_ble_eq_true rfl)⟩ ⟨(Nat.le_of_ble_eq_true rfl), (Nat.le_of_ble_eq_true rfl)⟩ (fun H locs hM => ?_)
    refine g_aload_n hx hb dX4_keep_5 rfl (lv_at hl 0 rfl) ?_
    refine lv_iload_n hx hb dX4_keep_6 rfl (lv_at hl 1 rfl) ?_
    have g := gckE h
    clear h
    obtain ⟨t5, h⟩ := g
    have t5 := eq_of_beq t5
    have g := gthE h
    clear h
    rcases g with ⟨v7, e6, h⟩ | ⟨y8, e6, z9⟩
    · refine g_callV (As := [.int x1]) (rest := []) hF hM (c_X4_needRow e6) k_X4_needRow u807 u809 u20 rfl rfl t5 rfl hl.1 rfl (Nat.le_of_ble_eq_true rfl) dX4_keep_7 ⟨(Nat.le_of_ble_eq_true rfl), (Nat.le_of_ble_eq_true rfl)⟩ ⟨(Nat.le_of_ble_eq_true rfl), (Nat.le_of_ble_eq_true rfl)⟩ (fun H locs hM => ?_)
      refine g_astore (i := 4) (lv' := [(0, va_rf (some a0)), (1, .int x1), (2, .int x2), (3, .int x3)]) hx hb dX4_keep_10 hl (by decide) (fun v => rfl) (fun ls hl => ?_)
      refine g_aload_n hx hb dX4_keep_12 rfl (lv_at hl 1 rfl) ?_
      refine lv_iload_n hx hb dX4_keep_13 rfl (lv_at hl 3 rfl) ?_
      have g := gckE h
      clear h
      obtain ⟨t10, h⟩ := g
      have t10 := eq_of_beq t10
      have g := gthE h
      clear h
      rcases g with ⟨v12, e11, h⟩ | ⟨y13, e11, z14⟩
      · refine g_callV (As := [.int x2]) (rest := []) hF hM (c_X4_needRow e11) k_X4_needRow u807 u809 u20 rfl rfl t10 rfl hl.1 rfl (Nat.le_of_ble_eq_true rfl) dX4_keep_14 ⟨(Nat.le_of_ble_eq_true rfl), (Nat.le_of_ble_eq_true rfl)⟩ ⟨(Nat.le_of_ble_eq_true rfl), (Nat.le_of_ble_eq_true rfl)⟩ (fun H locs hM => ?_)
        refine g_astore (i := 5) (lv' := [(4, va_rf v7), (0, va_rf (some a0)), (1, .int x1), (2, .int x2), (3, .int x3)]) hx hb dX4_keep_17 hl (by decide) (fun v => by simp [rf_cat, ic_cat, lc_cat]) (fun ls hl => ?_)
        refine g_aload hx hb dX4_keep_19 (lv_at hl 1 rfl) ?_
        have g := gthE h
        clear h
        rcases g with ⟨v16, e15, h⟩ | ⟨y17, e15, z18⟩
        · refine g_callS (As := [va_rf v7]) (rest := []) hF hM (c_X4_openStore e15) k_X4_openStore u732 u733 rfl hl.1 rfl (Nat.le_of_ble_eq_true rfl) dX4_keep_21 ⟨(Nat.le_of_ble_eq_true rfl), (Nat.le_of_ble_eq_true rfl)⟩ ⟨(Nat.le_of_ble_eq_true rfl), (Nat.le_of_ble_eq_true rfl)⟩ (fun H locs hM => ?_)
          refine g_astore (i := 6) (lv' := [(5, va_rf v12), (4, va_rf v7), (0, va_rf (some a0)), (1, .int x1), (2, .int x2), (3, .int x3)]) hx hb dX4_keep_24 hl (by decide) (fun v => by simp [rf_cat, ic_cat, lc_cat]) (fun ls hl => ?_)
          refine lv_iconst (v := 0) hx hb dX4_keep_26 (by decide) ?_
          refine lv_istore (i := 7) (lv' := [(7, .int 0), (6, va_rf v16), (5, va_rf v12), (4, va_rf v7), (0, va_rf (some a0)), (1, .int x1), (2, .int x2), (3, .int x3)]) hx hb dX4_keep_27 hl (by decide) (by simp [rf_cat, ic_cat, lc_cat]) (fun ls hl => ?_)
          refine W.widen (k := 0) (n := 0) (Nat.le_of_ble_eq_true rfl) (Nat.le_of_ble_eq_true rfl) ?_
          exact JL29 gN _ _ _ _ _ _ h _ _ _ hM (lv_sub hl [4, 7, 3, 2, 1, 0] rfl)
        · exact nomatch z18
      · exact nomatch z14
    · exact nomatch z9
  · exact nomatch z4
abbrev rmx_X4_keep : Room := { frames := 8, cells := 1, slots := 6, locals := 132 }
set_option maxHeartbeats 4000000 in
set_option maxRecDepth 100000 in
theorem cx_X4_keep {l : Launch} {D : va_G} {Y : Nat → ClassId} {S : GS} {hs : Nat} {a0 : Nat} {x1 : Int32} {x2 : Int32} {x3 : Int32} {x : Nat} (hfl : l.stackTraces = false) (h : f_X4_keep S a0 x1 x2 x3 = some (.inr x)) : gMx l yX4_keep (gWs yX4_keep cX4_keep 9 (some .int)) rmx_X4_keep [va_rf (some a0), .int x1, .int x2, .int x3] D Y S hs (.inr x) := by
  refine g_ofWx (by decide +kernel) (Or.inl ⟨(Nat.le_of_ble_eq_true rfl), (List.forall_mem_cons.mpr ⟨rf_cat _, (List.forall_mem_cons.mpr ⟨rfl, (List.forall_mem_cons.mpr ⟨rfl, (List.forall_mem_cons.mpr ⟨rfl, (fun _ h => absurd h List.not_mem_nil)⟩)⟩)⟩)⟩)⟩) ?_
  intro p e s m args below meth c ls hsz hout hF hM hl
  have hl : lv_has ls 9 [(0, va_rf (some a0)), (1, .int x1), (2, .int x2), (3, .int x3)] := by rw [g_args [va_rf (some a0), .int x1, .int x2, .int x3] 0 (List.forall_mem_cons.mpr ⟨rf_cat _, (List.forall_mem_cons.mpr ⟨rfl, (List.forall_mem_cons.mpr ⟨rfl, (List.forall_mem_cons.mpr ⟨rfl, (fun _ h => absurd h List.not_mem_nil)⟩)⟩)⟩)⟩)] at hl; exact hl
  have hF : gF p s m args meth c RX4 cX4_keep 9 (some .int) D Y (gA S hs) := hF
  have hx := hF.1
  have hb := hF.2.1
  have Jb83 : ∀ (k29 : GS → Int32 → Option Nat → Option Nat → Option Nat → Int32 → Option ((Int32 × GS) ⊕ Nat)) (hk29 : ∀ (T29 : GS) (x3 : Int32) (x4 : Option Nat) (x5 : Option Nat) (x6 : Option Nat) (x7 : Int32), k29 T29 x3 x4 x5 x6 x7 = some (.inr x) → ∀ (H : Heap) (locs : List Loc) (ls : Array Slot), gM D Y (gA S hs) s.heap T29 hs H locs → lv_has ls 9 [(0, va_rf (some a0)), (3, .int x3), (4, va_rf x4), (5, va_rf x5), (6, va_rf x6), (7, .int x7)] → W p l e rmx_X4_keep s m args below meth c H locs 0 0 (vx_MQ below (gQz (.inr x) D Y (gA S hs)) (gXz (.inr x) D Y S (gA S hs)) args s rmx_X4_keep.cells rmx_X4_keep.slots (gA S hs)) (F0 m 29 ls [])) (T83 : GS) (x3 : Int32) (x4 : Option Nat) (x5 : Option Nat) (x6 : Option Nat) (x7 : Int32) (s0 : Option Nat) (s1 : Int32) (s2 : Int32), f_X4_keep_b83 k29 a0 T83 x3 x4 x5 x6 x7 s0 s1 s2 = some (.inr x) → ∀ (H : Heap) (locs : List Loc) (ls : Array Slot), gM D Y (gA S hs) s.heap T83 hs H locs → lv_has ls 9 [(0, va_rf (some a0)), (3, .int x3), (4, va_rf x4), (5, va_rf x5), (6, va_rf x6), (7, .int x7)] → W p l e rmx_X4_keep s m args below meth c H locs 0 0 (vx_MQ below (gQz (.inr x) D Y (gA S hs)) (gXz (.inr x) D Y S (gA S hs)) args s rmx_X4_keep.cells rmx_X4_keep.slots (gA S hs)) (F0 m 83 ls [.int s2, .int s1, va_rf s0]) := by
    intro k29 hk29 T83 x3 x4 x5 x6 x7 s0 s1 s2 h H locs ls hM hl
    unfold f_X4_keep_b83 at h
    have g := gbind h
    clear h
    obtain ⟨a46, e47, h⟩ := g
    have t48 := (gtk_of e47).2
    rw [(gtk_of e47).1]
    have g := gbind h
    clear h
    obtain ⟨S50, e49, h⟩ := g
    refine g_callV (As := [.int s1, .int s2]) (rest := []) hF hM (c_X4_markGoing e49) k_X4_markGoing u828 u830 u21 rfl rfl t48 rfl hl.1 rfl (Nat.le_of_ble_eq_true rfl) dX4_keep_83 ⟨(Nat.le_of_ble_eq_true rfl), (Nat.le_of_ble_eq_true rfl)⟩ ⟨(Nat.le_of_ble_eq_true rfl), (Nat.le_of_ble_eq_true rfl)⟩ (fun H locs hM => ?_)
    refine lv_iinc (v := (x7 + 1)) (lv' := [(7, .int (x7 + 1)), (0, va_rf (some a0)), (3, .int x3), (4, va_rf x4), (5, va_rf x5), (6, va_rf x6)]) hx hb dX4_keep_86 hl (k := 5) rfl rfl (by decide) (by simp [rf_cat, ic_cat, lc_cat]) (fun ls hl => ?_)
    refine lv_goto (tgt := 29) hx hb dX4_keep_89 (by decide) ?_
    refine W.widen (k := 0) (n := 0) (Nat.le_of_ble_eq_true rfl) (Nat.le_of_ble_eq_true rfl) ?_
    exact hk29 _ _ _ _ _ _ h _ _ _ hM (lv_sub hl [1, 2, 3, 4, 5, 0] rfl)
  have Jb67 : ∀ (k29 : GS → Int32 → Option Nat → Option Nat → Option Nat → Int32 → Option ((Int32 × GS) ⊕ Nat)) (hk29 : ∀ (T29 : GS) (x3 : Int32) (x4 : Option Nat) (x5 : Option Nat) (x6 : Option Nat) (x7 : Int32), k29 T29 x3 x4 x5 x6 x7 = some (.inr x) → ∀ (H : Heap) (locs : List Loc) (ls : Array Slot), gM D Y (gA S hs) s.heap T29 hs H locs → lv_has ls 9 [(0, va_rf (some a0)), (3, .int x3), (4, va_rf x4), (5, va_rf x5), (6, va_rf x6), (7, .int x7)] → W p l e rmx_X4_keep s m args below meth c H locs 0 0 (vx_MQ below (gQz (.inr x) D Y (gA S hs)) (gXz (.inr x) D Y S (gA S hs)) args s rmx_X4_keep.cells rmx_X4_keep.slots (gA S hs)) (F0 m 29 ls [])) (T67 : GS) (x3 : Int32) (x4 : Option Nat) (x5 : Option Nat) (x6 : Option Nat) (x7 : Int32) (s0 : Int32), f_X4_keep_b67 k29 a0 T67 x3 x4 x5 x6 x7 s0 = some (.inr x) → ∀ (H : Heap) (locs : List Loc) (ls : Array Slot), gM D Y (gA S hs) s.heap T67 hs H locs → lv_has ls 9 [(0, va_rf (some a0)), (3, .int x3), (4, va_rf x4), (5, va_rf x5), (6, va_rf x6), (7, .int x7)] → W p l e rmx_X4_keep s m args below meth c H locs 0 0 (vx_MQ below (gQz (.inr x) D Y (gA S hs)) (gXz (.inr x) D Y S (gA S hs)) args s rmx_X4_keep.cells rmx_X4_keep.slots (gA S hs)) (F0 m 67 ls [.int s0]) := by
    intro k29 hk29 T67 x3 x4 x5 x6 x7 s0 h H locs ls hM hl
    unfold f_X4_keep_b67 at h
    refine lv_istore (i := 8) (lv' := [(8, .int s0), (0, va_rf (some a0)), (3, .int x3), (4, va_rf x4), (5, va_rf x5), (6, va_rf x6), (7, .int x7)]) hx hb dX4_keep_67 hl (by decide) rfl (fun ls hl => ?_)
    refine g_aload_n hx hb dX4_keep_69 rfl (lv_at hl 1 rfl) ?_
    refine lv_iload hx hb dX4_keep_70 (lv_at hl 6 rfl) ?_
    refine lv_iload hx hb dX4_keep_72 (lv_at hl 0 rfl) ?_
    refine lv_iload_n hx hb dX4_keep_74 rfl (lv_at hl 2 rfl) ?_
    refine lv_icmp_eq (tgt := 82) hx hb dX4_keep_75 (by decide) (fun c45 => ?_) (fun c45 => ?_)
    · replace h := (if_pos c45).symm.trans h
      refine lv_iconst (v := 0) hx hb dX4_keep_82 (by decide) ?_
      refine W.widen (k := 0) (n := 0) (Nat.le_of_ble_eq_true rfl) (Nat.le_of_ble_eq_true rfl) ?_
      exact Jb83 _ hk29 _ _ _ _ _ _ _ _ _ h _ _ _ hM (lv_sub hl [1, 2, 3, 4, 5, 6] rfl)
    · replace h := (if_neg c45).symm.trans h
      refine lv_iconst (v := 1) hx hb dX4_keep_78 (by decide) ?_
      refine lv_goto (tgt := 83) hx hb dX4_keep_79 (by decide) ?_
      refine W.widen (k := 0) (n := 0) (Nat.le_of_ble_eq_true rfl) (Nat.le_of_ble_eq_true rfl) ?_
      exact Jb83 _ hk29 _ _ _ _ _ _ _ _ _ h _ _ _ hM (lv_sub hl [1, 2, 3, 4, 5, 6] rfl)
  have JL29 : ∀ (n : Nat) (T29 : GS) (x3 : Int32) (x4 : Option Nat) (x5 : Option Nat) (x6 : Option Nat) (x7 : Int32), f_X4_keep_L29 a0 n T29 x3 x4 x5 x6 x7 = some (.inr x) → ∀ (H : Heap) (locs : List Loc) (ls : Array Slot), gM D Y (gA S hs) s.heap T29 hs H locs → lv_has ls 9 [(0, va_rf (some a0)), (3, .int x3), (4, va_rf x4), (5, va_rf x5), (6, va_rf x6), (7, .int x7)] → W p l e rmx_X4_keep s m args below meth c H locs 0 0 (vx_MQ below (gQz (.inr x) D Y (gA S hs)) (gXz (.inr x) D Y S (gA S hs)) args s rmx_X4_keep.cells rmx_X4_keep.slots (gA S hs)) (F0 m 29 ls []) := by
    intro n
    induction n with
    | zero => intro T29 x3 x4 x5 x6 x7 h; unfold f_X4_keep_L29 at h; exact nomatch h
    | succ n ih =>
      intro T29 x3 x4 x5 x6 x7 h H locs ls hM hl
      unfold f_X4_keep_L29 at h
      refine lv_iload hx hb dX4_keep_29 (lv_at hl 5 rfl) ?_
      refine g_aload hx hb dX4_keep_31 (lv_at hl 2 rfl) ?_
      have g := gbind h
      clear h
      obtain ⟨a19, e20, h⟩ := g
      have t21 := (gtk_of e20).2
      rw [(gtk_of e20).1]
      have g := gbind h
      clear h
      obtain ⟨v23, e22, h⟩ := g
      refine g_callV (As := []) (rest := [.int x7]) hF hM (c_X1_count e22) k_X1_count u195 u196 u197 rfl rfl t21 rfl hl.1 rfl (Nat.le_of_ble_eq_true rfl) dX4_keep_33 ⟨(Nat.le_of_ble_eq_true rfl), (Nat.le_of_ble_eq_true rfl)⟩ ⟨(Nat.le_of_ble_eq_true rfl), (Nat.le_of_ble_eq_true rfl)⟩ (fun H locs hM => ?_)
      refine lv_icmp_ge (tgt := 92) hx hb dX4_keep_36 (by decide) (fun c24 => ?_) (fun c24 => ?_)
      · replace h := (if_pos c24).symm.trans h
        refine g_aload_n hx hb dX4_keep_92 rfl (lv_at hl 0 rfl) ?_
        refine g_aload hx hb dX4_keep_93 (lv_at hl 2 rfl) ?_
        refine g_aload hx hb dX4_keep_95 (lv_at hl 4 rfl) ?_
        have g := gckE h
        clear h
        obtain ⟨t25, h⟩ := g
        have t25 := eq_of_beq t25
        have g := gb2E h
        clear h
        obtain ⟨v27, S28, e26, h⟩ := g
        refine g_callV (As := [va_rf x4, va_rf x6]) (rest := []) hF hM (c_X4_removeGoing e26) k_X4_removeGoing u832 u834 u22 rfl rfl t25 rfl hl.1 rfl (Nat.le_of_ble_eq_true rfl) dX4_keep_97 ⟨(Nat.le_of_ble_eq_true rfl), (Nat.le_of_ble_eq_true rfl)⟩ ⟨(Nat.le_of_ble_eq_true rfl), (Nat.le_of_ble_eq_true rfl)⟩ (fun H locs hM => ?_)
        exact nomatch (Option.some.inj h)
      · replace h := (if_neg c24).symm.trans h
        refine g_aload hx hb dX4_keep_39 (lv_at hl 3 rfl) ?_
        refine g_aload hx hb dX4_keep_41 (lv_at hl 2 rfl) ?_
        refine lv_iload hx hb dX4_keep_43 (lv_at hl 5 rfl) ?_
        have g := gbind h
        clear h
        obtain ⟨a29, e30, h⟩ := g
        have t31 := (gtk_of e30).2
        rw [(gtk_of e30).1]
        have g := gbind h
        clear h
        obtain ⟨v33, e32, h⟩ := g
        refine g_callV (As := [.int x7]) (rest := [va_rf x5]) hF hM (c_X1_keyOf e32) k_X1_keyOf u699 u226 u227 rfl rfl t31 rfl hl.1 rfl (by simp [rf_cat, ic_cat, lc_cat]) dX4_keep_45 ⟨(Nat.le_of_ble_eq_true rfl), (Nat.le_of_ble_eq_true rfl)⟩ ⟨(Nat.le_of_ble_eq_true rfl), (Nat.le_of_ble_eq_true rfl)⟩ (fun H locs hM => ?_)
        refine g_aload hx hb dX4_keep_48 (lv_at hl 2 rfl) ?_
        refine lv_iload hx hb dX4_keep_50 (lv_at hl 5 rfl) ?_
        have g := gbind h
        clear h
        obtain ⟨a34, e35, h⟩ := g
        have t36 := (gtk_of e35).2
        rw [(gtk_of e35).1]
        have g := gbind h
        clear h
        obtain ⟨v38, e37, h⟩ := g
        refine g_callV (As := [.int x7]) (rest := [.int v33, va_rf x5]) hF hM (c_X1_markOf e37) k_X1_markOf u707 u234 u235 rfl rfl t36 rfl hl.1 rfl (by simp [rf_cat, ic_cat, lc_cat]) dX4_keep_52 ⟨(Nat.le_of_ble_eq_true rfl), (Nat.le_of_ble_eq_true rfl)⟩ ⟨(Nat.le_of_ble_eq_true rfl), (Nat.le_of_ble_eq_true rfl)⟩ (fun H locs hM => ?_)
        refine lv_iconst (v := 0) hx hb dX4_keep_55 (by decide) ?_
        have g := gbind h
        clear h
        obtain ⟨a39, e40, h⟩ := g
        have t41 := (gtk_of e40).2
        rw [(gtk_of e40).1]
        have g := gbind h
        clear h
        obtain ⟨v43, e42, h⟩ := g
        refine g_callV (As := [.int v33, .int v38, .int 0]) (rest := []) hF hM (c_X1_find e42) k_X1_find u715 u716 u717 rfl rfl t41 rfl hl.1 rfl (Nat.le_of_ble_eq_true rfl) dX4_keep_56 ⟨(Nat.le_of_ble_eq_true rfl), (Nat.le_of_ble_eq_true rfl)⟩ ⟨(Nat.le_of_ble_eq_true rfl), (Nat.le_of_ble_eq_true rfl)⟩ (fun H locs hM => ?_)
        refine lv_if_lt (tgt := 66) hx hb dX4_keep_59 (by decide) (fun c44 => ?_) (fun c44 => ?_)
        · replace h := (if_pos c44).symm.trans h
          refine lv_iconst (v := 0) hx hb dX4_keep_66 (by decide) ?_
          refine W.widen (k := 0) (n := 0) (Nat.le_of_ble_eq_true rfl) (Nat.le_of_ble_eq_true rfl) ?_
          exact Jb67 _ ih _ _ _ _ _ _ _ h _ _ _ hM (lv_sub hl [0, 1, 2, 3, 4, 5] rfl)
        · replace h := (if_neg c44).symm.trans h
          refine lv_iconst (v := 1) hx hb dX4_keep_62 (by decide) ?_
          refine lv_goto (tgt := 67) hx hb dX4_keep_63 (by decide) ?_
          refine W.widen (k := 0) (n := 0) (Nat.le_of_ble_eq_true rfl) (Nat.le_of_ble_eq_true rfl) ?_
          exact Jb67 _ ih _ _ _ _ _ _ _ h _ _ _ hM (lv_sub hl [0, 1, 2, 3, 4, 5] rfl)
  unfold f_X4_keep at h
  refine lv_iload_n hx hb dX4_keep_0 rfl (lv_at hl 1 rfl) ?_
  refine lv_iload_n hx hb dX4_keep_1 rfl (lv_at hl 2 rfl) ?_
  have g := gthE h
  clear h
  rcases g with ⟨w2, e1, h⟩ | ⟨y3, e1, z4⟩
  · refine g_callS (As := [.int x1, .int x2]) (rest := []) hF hM (c_X4_needSlots e1) k_X4_needSlots u844 u845 rfl hl.1 rfl (Nat.le_of_ble_eq_true rfl) dX4_keep_2 ⟨(Nat.le_of_ble_eq_true rfl), (Nat.le_of_ble_eq_true rfl)⟩ ⟨(Nat.le_of_ble_eq_true rfl), (Nat.le_of_ble_eq_true rfl)⟩ (fun H locs hM => ?_)
    refine g_aload_n hx hb dX4_keep_5 rfl (lv_at hl 0 rfl) ?_
    refine lv_iload_n hx hb dX4_keep_6 rfl (lv_at hl 1 rfl) ?_
    have g := gckE h
    clear h
    obtain ⟨t5, h⟩ := g
    have t5 := eq_of_beq t5
    have g := gthE h
    clear h
    rcases g with ⟨v7, e6, h⟩ | ⟨y8, e6, z9⟩
    · refine g_callV (As := [.int x1]) (rest := []) hF hM (c_X4_needRow e6) k_X4_needRow u807 u809 u20 rfl rfl t5 rfl hl.1 rfl (Nat.le_of_ble_eq_true rfl) dX4_keep_7 ⟨(Nat.le_of_ble_eq_true rfl), (Nat.le_of_ble_eq_true rfl)⟩ ⟨(Nat.le_of_ble_eq_true rfl), (Nat.le_of_ble_eq_true rfl)⟩ (fun H locs hM => ?_)
      refine g_astore (i := 4) (lv' := [(0, va_rf (some a0)), (1, .int x1), (2, .int x2), (3, .int x3)]) hx hb dX4_keep_10 hl (by decide) (fun v => rfl) (fun ls hl => ?_)
      refine g_aload_n hx hb dX4_keep_12 rfl (lv_at hl 1 rfl) ?_
      refine lv_iload_n hx hb dX4_keep_13 rfl (lv_at hl 3 rfl) ?_
      have g := gckE h
      clear h
      obtain ⟨t10, h⟩ := g
      have t10 := eq_of_beq t10
      have g := gthE h
      clear h
      rcases g with ⟨v12, e11, h⟩ | ⟨y13, e11, z14⟩
      · refine g_callV (As := [.int x2]) (rest := []) hF hM (c_X4_needRow e11) k_X4_needRow u807 u809 u20 rfl rfl t10 rfl hl.1 rfl (Nat.le_of_ble_eq_true rfl) dX4_keep_14 ⟨(Nat.le_of_ble_eq_true rfl), (Nat.le_of_ble_eq_true rfl)⟩ ⟨(Nat.le_of_ble_eq_true rfl), (Nat.le_of_ble_eq_true rfl)⟩ (fun H locs hM => ?_)
        refine g_astore (i := 5) (lv' := [(4, va_rf v7), (0, va_rf (some a0)), (1, .int x1), (2, .int x2), (3, .int x3)]) hx hb dX4_keep_17 hl (by decide) (fun v => by simp [rf_cat, ic_cat, lc_cat]) (fun ls hl => ?_)
        refine g_aload hx hb dX4_keep_19 (lv_at hl 1 rfl) ?_
        have g := gthE h
        clear h
        rcases g with ⟨v16, e15, h⟩ | ⟨y17, e15, z18⟩
        · refine g_callS (As := [va_rf v7]) (rest := []) hF hM (c_X4_openStore e15) k_X4_openStore u732 u733 rfl hl.1 rfl (Nat.le_of_ble_eq_true rfl) dX4_keep_21 ⟨(Nat.le_of_ble_eq_true rfl), (Nat.le_of_ble_eq_true rfl)⟩ ⟨(Nat.le_of_ble_eq_true rfl), (Nat.le_of_ble_eq_true rfl)⟩ (fun H locs hM => ?_)
          refine g_astore (i := 6) (lv' := [(5, va_rf v12), (4, va_rf v7), (0, va_rf (some a0)), (1, .int x1), (2, .int x2), (3, .int x3)]) hx hb dX4_keep_24 hl (by decide) (fun v => by simp [rf_cat, ic_cat, lc_cat]) (fun ls hl => ?_)
          refine lv_iconst (v := 0) hx hb dX4_keep_26 (by decide) ?_
          refine lv_istore (i := 7) (lv' := [(7, .int 0), (6, va_rf v16), (5, va_rf v12), (4, va_rf v7), (0, va_rf (some a0)), (1, .int x1), (2, .int x2), (3, .int x3)]) hx hb dX4_keep_27 hl (by decide) (by simp [rf_cat, ic_cat, lc_cat]) (fun ls hl => ?_)
          refine W.widen (k := 0) (n := 0) (Nat.le_of_ble_eq_true rfl) (Nat.le_of_ble_eq_true rfl) ?_
          exact JL29 gN _ _ _ _ _ _ h _ _ _ hM (lv_sub hl [4, 7, 3, 2, 1, 0] rfl)
        · exact g_callSt (As := [va_rf v7]) (rest := []) hF hM hout (cx_X4_openStore hfl e15) k_X4_openStore u732 u733 rfl hl.1 rfl (Nat.le_of_ble_eq_true rfl) dX4_keep_21 ⟨(Nat.le_of_ble_eq_true rfl), (Nat.le_of_ble_eq_true rfl)⟩ ⟨(Nat.le_of_ble_eq_true rfl), (Nat.le_of_ble_eq_true rfl)⟩ (Nat.le_of_ble_eq_true rfl) (Nat.le_of_ble_eq_true rfl) (congrArg Sum.inr (Sum.inr.inj z18))
      · exact g_callVt (As := [.int x2]) (rest := []) hF hM hout (cx_X4_needRow hfl e11) k_X4_needRow u807 u809 u20 rfl rfl t10 rfl hl.1 rfl (Nat.le_of_ble_eq_true rfl) dX4_keep_14 ⟨(Nat.le_of_ble_eq_true rfl), (Nat.le_of_ble_eq_true rfl)⟩ ⟨(Nat.le_of_ble_eq_true rfl), (Nat.le_of_ble_eq_true rfl)⟩ (Nat.le_of_ble_eq_true rfl) (Nat.le_of_ble_eq_true rfl) (congrArg Sum.inr (Sum.inr.inj z14))
    · exact g_callVt (As := [.int x1]) (rest := []) hF hM hout (cx_X4_needRow hfl e6) k_X4_needRow u807 u809 u20 rfl rfl t5 rfl hl.1 rfl (Nat.le_of_ble_eq_true rfl) dX4_keep_7 ⟨(Nat.le_of_ble_eq_true rfl), (Nat.le_of_ble_eq_true rfl)⟩ ⟨(Nat.le_of_ble_eq_true rfl), (Nat.le_of_ble_eq_true rfl)⟩ (Nat.le_of_ble_eq_true rfl) (Nat.le_of_ble_eq_true rfl) (congrArg Sum.inr (Sum.inr.inj z9))
  · exact g_callSt (As := [.int x1, .int x2]) (rest := []) hF hM hout (cx_X4_needSlots hfl e1) k_X4_needSlots u844 u845 rfl hl.1 rfl (Nat.le_of_ble_eq_true rfl) dX4_keep_2 ⟨(Nat.le_of_ble_eq_true rfl), (Nat.le_of_ble_eq_true rfl)⟩ ⟨(Nat.le_of_ble_eq_true rfl), (Nat.le_of_ble_eq_true rfl)⟩ (Nat.le_of_ble_eq_true rfl) (Nat.le_of_ble_eq_true rfl) (congrArg Sum.inr (Sum.inr.inj z4))
abbrev rm_X4_strip : Room := { frames := 4, cells := 0, slots := 0, locals := 89 }
theorem k_X4_strip : gKc yX4_strip cX4_strip 7 (some .int) 2 := ⟨u863, u63, by decide +kernel, by decide +kernel, by decide +kernel⟩
set_option maxHeartbeats 4000000 in
set_option maxRecDepth 100000 in
theorem c_X4_strip {l : Launch} {D : va_G} {Y : Nat → ClassId} {S : GS} {hs : Nat} {a0 : Nat} {x1 : Int32} {x2 : Int32} {r : Int32} {S' : GS} (h : f_X4_strip S a0 x1 x2 = some (.inl (r, S'))) : gMet l yX4_strip (gWs yX4_strip cX4_strip 7 (some .int)) rm_X4_strip [va_rf (some a0), .int x1, .int x2] D Y S hs (some (.int r)) S' hs := by
  refine g_ofW (by decide +kernel) (Or.inl ⟨(Nat.le_of_ble_eq_true rfl), (List.forall_mem_cons.mpr ⟨rf_cat _, (List.forall_mem_cons.mpr ⟨rfl, (List.forall_mem_cons.mpr ⟨rfl, (fun _ h => absurd h List.not_mem_nil)⟩)⟩)⟩)⟩) ?_
  intro p e s m args below meth c ls hsz hname hF hM hl
  have hl : lv_has ls 7 [(0, va_rf (some a0)), (1, .int x1), (2, .int x2)] := by rw [g_args [va_rf (some a0), .int x1, .int x2] 0 (List.forall_mem_cons.mpr ⟨rf_cat _, (List.forall_mem_cons.mpr ⟨rfl, (List.forall_mem_cons.mpr ⟨rfl, (fun _ h => absurd h List.not_mem_nil)⟩)⟩)⟩)] at hl; exact hl
  have hF : gF p s m args meth c RX4 cX4_strip 7 (some .int) D Y (gA S hs) := hF
  have hx := hF.1
  have hb := hF.2.1
  have Jb112 : ∀ (k62 : GS → Int32 → Option Nat → Option Nat → Int32 → Option ((Int32 × GS) ⊕ Nat)) (hk62 : ∀ (T62 : GS) (x2 : Int32) (x3 : Option Nat) (x4 : Option Nat) (x5 : Int32), k62 T62 x2 x3 x4 x5 = some (.inl (r, S')) → ∀ (H : Heap) (locs : List Loc) (ls : Array Slot), gM D Y (gA S hs) s.heap T62 hs H locs → lv_has ls 7 [(0, va_rf (some a0)), (2, .int x2), (3, va_rf x3), (4, va_rf x4), (5, .int x5)] → W p l e rm_X4_strip s m args below meth c H locs 0 0 (MQ below (gQ (some (.int r)) D Y S' hs (gA S hs)) args s rm_X4_strip.cells rm_X4_strip.slots (gA S hs)) (F0 m 62 ls [])) (T112 : GS) (x2 : Int32) (x3 : Option Nat) (x4 : Option Nat) (x5 : Int32) (s0 : Option Nat) (s1 : Int32) (s2 : Int32), f_X4_strip_b112 k62 a0 T112 x2 x3 x4 x5 s0 s1 s2 = some (.inl (r, S')) → ∀ (H : Heap) (locs : List Loc) (ls : Array Slot), gM D Y (gA S hs) s.heap T112 hs H locs → lv_has ls 7 [(0, va_rf (some a0)), (2, .int x2), (3, va_rf x3), (4, va_rf x4), (5, .int x5)] → W p l e rm_X4_strip s m args below meth c H locs 0 0 (MQ below (gQ (some (.int r)) D Y S' hs (gA S hs)) args s rm_X4_strip.cells rm_X4_strip.slots (gA S hs)) (F0 m 112 ls [.int s2, .int s1, va_rf s0]) := by
    intro k62 hk62 T112 x2 x3 x4 x5 s0 s1 s2 h H locs ls hM hl
    unfold f_X4_strip_b112 at h
    have g := gbind h
    clear h
    obtain ⟨a39, e40, h⟩ := g
    have t41 := (gtk_of e40).2
    rw [(gtk_of e40).1]
    have g := gbind h
    clear h
    obtain ⟨S43, e42, h⟩ := g
    refine g_callV (As := [.int s1, .int s2]) (rest := []) hF hM (c_X4_markGoing e42) k_X4_markGoing u828 u830 u21 rfl rfl t41 rfl hl.1 rfl (Nat.le_of_ble_eq_true rfl) dX4_strip_112 ⟨(Nat.le_of_ble_eq_true rfl), (Nat.le_of_ble_eq_true rfl)⟩ ⟨(Nat.le_of_ble_eq_true rfl), (Nat.le_of_ble_eq_true rfl)⟩ (fun H locs hM => ?_)
    refine lv_iinc (v := (x5 + 1)) (lv' := [(5, .int (x5 + 1)), (0, va_rf (some a0)), (2, .int x2), (3, va_rf x3), (4, va_rf x4)]) hx hb dX4_strip_115 hl (k := 4) rfl rfl (by decide) (by simp [rf_cat, ic_cat, lc_cat]) (fun ls hl => ?_)
    refine lv_goto (tgt := 62) hx hb dX4_strip_118 (by decide) ?_
    refine W.widen (k := 0) (n := 0) (Nat.le_of_ble_eq_true rfl) (Nat.le_of_ble_eq_true rfl) ?_
    exact hk62 _ _ _ _ _ h _ _ _ hM (lv_sub hl [1, 2, 3, 4, 0] rfl)
  have Jb95 : ∀ (k62 : GS → Int32 → Option Nat → Option Nat → Int32 → Option ((Int32 × GS) ⊕ Nat)) (hk62 : ∀ (T62 : GS) (x2 : Int32) (x3 : Option Nat) (x4 : Option Nat) (x5 : Int32), k62 T62 x2 x3 x4 x5 = some (.inl (r, S')) → ∀ (H : Heap) (locs : List Loc) (ls : Array Slot), gM D Y (gA S hs) s.heap T62 hs H locs → lv_has ls 7 [(0, va_rf (some a0)), (2, .int x2), (3, va_rf x3), (4, va_rf x4), (5, .int x5)] → W p l e rm_X4_strip s m args below meth c H locs 0 0 (MQ below (gQ (some (.int r)) D Y S' hs (gA S hs)) args s rm_X4_strip.cells rm_X4_strip.slots (gA S hs)) (F0 m 62 ls [])) (T95 : GS) (x2 : Int32) (x3 : Option Nat) (x4 : Option Nat) (x5 : Int32) (s0 : Int32), f_X4_strip_b95 k62 a0 T95 x2 x3 x4 x5 s0 = some (.inl (r, S')) → ∀ (H : Heap) (locs : List Loc) (ls : Array Slot), gM D Y (gA S hs) s.heap T95 hs H locs → lv_has ls 7 [(0, va_rf (some a0)), (2, .int x2), (3, va_rf x3), (4, va_rf x4), (5, .int x5)] → W p l e rm_X4_strip s m args below meth c H locs 0 0 (MQ below (gQ (some (.int r)) D Y S' hs (gA S hs)) args s rm_X4_strip.cells rm_X4_strip.slots (gA S hs)) (F0 m 95 ls [.int s0]) := by
    intro k62 hk62 T95 x2 x3 x4 x5 s0 h H locs ls hM hl
    unfold f_X4_strip_b95 at h
    refine lv_istore (i := 6) (lv' := [(6, .int s0), (0, va_rf (some a0)), (2, .int x2), (3, va_rf x3), (4, va_rf x4), (5, .int x5)]) hx hb dX4_strip_95 hl (by decide) rfl (fun ls hl => ?_)
    refine g_aload_n hx hb dX4_strip_97 rfl (lv_at hl 1 rfl) ?_
    refine lv_iload hx hb dX4_strip_98 (lv_at hl 5 rfl) ?_
    refine lv_iload hx hb dX4_strip_100 (lv_at hl 0 rfl) ?_
    refine lv_iload_n hx hb dX4_strip_102 rfl (lv_at hl 2 rfl) ?_
    have g := gckE h
    clear h
    obtain ⟨q37, h⟩ := g
    refine lv_irem hx hb dX4_strip_103 (of_decide_eq_true q37) ?_
    refine lv_if_ne (tgt := 111) hx hb dX4_strip_104 (by decide) (fun c38 => ?_) (fun c38 => ?_)
    · replace h := (if_neg c38).symm.trans h
      refine lv_iconst (v := 0) hx hb dX4_strip_111 (by decide) ?_
      refine W.widen (k := 0) (n := 0) (Nat.le_of_ble_eq_true rfl) (Nat.le_of_ble_eq_true rfl) ?_
      exact Jb112 _ hk62 _ _ _ _ _ _ _ _ h _ _ _ hM (lv_sub hl [1, 2, 3, 4, 5] rfl)
    · replace h := (if_pos c38).symm.trans h
      refine lv_iconst (v := 1) hx hb dX4_strip_107 (by decide) ?_
      refine lv_goto (tgt := 112) hx hb dX4_strip_108 (by decide) ?_
      refine W.widen (k := 0) (n := 0) (Nat.le_of_ble_eq_true rfl) (Nat.le_of_ble_eq_true rfl) ?_
      exact Jb112 _ hk62 _ _ _ _ _ _ _ _ h _ _ _ hM (lv_sub hl [1, 2, 3, 4, 5] rfl)
  have JL62 : ∀ (n : Nat) (T62 : GS) (x2 : Int32) (x3 : Option Nat) (x4 : Option Nat) (x5 : Int32), f_X4_strip_L62 a0 n T62 x2 x3 x4 x5 = some (.inl (r, S')) → ∀ (H : Heap) (locs : List Loc) (ls : Array Slot), gM D Y (gA S hs) s.heap T62 hs H locs → lv_has ls 7 [(0, va_rf (some a0)), (2, .int x2), (3, va_rf x3), (4, va_rf x4), (5, .int x5)] → W p l e rm_X4_strip s m args below meth c H locs 0 0 (MQ below (gQ (some (.int r)) D Y S' hs (gA S hs)) args s rm_X4_strip.cells rm_X4_strip.slots (gA S hs)) (F0 m 62 ls []) := by
    intro n
    induction n with
    | zero => intro T62 x2 x3 x4 x5 h; unfold f_X4_strip_L62 at h; exact nomatch h
    | succ n ih =>
      intro T62 x2 x3 x4 x5 h H locs ls hM hl
      unfold f_X4_strip_L62 at h
      refine lv_iload hx hb dX4_strip_62 (lv_at hl 4 rfl) ?_
      refine g_aload_n hx hb dX4_strip_64 rfl (lv_at hl 2 rfl) ?_
      have g := gbind h
      clear h
      obtain ⟨a19, e20, h⟩ := g
      have t21 := (gtk_of e20).2
      rw [(gtk_of e20).1]
      have g := gbind h
      clear h
      obtain ⟨v23, e22, h⟩ := g
      refine g_callV (As := []) (rest := [.int x5]) hF hM (c_X1_count e22) k_X1_count u195 u196 u197 rfl rfl t21 rfl hl.1 rfl (Nat.le_of_ble_eq_true rfl) dX4_strip_65 ⟨(Nat.le_of_ble_eq_true rfl), (Nat.le_of_ble_eq_true rfl)⟩ ⟨(Nat.le_of_ble_eq_true rfl), (Nat.le_of_ble_eq_true rfl)⟩ (fun H locs hM => ?_)
      refine lv_icmp_ge (tgt := 121) hx hb dX4_strip_68 (by decide) (fun c24 => ?_) (fun c24 => ?_)
      · replace h := (if_pos c24).symm.trans h
        refine g_aload_n hx hb dX4_strip_121 rfl (lv_at hl 0 rfl) ?_
        refine g_aload_n hx hb dX4_strip_122 rfl (lv_at hl 2 rfl) ?_
        refine g_aload hx hb dX4_strip_123 (lv_at hl 3 rfl) ?_
        have g := gckE h
        clear h
        obtain ⟨t25, h⟩ := g
        have t25 := eq_of_beq t25
        have g := gb2E h
        clear h
        obtain ⟨v27, S28, e26, h⟩ := g
        refine g_callV (As := [va_rf x3, va_rf x4]) (rest := []) hF hM (c_X4_removeGoing e26) k_X4_removeGoing u832 u834 u22 rfl rfl t25 rfl hl.1 rfl (Nat.le_of_ble_eq_true rfl) dX4_strip_125 ⟨(Nat.le_of_ble_eq_true rfl), (Nat.le_of_ble_eq_true rfl)⟩ ⟨(Nat.le_of_ble_eq_true rfl), (Nat.le_of_ble_eq_true rfl)⟩ (fun H locs hM => ?_)
        obtain ⟨q1, q2⟩ := Prod.mk.inj (Sum.inl.inj (Option.some.inj h))
        rw [← q1, ← q2]
        exact g_iret hF hM rfl rfl dX4_strip_128 (Nat.le_of_ble_eq_true rfl) (Nat.le_of_ble_eq_true rfl)
      · replace h := (if_neg c24).symm.trans h
        refine g_aload_n hx hb dX4_strip_71 rfl (lv_at hl 2 rfl) ?_
        have g := gbind h
        clear h
        obtain ⟨v29, e30, h⟩ := g
        refine g_getI hF hM fdX1 e30 (by decide) rfl u131 dX4_strip_72 ?_
        refine lv_bipush (v := 107) hx hb dX4_strip_75 (by decide) ?_
        refine lv_icmp_ne (tgt := 89) hx hb dX4_strip_77 (by decide) (fun c31 => ?_) (fun c31 => ?_)
        · replace h := (if_neg c31).symm.trans h
          refine g_aload_n hx hb dX4_strip_89 rfl (lv_at hl 2 rfl) ?_
          refine lv_iload hx hb dX4_strip_90 (lv_at hl 4 rfl) ?_
          have g := gbind h
          clear h
          obtain ⟨a32, e33, h⟩ := g
          have t34 := (gtk_of e33).2
          rw [(gtk_of e33).1]
          have g := gbind h
          clear h
          obtain ⟨v36, e35, h⟩ := g
          refine g_callV (As := [.int x5]) (rest := []) hF hM (c_X1_keyOf e35) k_X1_keyOf u699 u226 u227 rfl rfl t34 rfl hl.1 rfl (Nat.le_of_ble_eq_true rfl) dX4_strip_92 ⟨(Nat.le_of_ble_eq_true rfl), (Nat.le_of_ble_eq_true rfl)⟩ ⟨(Nat.le_of_ble_eq_true rfl), (Nat.le_of_ble_eq_true rfl)⟩ (fun H locs hM => ?_)
          refine W.widen (k := 0) (n := 0) (Nat.le_of_ble_eq_true rfl) (Nat.le_of_ble_eq_true rfl) ?_
          exact Jb95 _ ih _ _ _ _ _ _ h _ _ _ hM (lv_sub hl [0, 1, 2, 3, 4] rfl)
        · replace h := (if_pos c31).symm.trans h
          refine g_aload_n hx hb dX4_strip_80 rfl (lv_at hl 2 rfl) ?_
          refine lv_iload hx hb dX4_strip_81 (lv_at hl 4 rfl) ?_
          have g := gbind h
          clear h
          obtain ⟨a44, e45, h⟩ := g
          have t46 := (gtk_of e45).2
          rw [(gtk_of e45).1]
          have g := gbind h
          clear h
          obtain ⟨v48, e47, h⟩ := g
          refine g_callV (As := [.int x5]) (rest := []) hF hM (c_X1_numberOf e47) k_X1_numberOf u864 u210 u211 rfl rfl t46 rfl hl.1 rfl (Nat.le_of_ble_eq_true rfl) dX4_strip_83 ⟨(Nat.le_of_ble_eq_true rfl), (Nat.le_of_ble_eq_true rfl)⟩ ⟨(Nat.le_of_ble_eq_true rfl), (Nat.le_of_ble_eq_true rfl)⟩ (fun H locs hM => ?_)
          refine lv_goto (tgt := 95) hx hb dX4_strip_86 (by decide) ?_
          refine W.widen (k := 0) (n := 0) (Nat.le_of_ble_eq_true rfl) (Nat.le_of_ble_eq_true rfl) ?_
          exact Jb95 _ ih _ _ _ _ _ _ h _ _ _ hM (lv_sub hl [0, 1, 2, 3, 4] rfl)
  have Jb34 : ∀ (x2 : Int32) (x3 : Option Nat), f_X4_strip_b34 S a0 x2 x3 = some (.inl (r, S')) → ∀ (H : Heap) (locs : List Loc) (ls : Array Slot), gM D Y (gA S hs) s.heap S hs H locs → lv_has ls 7 [(0, va_rf (some a0)), (2, .int x2), (3, va_rf x3)] → W p l e rm_X4_strip s m args below meth c H locs 0 0 (MQ below (gQ (some (.int r)) D Y S' hs (gA S hs)) args s rm_X4_strip.cells rm_X4_strip.slots (gA S hs)) (F0 m 34 ls []) := by
    intro x2 x3 h H locs ls hM hl
    unfold f_X4_strip_b34 at h
    refine g_aload_n hx hb dX4_strip_34 rfl (lv_at hl 2 rfl) ?_
    have g := gthE h
    clear h
    rcases g with ⟨v14, e13, h⟩ | ⟨y15, e13, z16⟩
    · refine g_callS (As := [va_rf x3]) (rest := []) hF hM (c_X4_openStore e13) k_X4_openStore u732 u733 rfl hl.1 rfl (Nat.le_of_ble_eq_true rfl) dX4_strip_35 ⟨(Nat.le_of_ble_eq_true rfl), (Nat.le_of_ble_eq_true rfl)⟩ ⟨(Nat.le_of_ble_eq_true rfl), (Nat.le_of_ble_eq_true rfl)⟩ (fun H locs hM => ?_)
      refine g_astore (i := 4) (lv' := [(0, va_rf (some a0)), (2, .int x2), (3, va_rf x3)]) hx hb dX4_strip_38 hl (by decide) (fun v => by simp [rf_cat, ic_cat, lc_cat]) (fun ls hl => ?_)
      refine lv_iload_n hx hb dX4_strip_40 rfl (lv_at hl 2 rfl) ?_
      refine lv_iconst (v := 2) hx hb dX4_strip_41 (by decide) ?_
      refine lv_icmp_lt (tgt := 51) hx hb dX4_strip_42 (by decide) (fun c17 => ?_) (fun c17 => ?_)
      · replace h := (if_pos c17).symm.trans h
        exact nomatch (Option.some.inj h)
      · replace h := (if_neg c17).symm.trans h
        refine lv_iload_n hx hb dX4_strip_45 rfl (lv_at hl 2 rfl) ?_
        refine lv_bipush (v := 9) hx hb dX4_strip_46 (by decide) ?_
        refine lv_icmp_le (tgt := 59) hx hb dX4_strip_48 (by decide) (fun c18 => ?_) (fun c18 => ?_)
        · replace h := (if_pos c18).symm.trans h
          refine lv_iconst (v := 0) hx hb dX4_strip_59 (by decide) ?_
          refine lv_istore (i := 5) (lv' := [(5, .int 0), (4, va_rf v14), (0, va_rf (some a0)), (2, .int x2), (3, va_rf x3)]) hx hb dX4_strip_60 hl (by decide) (by simp [rf_cat, ic_cat, lc_cat]) (fun ls hl => ?_)
          refine W.widen (k := 0) (n := 0) (Nat.le_of_ble_eq_true rfl) (Nat.le_of_ble_eq_true rfl) ?_
          exact JL62 gN _ _ _ _ _ h _ _ _ hM (lv_sub hl [2, 3, 4, 1, 0] rfl)
        · replace h := (if_neg c18).symm.trans h
          exact nomatch (Option.some.inj h)
    · exact nomatch z16
  unfold f_X4_strip at h
  refine g_aload_n hx hb dX4_strip_0 rfl (lv_at hl 0 rfl) ?_
  refine lv_iload_n hx hb dX4_strip_1 rfl (lv_at hl 1 rfl) ?_
  have g := gckE h
  clear h
  obtain ⟨t1, h⟩ := g
  have t1 := eq_of_beq t1
  have g := gthE h
  clear h
  rcases g with ⟨v3, e2, h⟩ | ⟨y4, e2, z5⟩
  · refine g_callV (As := [.int x1]) (rest := []) hF hM (c_X4_held e2) k_X4_held u517 u519 u13 rfl rfl t1 rfl hl.1 rfl (Nat.le_of_ble_eq_true rfl) dX4_strip_2 ⟨(Nat.le_of_ble_eq_true rfl), (Nat.le_of_ble_eq_true rfl)⟩ ⟨(Nat.le_of_ble_eq_true rfl), (Nat.le_of_ble_eq_true rfl)⟩ (fun H locs hM => ?_)
    refine g_astore_n (i := 3) (lv' := [(0, va_rf (some a0)), (1, .int x1), (2, .int x2)]) hx hb dX4_strip_5 rfl hl (by decide) (fun v => rfl) (fun ls hl => ?_)
    refine g_aload_n hx hb dX4_strip_6 rfl (lv_at hl 0 rfl) ?_
    refine g_ifnull (tgt := 26) hx hb dX4_strip_7 (by decide) (fun c6 => ?_) (fun c6 => ?_)
    · replace h := (if_pos c6).symm.trans h
      exact nomatch (Option.some.inj h)
    · replace h := (if_neg c6).symm.trans h
      refine g_aload_n hx hb dX4_strip_10 rfl (lv_at hl 0 rfl) ?_
      have g := gbind h
      clear h
      obtain ⟨a7, e8, h⟩ := g
      have t9 := (gtk_of e8).2
      rw [(gtk_of e8).1]
      have g := gbind h
      clear h
      obtain ⟨v11, e10, h⟩ := g
      refine g_callV (As := []) (rest := []) hF hM (c_X1_isRow e10) k_X1_isRow u811 u812 u813 rfl rfl t9 rfl hl.1 rfl (Nat.le_of_ble_eq_true rfl) dX4_strip_11 ⟨(Nat.le_of_ble_eq_true rfl), (Nat.le_of_ble_eq_true rfl)⟩ ⟨(Nat.le_of_ble_eq_true rfl), (Nat.le_of_ble_eq_true rfl)⟩ (fun H locs hM => ?_)
      refine lv_if_ne (tgt := 34) hx hb dX4_strip_14 (by decide) (fun c12 => ?_) (fun c12 => ?_)
      · replace h := (if_neg c12).symm.trans h
        refine W.widen (k := 0) (n := 0) (Nat.le_of_ble_eq_true rfl) (Nat.le_of_ble_eq_true rfl) ?_
        exact Jb34 _ _ h _ _ _ hM (lv_sub hl [1, 3, 0] rfl)
      · replace h := (if_pos c12).symm.trans h
        refine g_aload_n hx hb dX4_strip_17 rfl (lv_at hl 0 rfl) ?_
        have g := gbind h
        clear h
        obtain ⟨v49, e50, h⟩ := g
        refine g_getI hF hM fdX1 e50 (by decide) rfl u131 dX4_strip_18 ?_
        refine lv_bipush (v := 107) hx hb dX4_strip_21 (by decide) ?_
        refine lv_icmp_eq (tgt := 34) hx hb dX4_strip_23 (by decide) (fun c51 => ?_) (fun c51 => ?_)
        · replace h := (if_pos c51).symm.trans h
          refine W.widen (k := 0) (n := 0) (Nat.le_of_ble_eq_true rfl) (Nat.le_of_ble_eq_true rfl) ?_
          exact Jb34 _ _ h _ _ _ hM (lv_sub hl [1, 3, 0] rfl)
        · replace h := (if_neg c51).symm.trans h
          exact nomatch (Option.some.inj h)
  · exact nomatch z5
abbrev rmx_X4_strip : Room := { frames := 7, cells := 1, slots := 6, locals := 110 }
set_option maxHeartbeats 4000000 in
set_option maxRecDepth 100000 in
theorem cx_X4_strip {l : Launch} {D : va_G} {Y : Nat → ClassId} {S : GS} {hs : Nat} {a0 : Nat} {x1 : Int32} {x2 : Int32} {x : Nat} (hfl : l.stackTraces = false) (h : f_X4_strip S a0 x1 x2 = some (.inr x)) : gMx l yX4_strip (gWs yX4_strip cX4_strip 7 (some .int)) rmx_X4_strip [va_rf (some a0), .int x1, .int x2] D Y S hs (.inr x) := by
  refine g_ofWx (by decide +kernel) (Or.inl ⟨(Nat.le_of_ble_eq_true rfl), (List.forall_mem_cons.mpr ⟨rf_cat _, (List.forall_mem_cons.mpr ⟨rfl, (List.forall_mem_cons.mpr ⟨rfl, (fun _ h => absurd h List.not_mem_nil)⟩)⟩)⟩)⟩) ?_
  intro p e s m args below meth c ls hsz hout hF hM hl
  have hl : lv_has ls 7 [(0, va_rf (some a0)), (1, .int x1), (2, .int x2)] := by rw [g_args [va_rf (some a0), .int x1, .int x2] 0 (List.forall_mem_cons.mpr ⟨rf_cat _, (List.forall_mem_cons.mpr ⟨rfl, (List.forall_mem_cons.mpr ⟨rfl, (fun _ h => absurd h List.not_mem_nil)⟩)⟩)⟩)] at hl; exact hl
  have hF : gF p s m args meth c RX4 cX4_strip 7 (some .int) D Y (gA S hs) := hF
  have hx := hF.1
  have hb := hF.2.1
  have Jb112 : ∀ (k62 : GS → Int32 → Option Nat → Option Nat → Int32 → Option ((Int32 × GS) ⊕ Nat)) (hk62 : ∀ (T62 : GS) (x2 : Int32) (x3 : Option Nat) (x4 : Option Nat) (x5 : Int32), k62 T62 x2 x3 x4 x5 = some (.inr x) → ∀ (H : Heap) (locs : List Loc) (ls : Array Slot), gM D Y (gA S hs) s.heap T62 hs H locs → lv_has ls 7 [(0, va_rf (some a0)), (2, .int x2), (3, va_rf x3), (4, va_rf x4), (5, .int x5)] → W p l e rmx_X4_strip s m args below meth c H locs 0 0 (vx_MQ below (gQz (.inr x) D Y (gA S hs)) (gXz (.inr x) D Y S (gA S hs)) args s rmx_X4_strip.cells rmx_X4_strip.slots (gA S hs)) (F0 m 62 ls [])) (T112 : GS) (x2 : Int32) (x3 : Option Nat) (x4 : Option Nat) (x5 : Int32) (s0 : Option Nat) (s1 : Int32) (s2 : Int32), f_X4_strip_b112 k62 a0 T112 x2 x3 x4 x5 s0 s1 s2 = some (.inr x) → ∀ (H : Heap) (locs : List Loc) (ls : Array Slot), gM D Y (gA S hs) s.heap T112 hs H locs → lv_has ls 7 [(0, va_rf (some a0)), (2, .int x2), (3, va_rf x3), (4, va_rf x4), (5, .int x5)] → W p l e rmx_X4_strip s m args below meth c H locs 0 0 (vx_MQ below (gQz (.inr x) D Y (gA S hs)) (gXz (.inr x) D Y S (gA S hs)) args s rmx_X4_strip.cells rmx_X4_strip.slots (gA S hs)) (F0 m 112 ls [.int s2, .int s1, va_rf s0]) := by
    intro k62 hk62 T112 x2 x3 x4 x5 s0 s1 s2 h H locs ls hM hl
    unfold f_X4_strip_b112 at h
    have g := gbind h
    clear h
    obtain ⟨a39, e40, h⟩ := g
    have t41 := (gtk_of e40).2
    rw [(gtk_of e40).1]
    have g := gbind h
    clear h
    obtain ⟨S43, e42, h⟩ := g
    refine g_callV (As := [.int s1, .int s2]) (rest := []) hF hM (c_X4_markGoing e42) k_X4_markGoing u828 u830 u21 rfl rfl t41 rfl hl.1 rfl (Nat.le_of_ble_eq_true rfl) dX4_strip_112 ⟨(Nat.le_of_ble_eq_true rfl), (Nat.le_of_ble_eq_true rfl)⟩ ⟨(Nat.le_of_ble_eq_true rfl), (Nat.le_of_ble_eq_true rfl)⟩ (fun H locs hM => ?_)
    refine lv_iinc (v := (x5 + 1)) (lv' := [(5, .int (x5 + 1)), (0, va_rf (some a0)), (2, .int x2), (3, va_rf x3), (4, va_rf x4)]) hx hb dX4_strip_115 hl (k := 4) rfl rfl (by decide) (by simp [rf_cat, ic_cat, lc_cat]) (fun ls hl => ?_)
    refine lv_goto (tgt := 62) hx hb dX4_strip_118 (by decide) ?_
    refine W.widen (k := 0) (n := 0) (Nat.le_of_ble_eq_true rfl) (Nat.le_of_ble_eq_true rfl) ?_
    exact hk62 _ _ _ _ _ h _ _ _ hM (lv_sub hl [1, 2, 3, 4, 0] rfl)
  have Jb95 : ∀ (k62 : GS → Int32 → Option Nat → Option Nat → Int32 → Option ((Int32 × GS) ⊕ Nat)) (hk62 : ∀ (T62 : GS) (x2 : Int32) (x3 : Option Nat) (x4 : Option Nat) (x5 : Int32), k62 T62 x2 x3 x4 x5 = some (.inr x) → ∀ (H : Heap) (locs : List Loc) (ls : Array Slot), gM D Y (gA S hs) s.heap T62 hs H locs → lv_has ls 7 [(0, va_rf (some a0)), (2, .int x2), (3, va_rf x3), (4, va_rf x4), (5, .int x5)] → W p l e rmx_X4_strip s m args below meth c H locs 0 0 (vx_MQ below (gQz (.inr x) D Y (gA S hs)) (gXz (.inr x) D Y S (gA S hs)) args s rmx_X4_strip.cells rmx_X4_strip.slots (gA S hs)) (F0 m 62 ls [])) (T95 : GS) (x2 : Int32) (x3 : Option Nat) (x4 : Option Nat) (x5 : Int32) (s0 : Int32), f_X4_strip_b95 k62 a0 T95 x2 x3 x4 x5 s0 = some (.inr x) → ∀ (H : Heap) (locs : List Loc) (ls : Array Slot), gM D Y (gA S hs) s.heap T95 hs H locs → lv_has ls 7 [(0, va_rf (some a0)), (2, .int x2), (3, va_rf x3), (4, va_rf x4), (5, .int x5)] → W p l e rmx_X4_strip s m args below meth c H locs 0 0 (vx_MQ below (gQz (.inr x) D Y (gA S hs)) (gXz (.inr x) D Y S (gA S hs)) args s rmx_X4_strip.cells rmx_X4_strip.slots (gA S hs)) (F0 m 95 ls [.int s0]) := by
    intro k62 hk62 T95 x2 x3 x4 x5 s0 h H locs ls hM hl
    unfold f_X4_strip_b95 at h
    refine lv_istore (i := 6) (lv' := [(6, .int s0), (0, va_rf (some a0)), (2, .int x2), (3, va_rf x3), (4, va_rf x4), (5, .int x5)]) hx hb dX4_strip_95 hl (by decide) rfl (fun ls hl => ?_)
    refine g_aload_n hx hb dX4_strip_97 rfl (lv_at hl 1 rfl) ?_
    refine lv_iload hx hb dX4_strip_98 (lv_at hl 5 rfl) ?_
    refine lv_iload hx hb dX4_strip_100 (lv_at hl 0 rfl) ?_
    refine lv_iload_n hx hb dX4_strip_102 rfl (lv_at hl 2 rfl) ?_
    have g := gckE h
    clear h
    obtain ⟨q37, h⟩ := g
    refine lv_irem hx hb dX4_strip_103 (of_decide_eq_true q37) ?_
    refine lv_if_ne (tgt := 111) hx hb dX4_strip_104 (by decide) (fun c38 => ?_) (fun c38 => ?_)
    · replace h := (if_neg c38).symm.trans h
      refine lv_iconst (v := 0) hx hb dX4_strip_111 (by decide) ?_
      refine W.widen (k := 0) (n := 0) (Nat.le_of_ble_eq_true rfl) (Nat.le_of_ble_eq_true rfl) ?_
      exact Jb112 _ hk62 _ _ _ _ _ _ _ _ h _ _ _ hM (lv_sub hl [1, 2, 3, 4, 5] rfl)
    · replace h := (if_pos c38).symm.trans h
      refine lv_iconst (v := 1) hx hb dX4_strip_107 (by decide) ?_
      refine lv_goto (tgt := 112) hx hb dX4_strip_108 (by decide) ?_
      refine W.widen (k := 0) (n := 0) (Nat.le_of_ble_eq_true rfl) (Nat.le_of_ble_eq_true rfl) ?_
      exact Jb112 _ hk62 _ _ _ _ _ _ _ _ h _ _ _ hM (lv_sub hl [1, 2, 3, 4, 5] rfl)
  have JL62 : ∀ (n : Nat) (T62 : GS) (x2 : Int32) (x3 : Option Nat) (x4 : Option Nat) (x5 : Int32), f_X4_strip_L62 a0 n T62 x2 x3 x4 x5 = some (.inr x) → ∀ (H : Heap) (locs : List Loc) (ls : Array Slot), gM D Y (gA S hs) s.heap T62 hs H locs → lv_has ls 7 [(0, va_rf (some a0)), (2, .int x2), (3, va_rf x3), (4, va_rf x4), (5, .int x5)] → W p l e rmx_X4_strip s m args below meth c H locs 0 0 (vx_MQ below (gQz (.inr x) D Y (gA S hs)) (gXz (.inr x) D Y S (gA S hs)) args s rmx_X4_strip.cells rmx_X4_strip.slots (gA S hs)) (F0 m 62 ls []) := by
    intro n
    induction n with
    | zero => intro T62 x2 x3 x4 x5 h; unfold f_X4_strip_L62 at h; exact nomatch h
    | succ n ih =>
      intro T62 x2 x3 x4 x5 h H locs ls hM hl
      unfold f_X4_strip_L62 at h
      refine lv_iload hx hb dX4_strip_62 (lv_at hl 4 rfl) ?_
      refine g_aload_n hx hb dX4_strip_64 rfl (lv_at hl 2 rfl) ?_
      have g := gbind h
      clear h
      obtain ⟨a19, e20, h⟩ := g
      have t21 := (gtk_of e20).2
      rw [(gtk_of e20).1]
      have g := gbind h
      clear h
      obtain ⟨v23, e22, h⟩ := g
      refine g_callV (As := []) (rest := [.int x5]) hF hM (c_X1_count e22) k_X1_count u195 u196 u197 rfl rfl t21 rfl hl.1 rfl (Nat.le_of_ble_eq_true rfl) dX4_strip_65 ⟨(Nat.le_of_ble_eq_true rfl), (Nat.le_of_ble_eq_true rfl)⟩ ⟨(Nat.le_of_ble_eq_true rfl), (Nat.le_of_ble_eq_true rfl)⟩ (fun H locs hM => ?_)
      refine lv_icmp_ge (tgt := 121) hx hb dX4_strip_68 (by decide) (fun c24 => ?_) (fun c24 => ?_)
      · replace h := (if_pos c24).symm.trans h
        refine g_aload_n hx hb dX4_strip_121 rfl (lv_at hl 0 rfl) ?_
        refine g_aload_n hx hb dX4_strip_122 rfl (lv_at hl 2 rfl) ?_
        refine g_aload hx hb dX4_strip_123 (lv_at hl 3 rfl) ?_
        have g := gckE h
        clear h
        obtain ⟨t25, h⟩ := g
        have t25 := eq_of_beq t25
        have g := gb2E h
        clear h
        obtain ⟨v27, S28, e26, h⟩ := g
        refine g_callV (As := [va_rf x3, va_rf x4]) (rest := []) hF hM (c_X4_removeGoing e26) k_X4_removeGoing u832 u834 u22 rfl rfl t25 rfl hl.1 rfl (Nat.le_of_ble_eq_true rfl) dX4_strip_125 ⟨(Nat.le_of_ble_eq_true rfl), (Nat.le_of_ble_eq_true rfl)⟩ ⟨(Nat.le_of_ble_eq_true rfl), (Nat.le_of_ble_eq_true rfl)⟩ (fun H locs hM => ?_)
        exact nomatch (Option.some.inj h)
      · replace h := (if_neg c24).symm.trans h
        refine g_aload_n hx hb dX4_strip_71 rfl (lv_at hl 2 rfl) ?_
        have g := gbind h
        clear h
        obtain ⟨v29, e30, h⟩ := g
        refine g_getI hF hM fdX1 e30 (by decide) rfl u131 dX4_strip_72 ?_
        refine lv_bipush (v := 107) hx hb dX4_strip_75 (by decide) ?_
        refine lv_icmp_ne (tgt := 89) hx hb dX4_strip_77 (by decide) (fun c31 => ?_) (fun c31 => ?_)
        · replace h := (if_neg c31).symm.trans h
          refine g_aload_n hx hb dX4_strip_89 rfl (lv_at hl 2 rfl) ?_
          refine lv_iload hx hb dX4_strip_90 (lv_at hl 4 rfl) ?_
          have g := gbind h
          clear h
          obtain ⟨a32, e33, h⟩ := g
          have t34 := (gtk_of e33).2
          rw [(gtk_of e33).1]
          have g := gbind h
          clear h
          obtain ⟨v36, e35, h⟩ := g
          refine g_callV (As := [.int x5]) (rest := []) hF hM (c_X1_keyOf e35) k_X1_keyOf u699 u226 u227 rfl rfl t34 rfl hl.1 rfl (Nat.le_of_ble_eq_true rfl) dX4_strip_92 ⟨(Nat.le_of_ble_eq_true rfl), (Nat.le_of_ble_eq_true rfl)⟩ ⟨(Nat.le_of_ble_eq_true rfl), (Nat.le_of_ble_eq_true rfl)⟩ (fun H locs hM => ?_)
          refine W.widen (k := 0) (n := 0) (Nat.le_of_ble_eq_true rfl) (Nat.le_of_ble_eq_true rfl) ?_
          exact Jb95 _ ih _ _ _ _ _ _ h _ _ _ hM (lv_sub hl [0, 1, 2, 3, 4] rfl)
        · replace h := (if_pos c31).symm.trans h
          refine g_aload_n hx hb dX4_strip_80 rfl (lv_at hl 2 rfl) ?_
          refine lv_iload hx hb dX4_strip_81 (lv_at hl 4 rfl) ?_
          have g := gbind h
          clear h
          obtain ⟨a44, e45, h⟩ := g
          have t46 := (gtk_of e45).2
          rw [(gtk_of e45).1]
          have g := gbind h
          clear h
          obtain ⟨v48, e47, h⟩ := g
          refine g_callV (As := [.int x5]) (rest := []) hF hM (c_X1_numberOf e47) k_X1_numberOf u864 u210 u211 rfl rfl t46 rfl hl.1 rfl (Nat.le_of_ble_eq_true rfl) dX4_strip_83 ⟨(Nat.le_of_ble_eq_true rfl), (Nat.le_of_ble_eq_true rfl)⟩ ⟨(Nat.le_of_ble_eq_true rfl), (Nat.le_of_ble_eq_true rfl)⟩ (fun H locs hM => ?_)
          refine lv_goto (tgt := 95) hx hb dX4_strip_86 (by decide) ?_
          refine W.widen (k := 0) (n := 0) (Nat.le_of_ble_eq_true rfl) (Nat.le_of_ble_eq_true rfl) ?_
          exact Jb95 _ ih _ _ _ _ _ _ h _ _ _ hM (lv_sub hl [0, 1, 2, 3, 4] rfl)
  have Jb34 : ∀ (x2 : Int32) (x3 : Option Nat), f_X4_strip_b34 S a0 x2 x3 = some (.inr x) → ∀ (H : Heap) (locs : List Loc) (ls : Array Slot), gM D Y (gA S hs) s.heap S hs H locs → lv_has ls 7 [(0, va_rf (some a0)), (2, .int x2), (3, va_rf x3)] → W p l e rmx_X4_strip s m args below meth c H locs 0 0 (vx_MQ below (gQz (.inr x) D Y (gA S hs)) (gXz (.inr x) D Y S (gA S hs)) args s rmx_X4_strip.cells rmx_X4_strip.slots (gA S hs)) (F0 m 34 ls []) := by
    intro x2 x3 h H locs ls hM hl
    unfold f_X4_strip_b34 at h
    refine g_aload_n hx hb dX4_strip_34 rfl (lv_at hl 2 rfl) ?_
    have g := gthE h
    clear h
    rcases g with ⟨v14, e13, h⟩ | ⟨y15, e13, z16⟩
    · refine g_callS (As := [va_rf x3]) (rest := []) hF hM (c_X4_openStore e13) k_X4_openStore u732 u733 rfl hl.1 rfl (Nat.le_of_ble_eq_true rfl) dX4_strip_35 ⟨(Nat.le_of_ble_eq_true rfl), (Nat.le_of_ble_eq_true rfl)⟩ ⟨(Nat.le_of_ble_eq_true rfl), (Nat.le_of_ble_eq_true rfl)⟩ (fun H locs hM => ?_)
      refine g_astore (i := 4) (lv' := [(0, va_rf (some a0)), (2, .int x2), (3, va_rf x3)]) hx hb dX4_strip_38 hl (by decide) (fun v => by simp [rf_cat, ic_cat, lc_cat]) (fun ls hl => ?_)
      refine lv_iload_n hx hb dX4_strip_40 rfl (lv_at hl 2 rfl) ?_
      refine lv_iconst (v := 2) hx hb dX4_strip_41 (by decide) ?_
      refine lv_icmp_lt (tgt := 51) hx hb dX4_strip_42 (by decide) (fun c17 => ?_) (fun c17 => ?_)
      · replace h := (if_pos c17).symm.trans h
        exact g_throw hF hM hfl hout ew_X4_57_59 (congrArg Sum.inr (Sum.inr.inj (Option.some.inj h)).symm) hl.1 dX4_strip_51 dX4_strip_54 dX4_strip_55 dX4_strip_58 (Nat.le_of_ble_eq_true rfl) (Nat.le_of_ble_eq_true rfl) (Nat.le_of_ble_eq_true rfl) (Nat.le_of_ble_eq_true rfl) (Nat.le_of_ble_eq_true rfl) (Nat.le_of_ble_eq_true rfl)
      · replace h := (if_neg c17).symm.trans h
        refine lv_iload_n hx hb dX4_strip_45 rfl (lv_at hl 2 rfl) ?_
        refine lv_bipush (v := 9) hx hb dX4_strip_46 (by decide) ?_
        refine lv_icmp_le (tgt := 59) hx hb dX4_strip_48 (by decide) (fun c18 => ?_) (fun c18 => ?_)
        · replace h := (if_pos c18).symm.trans h
          refine lv_iconst (v := 0) hx hb dX4_strip_59 (by decide) ?_
          refine lv_istore (i := 5) (lv' := [(5, .int 0), (4, va_rf v14), (0, va_rf (some a0)), (2, .int x2), (3, va_rf x3)]) hx hb dX4_strip_60 hl (by decide) (by simp [rf_cat, ic_cat, lc_cat]) (fun ls hl => ?_)
          refine W.widen (k := 0) (n := 0) (Nat.le_of_ble_eq_true rfl) (Nat.le_of_ble_eq_true rfl) ?_
          exact JL62 gN _ _ _ _ _ h _ _ _ hM (lv_sub hl [2, 3, 4, 1, 0] rfl)
        · replace h := (if_neg c18).symm.trans h
          exact g_throw hF hM hfl hout ew_X4_57_59 (congrArg Sum.inr (Sum.inr.inj (Option.some.inj h)).symm) hl.1 dX4_strip_51 dX4_strip_54 dX4_strip_55 dX4_strip_58 (Nat.le_of_ble_eq_true rfl) (Nat.le_of_ble_eq_true rfl) (Nat.le_of_ble_eq_true rfl) (Nat.le_of_ble_eq_true rfl) (Nat.le_of_ble_eq_true rfl) (Nat.le_of_ble_eq_true rfl)
    · exact g_callSt (As := [va_rf x3]) (rest := []) hF hM hout (cx_X4_openStore hfl e13) k_X4_openStore u732 u733 rfl hl.1 rfl (Nat.le_of_ble_eq_true rfl) dX4_strip_35 ⟨(Nat.le_of_ble_eq_true rfl), (Nat.le_of_ble_eq_true rfl)⟩ ⟨(Nat.le_of_ble_eq_true rfl), (Nat.le_of_ble_eq_true rfl)⟩ (Nat.le_of_ble_eq_true rfl) (Nat.le_of_ble_eq_true rfl) (congrArg Sum.inr (Sum.inr.inj z16))
  unfold f_X4_strip at h
  refine g_aload_n hx hb dX4_strip_0 rfl (lv_at hl 0 rfl) ?_
  refine lv_iload_n hx hb dX4_strip_1 rfl (lv_at hl 1 rfl) ?_
  have g := gckE h
  clear h
  obtain ⟨t1, h⟩ := g
  have t1 := eq_of_beq t1
  have g := gthE h
  clear h
  rcases g with ⟨v3, e2, h⟩ | ⟨y4, e2, z5⟩
  · refine g_callV (As := [.int x1]) (rest := []) hF hM (c_X4_held e2) k_X4_held u517 u519 u13 rfl rfl t1 rfl hl.1 rfl (Nat.le_of_ble_eq_true rfl) dX4_strip_2 ⟨(Nat.le_of_ble_eq_true rfl), (Nat.le_of_ble_eq_true rfl)⟩ ⟨(Nat.le_of_ble_eq_true rfl), (Nat.le_of_ble_eq_true rfl)⟩ (fun H locs hM => ?_)
    refine g_astore_n (i := 3) (lv' := [(0, va_rf (some a0)), (1, .int x1), (2, .int x2)]) hx hb dX4_strip_5 rfl hl (by decide) (fun v => rfl) (fun ls hl => ?_)
    refine g_aload_n hx hb dX4_strip_6 rfl (lv_at hl 0 rfl) ?_
    refine g_ifnull (tgt := 26) hx hb dX4_strip_7 (by decide) (fun c6 => ?_) (fun c6 => ?_)
    · replace h := (if_pos c6).symm.trans h
      exact g_throw hF hM hfl hout ew_X4_50_52 (congrArg Sum.inr (Sum.inr.inj (Option.some.inj h)).symm) hl.1 dX4_strip_26 dX4_strip_29 dX4_strip_30 dX4_strip_33 (Nat.le_of_ble_eq_true rfl) (Nat.le_of_ble_eq_true rfl) (Nat.le_of_ble_eq_true rfl) (Nat.le_of_ble_eq_true rfl) (Nat.le_of_ble_eq_true rfl) (Nat.le_of_ble_eq_true rfl)
    · replace h := (if_neg c6).symm.trans h
      refine g_aload_n hx hb dX4_strip_10 rfl (lv_at hl 0 rfl) ?_
      have g := gbind h
      clear h
      obtain ⟨a7, e8, h⟩ := g
      have t9 := (gtk_of e8).2
      rw [(gtk_of e8).1]
      have g := gbind h
      clear h
      obtain ⟨v11, e10, h⟩ := g
      refine g_callV (As := []) (rest := []) hF hM (c_X1_isRow e10) k_X1_isRow u811 u812 u813 rfl rfl t9 rfl hl.1 rfl (Nat.le_of_ble_eq_true rfl) dX4_strip_11 ⟨(Nat.le_of_ble_eq_true rfl), (Nat.le_of_ble_eq_true rfl)⟩ ⟨(Nat.le_of_ble_eq_true rfl), (Nat.le_of_ble_eq_true rfl)⟩ (fun H locs hM => ?_)
      refine lv_if_ne (tgt := 34) hx hb dX4_strip_14 (by decide) (fun c12 => ?_) (fun c12 => ?_)
      · replace h := (if_neg c12).symm.trans h
        refine W.widen (k := 0) (n := 0) (Nat.le_of_ble_eq_true rfl) (Nat.le_of_ble_eq_true rfl) ?_
        exact Jb34 _ _ h _ _ _ hM (lv_sub hl [1, 3, 0] rfl)
      · replace h := (if_pos c12).symm.trans h
        refine g_aload_n hx hb dX4_strip_17 rfl (lv_at hl 0 rfl) ?_
        have g := gbind h
        clear h
        obtain ⟨v49, e50, h⟩ := g
        refine g_getI hF hM fdX1 e50 (by decide) rfl u131 dX4_strip_18 ?_
        refine lv_bipush (v := 107) hx hb dX4_strip_21 (by decide) ?_
        refine lv_icmp_eq (tgt := 34) hx hb dX4_strip_23 (by decide) (fun c51 => ?_) (fun c51 => ?_)
        · replace h := (if_pos c51).symm.trans h
          refine W.widen (k := 0) (n := 0) (Nat.le_of_ble_eq_true rfl) (Nat.le_of_ble_eq_true rfl) ?_
          exact Jb34 _ _ h _ _ _ hM (lv_sub hl [1, 3, 0] rfl)
        · replace h := (if_neg c51).symm.trans h
          exact g_throw hF hM hfl hout ew_X4_50_52 (congrArg Sum.inr (Sum.inr.inj (Option.some.inj h)).symm) hl.1 dX4_strip_26 dX4_strip_29 dX4_strip_30 dX4_strip_33 (Nat.le_of_ble_eq_true rfl) (Nat.le_of_ble_eq_true rfl) (Nat.le_of_ble_eq_true rfl) (Nat.le_of_ble_eq_true rfl) (Nat.le_of_ble_eq_true rfl) (Nat.le_of_ble_eq_true rfl)
  · exact g_callVt (As := [.int x1]) (rest := []) hF hM hout (cx_X4_held hfl e2) k_X4_held u517 u519 u13 rfl rfl t1 rfl hl.1 rfl (Nat.le_of_ble_eq_true rfl) dX4_strip_2 ⟨(Nat.le_of_ble_eq_true rfl), (Nat.le_of_ble_eq_true rfl)⟩ ⟨(Nat.le_of_ble_eq_true rfl), (Nat.le_of_ble_eq_true rfl)⟩ (Nat.le_of_ble_eq_true rfl) (Nat.le_of_ble_eq_true rfl) (congrArg Sum.inr (Sum.inr.inj z5))
abbrev rm_X4_weave : Room := { frames := 3, cells := 0, slots := 0, locals := 69 }
theorem k_X4_weave : gKc yX4_weave cX4_weave 8 (some .int) 3 := ⟨u871, u63, by decide +kernel, by decide +kernel, by decide +kernel⟩
set_option maxHeartbeats 4000000 in
set_option maxRecDepth 100000 in
theorem c_X4_weave {l : Launch} {D : va_G} {Y : Nat → ClassId} {S : GS} {hs : Nat} {a0 : Nat} {x1 : Int32} {x2 : Int32} {x3 : Int32} {r : Int32} {S' : GS} (h : f_X4_weave S a0 x1 x2 x3 = some (.inl (r, S'))) : gMet l yX4_weave (gWs yX4_weave cX4_weave 8 (some .int)) rm_X4_weave [va_rf (some a0), .int x1, .int x2, .int x3] D Y S hs (some (.int r)) S' hs := by
  refine g_ofW (by decide +kernel) (Or.inl ⟨(Nat.le_of_ble_eq_true rfl), (List.forall_mem_cons.mpr ⟨rf_cat _, (List.forall_mem_cons.mpr ⟨rfl, (List.forall_mem_cons.mpr ⟨rfl, (List.forall_mem_cons.mpr ⟨rfl, (fun _ h => absurd h List.not_mem_nil)⟩)⟩)⟩)⟩)⟩) ?_
  intro p e s m args below meth c ls hsz hname hF hM hl
  have hl : lv_has ls 8 [(0, va_rf (some a0)), (1, .int x1), (2, .int x2), (3, .int x3)] := by rw [g_args [va_rf (some a0), .int x1, .int x2, .int x3] 0 (List.forall_mem_cons.mpr ⟨rf_cat _, (List.forall_mem_cons.mpr ⟨rfl, (List.forall_mem_cons.mpr ⟨rfl, (List.forall_mem_cons.mpr ⟨rfl, (fun _ h => absurd h List.not_mem_nil)⟩)⟩)⟩)⟩)] at hl; exact hl
  have hF : gF p s m args meth c RX4 cX4_weave 8 (some .int) D Y (gA S hs) := hF
  have hx := hF.1
  have hb := hF.2.1
  have Jb77 : ∀ (k43 : GS → Int32 → Int32 → Option Nat → Option Nat → Int32 → Int32 → Option ((Int32 × GS) ⊕ Nat)) (hk43 : ∀ (T43 : GS) (x2 : Int32) (x3 : Int32) (x4 : Option Nat) (x5 : Option Nat) (x6 : Int32) (x7 : Int32), k43 T43 x2 x3 x4 x5 x6 x7 = some (.inl (r, S')) → ∀ (H : Heap) (locs : List Loc) (ls : Array Slot), gM D Y (gA S hs) s.heap T43 hs H locs → lv_has ls 8 [(0, va_rf (some a0)), (2, .int x2), (3, .int x3), (4, va_rf x4), (5, va_rf x5), (6, .int x6), (7, .int x7)] → W p l e rm_X4_weave s m args below meth c H locs 0 0 (MQ below (gQ (some (.int r)) D Y S' hs (gA S hs)) args s rm_X4_weave.cells rm_X4_weave.slots (gA S hs)) (F0 m 43 ls [])) (T77 : GS) (x2 : Int32) (x3 : Int32) (x4 : Option Nat) (x5 : Option Nat) (x6 : Int32) (x7 : Int32), f_X4_weave_b77 k43 a0 T77 x2 x3 x4 x5 x6 x7 = some (.inl (r, S')) → ∀ (H : Heap) (locs : List Loc) (ls : Array Slot), gM D Y (gA S hs) s.heap T77 hs H locs → lv_has ls 8 [(0, va_rf (some a0)), (2, .int x2), (3, .int x3), (4, va_rf x4), (5, va_rf x5), (6, .int x6), (7, .int x7)] → W p l e rm_X4_weave s m args below meth c H locs 0 0 (MQ below (gQ (some (.int r)) D Y S' hs (gA S hs)) args s rm_X4_weave.cells rm_X4_weave.slots (gA S hs)) (F0 m 77 ls []) := by
    intro k43 hk43 T77 x2 x3 x4 x5 x6 x7 h H locs ls hM hl
    unfold f_X4_weave_b77 at h
    refine lv_iinc (v := (x7 + (-1))) (lv' := [(7, .int (x7 + (-1))), (0, va_rf (some a0)), (2, .int x2), (3, .int x3), (4, va_rf x4), (5, va_rf x5), (6, .int x6)]) hx hb dX4_weave_77 hl (k := 6) rfl rfl (by decide) rfl (fun ls hl => ?_)
    refine lv_goto (tgt := 43) hx hb dX4_weave_80 (by decide) ?_
    refine W.widen (k := 0) (n := 0) (Nat.le_of_ble_eq_true rfl) (Nat.le_of_ble_eq_true rfl) ?_
    exact hk43 _ _ _ _ _ _ _ h _ _ _ hM (lv_sub hl [1, 2, 3, 4, 5, 6, 0] rfl)
  have JL43 : ∀ (n : Nat) (T43 : GS) (x2 : Int32) (x3 : Int32) (x4 : Option Nat) (x5 : Option Nat) (x6 : Int32) (x7 : Int32), f_X4_weave_L43 a0 n T43 x2 x3 x4 x5 x6 x7 = some (.inl (r, S')) → ∀ (H : Heap) (locs : List Loc) (ls : Array Slot), gM D Y (gA S hs) s.heap T43 hs H locs → lv_has ls 8 [(0, va_rf (some a0)), (2, .int x2), (3, .int x3), (4, va_rf x4), (5, va_rf x5), (6, .int x6), (7, .int x7)] → W p l e rm_X4_weave s m args below meth c H locs 0 0 (MQ below (gQ (some (.int r)) D Y S' hs (gA S hs)) args s rm_X4_weave.cells rm_X4_weave.slots (gA S hs)) (F0 m 43 ls []) := by
    intro n
    induction n with
    | zero => intro T43 x2 x3 x4 x5 x6 x7 h; unfold f_X4_weave_L43 at h; exact nomatch h
    | succ n ih =>
      intro T43 x2 x3 x4 x5 x6 x7 h H locs ls hM hl
      unfold f_X4_weave_L43 at h
      refine lv_iload hx hb dX4_weave_43 (lv_at hl 6 rfl) ?_
      refine lv_if_lt (tgt := 83) hx hb dX4_weave_45 (by decide) (fun c28 => ?_) (fun c28 => ?_)
      · replace h := (if_pos c28).symm.trans h
        refine g_aload_n hx hb dX4_weave_83 rfl (lv_at hl 0 rfl) ?_
        refine g_aload hx hb dX4_weave_84 (lv_at hl 3 rfl) ?_
        refine lv_iload hx hb dX4_weave_86 (lv_at hl 5 rfl) ?_
        have g := gckE h
        clear h
        obtain ⟨t29, h⟩ := g
        have t29 := eq_of_beq t29
        have g := gbind h
        clear h
        obtain ⟨S31, e30, h⟩ := g
        refine g_callV (As := [va_rf x4, .int x6]) (rest := []) hF hM (c_X4_settle e30) k_X4_settle u772 u774 u18 rfl rfl t29 rfl hl.1 rfl (Nat.le_of_ble_eq_true rfl) dX4_weave_88 ⟨(Nat.le_of_ble_eq_true rfl), (Nat.le_of_ble_eq_true rfl)⟩ ⟨(Nat.le_of_ble_eq_true rfl), (Nat.le_of_ble_eq_true rfl)⟩ (fun H locs hM => ?_)
        refine lv_iload hx hb dX4_weave_91 (lv_at hl 5 rfl) ?_
        obtain ⟨q1, q2⟩ := Prod.mk.inj (Sum.inl.inj (Option.some.inj h))
        rw [← q1, ← q2]
        exact g_iret hF hM rfl rfl dX4_weave_93 (Nat.le_of_ble_eq_true rfl) (Nat.le_of_ble_eq_true rfl)
      · replace h := (if_neg c28).symm.trans h
        refine g_aload hx hb dX4_weave_48 (lv_at hl 3 rfl) ?_
        refine lv_iload hx hb dX4_weave_50 (lv_at hl 6 rfl) ?_
        have g := gbind h
        clear h
        obtain ⟨a32, e33, h⟩ := g
        have t34 := (gtk_of e33).2
        rw [(gtk_of e33).1]
        have g := gbind h
        clear h
        obtain ⟨v36, e35, h⟩ := g
        refine g_callV (As := [.int x7]) (rest := []) hF hM (c_X1_keyOf e35) k_X1_keyOf u699 u226 u227 rfl rfl t34 rfl hl.1 rfl (Nat.le_of_ble_eq_true rfl) dX4_weave_52 ⟨(Nat.le_of_ble_eq_true rfl), (Nat.le_of_ble_eq_true rfl)⟩ ⟨(Nat.le_of_ble_eq_true rfl), (Nat.le_of_ble_eq_true rfl)⟩ (fun H locs hM => ?_)
        refine lv_iload_n hx hb dX4_weave_55 rfl (lv_at hl 1 rfl) ?_
        refine lv_icmp_ne (tgt := 77) hx hb dX4_weave_56 (by decide) (fun c37 => ?_) (fun c37 => ?_)
        · replace h := (if_neg c37).symm.trans h
          refine W.widen (k := 0) (n := 0) (Nat.le_of_ble_eq_true rfl) (Nat.le_of_ble_eq_true rfl) ?_
          exact Jb77 _ ih _ _ _ _ _ _ _ h _ _ _ hM (lv_sub hl [0, 1, 2, 3, 4, 5, 6] rfl)
        · replace h := (if_pos c37).symm.trans h
          refine g_aload hx hb dX4_weave_59 (lv_at hl 4 rfl) ?_
          refine g_aload hx hb dX4_weave_61 (lv_at hl 3 rfl) ?_
          have g := gbind h
          clear h
          obtain ⟨a38, e39, h⟩ := g
          have t40 := (gtk_of e39).2
          rw [(gtk_of e39).1]
          have g := gbind h
          clear h
          obtain ⟨v42, e41, h⟩ := g
          refine g_callV (As := []) (rest := [va_rf x5]) hF hM (c_X1_first e41) k_X1_first u553 u214 u215 rfl rfl t40 rfl hl.1 rfl (by simp [rf_cat, ic_cat, lc_cat]) dX4_weave_63 ⟨(Nat.le_of_ble_eq_true rfl), (Nat.le_of_ble_eq_true rfl)⟩ ⟨(Nat.le_of_ble_eq_true rfl), (Nat.le_of_ble_eq_true rfl)⟩ (fun H locs hM => ?_)
          refine lv_iload hx hb dX4_weave_66 (lv_at hl 6 rfl) ?_
          refine lv_iadd hx hb dX4_weave_68 ?_
          refine lv_iconst (v := 1) hx hb dX4_weave_69 (by decide) ?_
          refine lv_iadd hx hb dX4_weave_70 ?_
          refine lv_iconst (v := 0) hx hb dX4_weave_71 (by decide) ?_
          refine lv_iload_n hx hb dX4_weave_72 rfl (lv_at hl 1 rfl) ?_
          refine lv_iload_n hx hb dX4_weave_73 rfl (lv_at hl 2 rfl) ?_
          have g := gbind h
          clear h
          obtain ⟨a43, e44, h⟩ := g
          have t45 := (gtk_of e44).2
          rw [(gtk_of e44).1]
          have g := gbind h
          clear h
          obtain ⟨S47, e46, h⟩ := g
          refine g_callV (As := [.int ((v42 + x7) + 1), .int 0, .int x2, .int x3]) (rest := []) hF hM (c_X3_insert e46) k_X3_insert u771 u280 u281 rfl rfl t45 rfl hl.1 rfl (Nat.le_of_ble_eq_true rfl) dX4_weave_74 ⟨(Nat.le_of_ble_eq_true rfl), (Nat.le_of_ble_eq_true rfl)⟩ ⟨(Nat.le_of_ble_eq_true rfl), (Nat.le_of_ble_eq_true rfl)⟩ (fun H locs hM => ?_)
          refine W.widen (k := 0) (n := 0) (Nat.le_of_ble_eq_true rfl) (Nat.le_of_ble_eq_true rfl) ?_
          exact Jb77 _ ih _ _ _ _ _ _ _ h _ _ _ hM (lv_sub hl [0, 1, 2, 3, 4, 5, 6] rfl)
  unfold f_X4_weave at h
  refine g_aload_n hx hb dX4_weave_0 rfl (lv_at hl 0 rfl) ?_
  refine lv_iload_n hx hb dX4_weave_1 rfl (lv_at hl 1 rfl) ?_
  have g := gckE h
  clear h
  obtain ⟨t1, h⟩ := g
  have t1 := eq_of_beq t1
  have g := gthE h
  clear h
  rcases g with ⟨v3, e2, h⟩ | ⟨y4, e2, z5⟩
  · refine g_callV (As := [.int x1]) (rest := []) hF hM (c_X4_needList e2) k_X4_needList u692 u694 u17 rfl rfl t1 rfl hl.1 rfl (Nat.le_of_ble_eq_true rfl) dX4_weave_2 ⟨(Nat.le_of_ble_eq_true rfl), (Nat.le_of_ble_eq_true rfl)⟩ ⟨(Nat.le_of_ble_eq_true rfl), (Nat.le_of_ble_eq_true rfl)⟩ (fun H locs hM => ?_)
    refine g_astore (i := 4) (lv' := [(0, va_rf (some a0)), (1, .int x1), (2, .int x2), (3, .int x3)]) hx hb dX4_weave_5 hl (by decide) (fun v => rfl) (fun ls hl => ?_)
    refine g_aload hx hb dX4_weave_7 (lv_at hl 0 rfl) ?_
    have g := gthE h
    clear h
    rcases g with ⟨v7, e6, h⟩ | ⟨y8, e6, z9⟩
    · refine g_callS (As := [va_rf v3]) (rest := []) hF hM (c_X4_openStore e6) k_X4_openStore u732 u733 rfl hl.1 rfl (Nat.le_of_ble_eq_true rfl) dX4_weave_9 ⟨(Nat.le_of_ble_eq_true rfl), (Nat.le_of_ble_eq_true rfl)⟩ ⟨(Nat.le_of_ble_eq_true rfl), (Nat.le_of_ble_eq_true rfl)⟩ (fun H locs hM => ?_)
      refine g_astore (i := 5) (lv' := [(4, va_rf v3), (0, va_rf (some a0)), (1, .int x1), (2, .int x2), (3, .int x3)]) hx hb dX4_weave_12 hl (by decide) (fun v => by simp [rf_cat, ic_cat, lc_cat]) (fun ls hl => ?_)
      refine lv_iload_n hx hb dX4_weave_14 rfl (lv_at hl 4 rfl) ?_
      refine lv_iload_n hx hb dX4_weave_15 rfl (lv_at hl 5 rfl) ?_
      have g := gthE h
      clear h
      rcases g with ⟨w11, e10, h⟩ | ⟨y12, e10, z13⟩
      · refine g_callS (As := [.int x2, .int x3]) (rest := []) hF hM (c_X4_needThing e10) k_X4_needThing u590 u591 rfl hl.1 rfl (Nat.le_of_ble_eq_true rfl) dX4_weave_16 ⟨(Nat.le_of_ble_eq_true rfl), (Nat.le_of_ble_eq_true rfl)⟩ ⟨(Nat.le_of_ble_eq_true rfl), (Nat.le_of_ble_eq_true rfl)⟩ (fun H locs hM => ?_)
        refine g_aload hx hb dX4_weave_19 (lv_at hl 1 rfl) ?_
        refine lv_iload_n hx hb dX4_weave_21 rfl (lv_at hl 4 rfl) ?_
        have g := gbind h
        clear h
        obtain ⟨a14, e15, h⟩ := g
        have t16 := (gtk_of e15).2
        rw [(gtk_of e15).1]
        have g := gbind h
        clear h
        obtain ⟨v18, e17, h⟩ := g
        refine g_callV (As := [.int x2]) (rest := []) hF hM (c_X1_countKey e17) k_X1_countKey u872 u359 u360 rfl rfl t16 rfl hl.1 rfl (Nat.le_of_ble_eq_true rfl) dX4_weave_22 ⟨(Nat.le_of_ble_eq_true rfl), (Nat.le_of_ble_eq_true rfl)⟩ ⟨(Nat.le_of_ble_eq_true rfl), (Nat.le_of_ble_eq_true rfl)⟩ (fun H locs hM => ?_)
        refine lv_istore (i := 6) (lv' := [(6, .int v18), (5, va_rf v7), (4, va_rf v3), (0, va_rf (some a0)), (1, .int x1), (2, .int x2), (3, .int x3)]) hx hb dX4_weave_25 hl (by decide) (by simp [rf_cat, ic_cat, lc_cat]) (fun ls hl => ?_)
        refine g_aload hx hb dX4_weave_27 (lv_at hl 1 rfl) ?_
        refine lv_iload hx hb dX4_weave_29 (lv_at hl 0 rfl) ?_
        have g := gthE h
        clear h
        rcases g with ⟨w20, e19, h⟩ | ⟨y21, e19, z22⟩
        · refine g_callS (As := [va_rf v7, .int v18]) (rest := []) hF hM (c_X4_needRoom e19) k_X4_needRoom u753 u754 rfl hl.1 rfl (Nat.le_of_ble_eq_true rfl) dX4_weave_31 ⟨(Nat.le_of_ble_eq_true rfl), (Nat.le_of_ble_eq_true rfl)⟩ ⟨(Nat.le_of_ble_eq_true rfl), (Nat.le_of_ble_eq_true rfl)⟩ (fun H locs hM => ?_)
          refine g_aload hx hb dX4_weave_34 (lv_at hl 2 rfl) ?_
          have g := gbind h
          clear h
          obtain ⟨a23, e24, h⟩ := g
          have t25 := (gtk_of e24).2
          rw [(gtk_of e24).1]
          have g := gbind h
          clear h
          obtain ⟨v27, e26, h⟩ := g
          refine g_callV (As := []) (rest := []) hF hM (c_X1_count e26) k_X1_count u195 u196 u197 rfl rfl t25 rfl hl.1 rfl (Nat.le_of_ble_eq_true rfl) dX4_weave_36 ⟨(Nat.le_of_ble_eq_true rfl), (Nat.le_of_ble_eq_true rfl)⟩ ⟨(Nat.le_of_ble_eq_true rfl), (Nat.le_of_ble_eq_true rfl)⟩ (fun H locs hM => ?_)
          refine lv_iconst (v := 1) hx hb dX4_weave_39 (by decide) ?_
          refine lv_isub hx hb dX4_weave_40 ?_
          refine lv_istore (i := 7) (lv' := [(7, .int (v27 - 1)), (6, .int v18), (5, va_rf v7), (4, va_rf v3), (0, va_rf (some a0)), (1, .int x1), (2, .int x2), (3, .int x3)]) hx hb dX4_weave_41 hl (by decide) rfl (fun ls hl => ?_)
          refine W.widen (k := 0) (n := 0) (Nat.le_of_ble_eq_true rfl) (Nat.le_of_ble_eq_true rfl) ?_
          exact JL43 gN _ _ _ _ _ _ _ h _ _ _ hM (lv_sub hl [4, 6, 7, 3, 2, 1, 0] rfl)
        · exact nomatch z22
      · exact nomatch z13
    · exact nomatch z9
  · exact nomatch z5
abbrev rmx_X4_weave : Room := { frames := 8, cells := 1, slots := 6, locals := 132 }
set_option maxHeartbeats 4000000 in
set_option maxRecDepth 100000 in
theorem cx_X4_weave {l : Launch} {D : va_G} {Y : Nat → ClassId} {S : GS} {hs : Nat} {a0 : Nat} {x1 : Int32} {x2 : Int32} {x3 : Int32} {x : Nat} (hfl : l.stackTraces = false) (h : f_X4_weave S a0 x1 x2 x3 = some (.inr x)) : gMx l yX4_weave (gWs yX4_weave cX4_weave 8 (some .int)) rmx_X4_weave [va_rf (some a0), .int x1, .int x2, .int x3] D Y S hs (.inr x) := by
  refine g_ofWx (by decide +kernel) (Or.inl ⟨(Nat.le_of_ble_eq_true rfl), (List.forall_mem_cons.mpr ⟨rf_cat _, (List.forall_mem_cons.mpr ⟨rfl, (List.forall_mem_cons.mpr ⟨rfl, (List.forall_mem_cons.mpr ⟨rfl, (fun _ h => absurd h List.not_mem_nil)⟩)⟩)⟩)⟩)⟩) ?_
  intro p e s m args below meth c ls hsz hout hF hM hl
  have hl : lv_has ls 8 [(0, va_rf (some a0)), (1, .int x1), (2, .int x2), (3, .int x3)] := by rw [g_args [va_rf (some a0), .int x1, .int x2, .int x3] 0 (List.forall_mem_cons.mpr ⟨rf_cat _, (List.forall_mem_cons.mpr ⟨rfl, (List.forall_mem_cons.mpr ⟨rfl, (List.forall_mem_cons.mpr ⟨rfl, (fun _ h => absurd h List.not_mem_nil)⟩)⟩)⟩)⟩)] at hl; exact hl
  have hF : gF p s m args meth c RX4 cX4_weave 8 (some .int) D Y (gA S hs) := hF
  have hx := hF.1
  have hb := hF.2.1
  have Jb77 : ∀ (k43 : GS → Int32 → Int32 → Option Nat → Option Nat → Int32 → Int32 → Option ((Int32 × GS) ⊕ Nat)) (hk43 : ∀ (T43 : GS) (x2 : Int32) (x3 : Int32) (x4 : Option Nat) (x5 : Option Nat) (x6 : Int32) (x7 : Int32), k43 T43 x2 x3 x4 x5 x6 x7 = some (.inr x) → ∀ (H : Heap) (locs : List Loc) (ls : Array Slot), gM D Y (gA S hs) s.heap T43 hs H locs → lv_has ls 8 [(0, va_rf (some a0)), (2, .int x2), (3, .int x3), (4, va_rf x4), (5, va_rf x5), (6, .int x6), (7, .int x7)] → W p l e rmx_X4_weave s m args below meth c H locs 0 0 (vx_MQ below (gQz (.inr x) D Y (gA S hs)) (gXz (.inr x) D Y S (gA S hs)) args s rmx_X4_weave.cells rmx_X4_weave.slots (gA S hs)) (F0 m 43 ls [])) (T77 : GS) (x2 : Int32) (x3 : Int32) (x4 : Option Nat) (x5 : Option Nat) (x6 : Int32) (x7 : Int32), f_X4_weave_b77 k43 a0 T77 x2 x3 x4 x5 x6 x7 = some (.inr x) → ∀ (H : Heap) (locs : List Loc) (ls : Array Slot), gM D Y (gA S hs) s.heap T77 hs H locs → lv_has ls 8 [(0, va_rf (some a0)), (2, .int x2), (3, .int x3), (4, va_rf x4), (5, va_rf x5), (6, .int x6), (7, .int x7)] → W p l e rmx_X4_weave s m args below meth c H locs 0 0 (vx_MQ below (gQz (.inr x) D Y (gA S hs)) (gXz (.inr x) D Y S (gA S hs)) args s rmx_X4_weave.cells rmx_X4_weave.slots (gA S hs)) (F0 m 77 ls []) := by
    intro k43 hk43 T77 x2 x3 x4 x5 x6 x7 h H locs ls hM hl
    unfold f_X4_weave_b77 at h
    refine lv_iinc (v := (x7 + (-1))) (lv' := [(7, .int (x7 + (-1))), (0, va_rf (some a0)), (2, .int x2), (3, .int x3), (4, va_rf x4), (5, va_rf x5), (6, .int x6)]) hx hb dX4_weave_77 hl (k := 6) rfl rfl (by decide) rfl (fun ls hl => ?_)
    refine lv_goto (tgt := 43) hx hb dX4_weave_80 (by decide) ?_
    refine W.widen (k := 0) (n := 0) (Nat.le_of_ble_eq_true rfl) (Nat.le_of_ble_eq_true rfl) ?_
    exact hk43 _ _ _ _ _ _ _ h _ _ _ hM (lv_sub hl [1, 2, 3, 4, 5, 6, 0] rfl)
  have JL43 : ∀ (n : Nat) (T43 : GS) (x2 : Int32) (x3 : Int32) (x4 : Option Nat) (x5 : Option Nat) (x6 : Int32) (x7 : Int32), f_X4_weave_L43 a0 n T43 x2 x3 x4 x5 x6 x7 = some (.inr x) → ∀ (H : Heap) (locs : List Loc) (ls : Array Slot), gM D Y (gA S hs) s.heap T43 hs H locs → lv_has ls 8 [(0, va_rf (some a0)), (2, .int x2), (3, .int x3), (4, va_rf x4), (5, va_rf x5), (6, .int x6), (7, .int x7)] → W p l e rmx_X4_weave s m args below meth c H locs 0 0 (vx_MQ below (gQz (.inr x) D Y (gA S hs)) (gXz (.inr x) D Y S (gA S hs)) args s rmx_X4_weave.cells rmx_X4_weave.slots (gA S hs)) (F0 m 43 ls []) := by
    intro n
    induction n with
    | zero => intro T43 x2 x3 x4 x5 x6 x7 h; unfold f_X4_weave_L43 at h; exact nomatch h
    | succ n ih =>
      intro T43 x2 x3 x4 x5 x6 x7 h H locs ls hM hl
      unfold f_X4_weave_L43 at h
      refine lv_iload hx hb dX4_weave_43 (lv_at hl 6 rfl) ?_
      refine lv_if_lt (tgt := 83) hx hb dX4_weave_45 (by decide) (fun c28 => ?_) (fun c28 => ?_)
      · replace h := (if_pos c28).symm.trans h
        refine g_aload_n hx hb dX4_weave_83 rfl (lv_at hl 0 rfl) ?_
        refine g_aload hx hb dX4_weave_84 (lv_at hl 3 rfl) ?_
        refine lv_iload hx hb dX4_weave_86 (lv_at hl 5 rfl) ?_
        have g := gckE h
        clear h
        obtain ⟨t29, h⟩ := g
        have t29 := eq_of_beq t29
        have g := gbind h
        clear h
        obtain ⟨S31, e30, h⟩ := g
        refine g_callV (As := [va_rf x4, .int x6]) (rest := []) hF hM (c_X4_settle e30) k_X4_settle u772 u774 u18 rfl rfl t29 rfl hl.1 rfl (Nat.le_of_ble_eq_true rfl) dX4_weave_88 ⟨(Nat.le_of_ble_eq_true rfl), (Nat.le_of_ble_eq_true rfl)⟩ ⟨(Nat.le_of_ble_eq_true rfl), (Nat.le_of_ble_eq_true rfl)⟩ (fun H locs hM => ?_)
        refine lv_iload hx hb dX4_weave_91 (lv_at hl 5 rfl) ?_
        exact nomatch (Option.some.inj h)
      · replace h := (if_neg c28).symm.trans h
        refine g_aload hx hb dX4_weave_48 (lv_at hl 3 rfl) ?_
        refine lv_iload hx hb dX4_weave_50 (lv_at hl 6 rfl) ?_
        have g := gbind h
        clear h
        obtain ⟨a32, e33, h⟩ := g
        have t34 := (gtk_of e33).2
        rw [(gtk_of e33).1]
        have g := gbind h
        clear h
        obtain ⟨v36, e35, h⟩ := g
        refine g_callV (As := [.int x7]) (rest := []) hF hM (c_X1_keyOf e35) k_X1_keyOf u699 u226 u227 rfl rfl t34 rfl hl.1 rfl (Nat.le_of_ble_eq_true rfl) dX4_weave_52 ⟨(Nat.le_of_ble_eq_true rfl), (Nat.le_of_ble_eq_true rfl)⟩ ⟨(Nat.le_of_ble_eq_true rfl), (Nat.le_of_ble_eq_true rfl)⟩ (fun H locs hM => ?_)
        refine lv_iload_n hx hb dX4_weave_55 rfl (lv_at hl 1 rfl) ?_
        refine lv_icmp_ne (tgt := 77) hx hb dX4_weave_56 (by decide) (fun c37 => ?_) (fun c37 => ?_)
        · replace h := (if_neg c37).symm.trans h
          refine W.widen (k := 0) (n := 0) (Nat.le_of_ble_eq_true rfl) (Nat.le_of_ble_eq_true rfl) ?_
          exact Jb77 _ ih _ _ _ _ _ _ _ h _ _ _ hM (lv_sub hl [0, 1, 2, 3, 4, 5, 6] rfl)
        · replace h := (if_pos c37).symm.trans h
          refine g_aload hx hb dX4_weave_59 (lv_at hl 4 rfl) ?_
          refine g_aload hx hb dX4_weave_61 (lv_at hl 3 rfl) ?_
          have g := gbind h
          clear h
          obtain ⟨a38, e39, h⟩ := g
          have t40 := (gtk_of e39).2
          rw [(gtk_of e39).1]
          have g := gbind h
          clear h
          obtain ⟨v42, e41, h⟩ := g
          refine g_callV (As := []) (rest := [va_rf x5]) hF hM (c_X1_first e41) k_X1_first u553 u214 u215 rfl rfl t40 rfl hl.1 rfl (by simp [rf_cat, ic_cat, lc_cat]) dX4_weave_63 ⟨(Nat.le_of_ble_eq_true rfl), (Nat.le_of_ble_eq_true rfl)⟩ ⟨(Nat.le_of_ble_eq_true rfl), (Nat.le_of_ble_eq_true rfl)⟩ (fun H locs hM => ?_)
          refine lv_iload hx hb dX4_weave_66 (lv_at hl 6 rfl) ?_
          refine lv_iadd hx hb dX4_weave_68 ?_
          refine lv_iconst (v := 1) hx hb dX4_weave_69 (by decide) ?_
          refine lv_iadd hx hb dX4_weave_70 ?_
          refine lv_iconst (v := 0) hx hb dX4_weave_71 (by decide) ?_
          refine lv_iload_n hx hb dX4_weave_72 rfl (lv_at hl 1 rfl) ?_
          refine lv_iload_n hx hb dX4_weave_73 rfl (lv_at hl 2 rfl) ?_
          have g := gbind h
          clear h
          obtain ⟨a43, e44, h⟩ := g
          have t45 := (gtk_of e44).2
          rw [(gtk_of e44).1]
          have g := gbind h
          clear h
          obtain ⟨S47, e46, h⟩ := g
          refine g_callV (As := [.int ((v42 + x7) + 1), .int 0, .int x2, .int x3]) (rest := []) hF hM (c_X3_insert e46) k_X3_insert u771 u280 u281 rfl rfl t45 rfl hl.1 rfl (Nat.le_of_ble_eq_true rfl) dX4_weave_74 ⟨(Nat.le_of_ble_eq_true rfl), (Nat.le_of_ble_eq_true rfl)⟩ ⟨(Nat.le_of_ble_eq_true rfl), (Nat.le_of_ble_eq_true rfl)⟩ (fun H locs hM => ?_)
          refine W.widen (k := 0) (n := 0) (Nat.le_of_ble_eq_true rfl) (Nat.le_of_ble_eq_true rfl) ?_
          exact Jb77 _ ih _ _ _ _ _ _ _ h _ _ _ hM (lv_sub hl [0, 1, 2, 3, 4, 5, 6] rfl)
  unfold f_X4_weave at h
  refine g_aload_n hx hb dX4_weave_0 rfl (lv_at hl 0 rfl) ?_
  refine lv_iload_n hx hb dX4_weave_1 rfl (lv_at hl 1 rfl) ?_
  have g := gckE h
  clear h
  obtain ⟨t1, h⟩ := g
  have t1 := eq_of_beq t1
  have g := gthE h
  clear h
  rcases g with ⟨v3, e2, h⟩ | ⟨y4, e2, z5⟩
  · refine g_callV (As := [.int x1]) (rest := []) hF hM (c_X4_needList e2) k_X4_needList u692 u694 u17 rfl rfl t1 rfl hl.1 rfl (Nat.le_of_ble_eq_true rfl) dX4_weave_2 ⟨(Nat.le_of_ble_eq_true rfl), (Nat.le_of_ble_eq_true rfl)⟩ ⟨(Nat.le_of_ble_eq_true rfl), (Nat.le_of_ble_eq_true rfl)⟩ (fun H locs hM => ?_)
    refine g_astore (i := 4) (lv' := [(0, va_rf (some a0)), (1, .int x1), (2, .int x2), (3, .int x3)]) hx hb dX4_weave_5 hl (by decide) (fun v => rfl) (fun ls hl => ?_)
    refine g_aload hx hb dX4_weave_7 (lv_at hl 0 rfl) ?_
    have g := gthE h
    clear h
    rcases g with ⟨v7, e6, h⟩ | ⟨y8, e6, z9⟩
    · refine g_callS (As := [va_rf v3]) (rest := []) hF hM (c_X4_openStore e6) k_X4_openStore u732 u733 rfl hl.1 rfl (Nat.le_of_ble_eq_true rfl) dX4_weave_9 ⟨(Nat.le_of_ble_eq_true rfl), (Nat.le_of_ble_eq_true rfl)⟩ ⟨(Nat.le_of_ble_eq_true rfl), (Nat.le_of_ble_eq_true rfl)⟩ (fun H locs hM => ?_)
      refine g_astore (i := 5) (lv' := [(4, va_rf v3), (0, va_rf (some a0)), (1, .int x1), (2, .int x2), (3, .int x3)]) hx hb dX4_weave_12 hl (by decide) (fun v => by simp [rf_cat, ic_cat, lc_cat]) (fun ls hl => ?_)
      refine lv_iload_n hx hb dX4_weave_14 rfl (lv_at hl 4 rfl) ?_
      refine lv_iload_n hx hb dX4_weave_15 rfl (lv_at hl 5 rfl) ?_
      have g := gthE h
      clear h
      rcases g with ⟨w11, e10, h⟩ | ⟨y12, e10, z13⟩
      · refine g_callS (As := [.int x2, .int x3]) (rest := []) hF hM (c_X4_needThing e10) k_X4_needThing u590 u591 rfl hl.1 rfl (Nat.le_of_ble_eq_true rfl) dX4_weave_16 ⟨(Nat.le_of_ble_eq_true rfl), (Nat.le_of_ble_eq_true rfl)⟩ ⟨(Nat.le_of_ble_eq_true rfl), (Nat.le_of_ble_eq_true rfl)⟩ (fun H locs hM => ?_)
        refine g_aload hx hb dX4_weave_19 (lv_at hl 1 rfl) ?_
        refine lv_iload_n hx hb dX4_weave_21 rfl (lv_at hl 4 rfl) ?_
        have g := gbind h
        clear h
        obtain ⟨a14, e15, h⟩ := g
        have t16 := (gtk_of e15).2
        rw [(gtk_of e15).1]
        have g := gbind h
        clear h
        obtain ⟨v18, e17, h⟩ := g
        refine g_callV (As := [.int x2]) (rest := []) hF hM (c_X1_countKey e17) k_X1_countKey u872 u359 u360 rfl rfl t16 rfl hl.1 rfl (Nat.le_of_ble_eq_true rfl) dX4_weave_22 ⟨(Nat.le_of_ble_eq_true rfl), (Nat.le_of_ble_eq_true rfl)⟩ ⟨(Nat.le_of_ble_eq_true rfl), (Nat.le_of_ble_eq_true rfl)⟩ (fun H locs hM => ?_)
        refine lv_istore (i := 6) (lv' := [(6, .int v18), (5, va_rf v7), (4, va_rf v3), (0, va_rf (some a0)), (1, .int x1), (2, .int x2), (3, .int x3)]) hx hb dX4_weave_25 hl (by decide) (by simp [rf_cat, ic_cat, lc_cat]) (fun ls hl => ?_)
        refine g_aload hx hb dX4_weave_27 (lv_at hl 1 rfl) ?_
        refine lv_iload hx hb dX4_weave_29 (lv_at hl 0 rfl) ?_
        have g := gthE h
        clear h
        rcases g with ⟨w20, e19, h⟩ | ⟨y21, e19, z22⟩
        · refine g_callS (As := [va_rf v7, .int v18]) (rest := []) hF hM (c_X4_needRoom e19) k_X4_needRoom u753 u754 rfl hl.1 rfl (Nat.le_of_ble_eq_true rfl) dX4_weave_31 ⟨(Nat.le_of_ble_eq_true rfl), (Nat.le_of_ble_eq_true rfl)⟩ ⟨(Nat.le_of_ble_eq_true rfl), (Nat.le_of_ble_eq_true rfl)⟩ (fun H locs hM => ?_)
          refine g_aload hx hb dX4_weave_34 (lv_at hl 2 rfl) ?_
          have g := gbind h
          clear h
          obtain ⟨a23, e24, h⟩ := g
          have t25 := (gtk_of e24).2
          rw [(gtk_of e24).1]
          have g := gbind h
          clear h
          obtain ⟨v27, e26, h⟩ := g
          refine g_callV (As := []) (rest := []) hF hM (c_X1_count e26) k_X1_count u195 u196 u197 rfl rfl t25 rfl hl.1 rfl (Nat.le_of_ble_eq_true rfl) dX4_weave_36 ⟨(Nat.le_of_ble_eq_true rfl), (Nat.le_of_ble_eq_true rfl)⟩ ⟨(Nat.le_of_ble_eq_true rfl), (Nat.le_of_ble_eq_true rfl)⟩ (fun H locs hM => ?_)
          refine lv_iconst (v := 1) hx hb dX4_weave_39 (by decide) ?_
          refine lv_isub hx hb dX4_weave_40 ?_
          refine lv_istore (i := 7) (lv' := [(7, .int (v27 - 1)), (6, .int v18), (5, va_rf v7), (4, va_rf v3), (0, va_rf (some a0)), (1, .int x1), (2, .int x2), (3, .int x3)]) hx hb dX4_weave_41 hl (by decide) rfl (fun ls hl => ?_)
          refine W.widen (k := 0) (n := 0) (Nat.le_of_ble_eq_true rfl) (Nat.le_of_ble_eq_true rfl) ?_
          exact JL43 gN _ _ _ _ _ _ _ h _ _ _ hM (lv_sub hl [4, 6, 7, 3, 2, 1, 0] rfl)
        · exact g_callSt (As := [va_rf v7, .int v18]) (rest := []) hF hM hout (cx_X4_needRoom hfl e19) k_X4_needRoom u753 u754 rfl hl.1 rfl (Nat.le_of_ble_eq_true rfl) dX4_weave_31 ⟨(Nat.le_of_ble_eq_true rfl), (Nat.le_of_ble_eq_true rfl)⟩ ⟨(Nat.le_of_ble_eq_true rfl), (Nat.le_of_ble_eq_true rfl)⟩ (Nat.le_of_ble_eq_true rfl) (Nat.le_of_ble_eq_true rfl) (congrArg Sum.inr (Sum.inr.inj z22))
      · exact g_callSt (As := [.int x2, .int x3]) (rest := []) hF hM hout (cx_X4_needThing hfl e10) k_X4_needThing u590 u591 rfl hl.1 rfl (Nat.le_of_ble_eq_true rfl) dX4_weave_16 ⟨(Nat.le_of_ble_eq_true rfl), (Nat.le_of_ble_eq_true rfl)⟩ ⟨(Nat.le_of_ble_eq_true rfl), (Nat.le_of_ble_eq_true rfl)⟩ (Nat.le_of_ble_eq_true rfl) (Nat.le_of_ble_eq_true rfl) (congrArg Sum.inr (Sum.inr.inj z13))
    · exact g_callSt (As := [va_rf v3]) (rest := []) hF hM hout (cx_X4_openStore hfl e6) k_X4_openStore u732 u733 rfl hl.1 rfl (Nat.le_of_ble_eq_true rfl) dX4_weave_9 ⟨(Nat.le_of_ble_eq_true rfl), (Nat.le_of_ble_eq_true rfl)⟩ ⟨(Nat.le_of_ble_eq_true rfl), (Nat.le_of_ble_eq_true rfl)⟩ (Nat.le_of_ble_eq_true rfl) (Nat.le_of_ble_eq_true rfl) (congrArg Sum.inr (Sum.inr.inj z9))
  · exact g_callVt (As := [.int x1]) (rest := []) hF hM hout (cx_X4_needList hfl e2) k_X4_needList u692 u694 u17 rfl rfl t1 rfl hl.1 rfl (Nat.le_of_ble_eq_true rfl) dX4_weave_2 ⟨(Nat.le_of_ble_eq_true rfl), (Nat.le_of_ble_eq_true rfl)⟩ ⟨(Nat.le_of_ble_eq_true rfl), (Nat.le_of_ble_eq_true rfl)⟩ (Nat.le_of_ble_eq_true rfl) (Nat.le_of_ble_eq_true rfl) (congrArg Sum.inr (Sum.inr.inj z5))
abbrev rm_X4_raise : Room := { frames := 2, cells := 0, slots := 0, locals := 44 }
theorem k_X4_raise : gKc yX4_raise cX4_raise 6 (some .int) 2 := ⟨u879, u63, by decide +kernel, by decide +kernel, by decide +kernel⟩
set_option maxHeartbeats 4000000 in
set_option maxRecDepth 100000 in
theorem c_X4_raise {l : Launch} {D : va_G} {Y : Nat → ClassId} {S : GS} {hs : Nat} {a0 : Nat} {x1 : Int32} {x2 : Int32} {r : Int32} {S' : GS} (h : f_X4_raise S a0 x1 x2 = some (.inl (r, S'))) : gMet l yX4_raise (gWs yX4_raise cX4_raise 6 (some .int)) rm_X4_raise [va_rf (some a0), .int x1, .int x2] D Y S hs (some (.int r)) S' hs := by
  refine g_ofW (by decide +kernel) (Or.inl ⟨(Nat.le_of_ble_eq_true rfl), (List.forall_mem_cons.mpr ⟨rf_cat _, (List.forall_mem_cons.mpr ⟨rfl, (List.forall_mem_cons.mpr ⟨rfl, (fun _ h => absurd h List.not_mem_nil)⟩)⟩)⟩)⟩) ?_
  intro p e s m args below meth c ls hsz hname hF hM hl
  have hl : lv_has ls 6 [(0, va_rf (some a0)), (1, .int x1), (2, .int x2)] := by rw [g_args [va_rf (some a0), .int x1, .int x2] 0 (List.forall_mem_cons.mpr ⟨rf_cat _, (List.forall_mem_cons.mpr ⟨rfl, (List.forall_mem_cons.mpr ⟨rfl, (fun _ h => absurd h List.not_mem_nil)⟩)⟩)⟩)] at hl; exact hl
  have hF : gF p s m args meth c RX4 cX4_raise 6 (some .int) D Y (gA S hs) := hF
  have hx := hF.1
  have hb := hF.2.1
  have JL96 : ∀ (n : Nat) (T96 : GS) (x2 : Int32) (x3 : Option Nat) (x4 : Option Nat) (x5 : Int32), f_X4_raise_L96 a0 n T96 x2 x3 x4 x5 = some (.inl (r, S')) → ∀ (H : Heap) (locs : List Loc) (ls : Array Slot), gM D Y (gA S hs) s.heap T96 hs H locs → lv_has ls 6 [(2, .int x2), (3, va_rf x3), (4, va_rf x4), (5, .int x5)] → W p l e rm_X4_raise s m args below meth c H locs 0 0 (MQ below (gQ (some (.int r)) D Y S' hs (gA S hs)) args s rm_X4_raise.cells rm_X4_raise.slots (gA S hs)) (F0 m 96 ls []) := by
    intro n
    induction n with
    | zero => intro T96 x2 x3 x4 x5 h; unfold f_X4_raise_L96 at h; exact nomatch h
    | succ n ih =>
      intro T96 x2 x3 x4 x5 h H locs ls hM hl
      unfold f_X4_raise_L96 at h
      refine lv_iload hx hb dX4_raise_96 (lv_at hl 3 rfl) ?_
      refine g_aload_n hx hb dX4_raise_98 rfl (lv_at hl 1 rfl) ?_
      have g := gbind h
      clear h
      obtain ⟨a25, e26, h⟩ := g
      have t27 := (gtk_of e26).2
      rw [(gtk_of e26).1]
      have g := gbind h
      clear h
      obtain ⟨v29, e28, h⟩ := g
      refine g_callV (As := []) (rest := [.int x5]) hF hM (c_X1_count e28) k_X1_count u195 u196 u197 rfl rfl t27 rfl hl.1 rfl (Nat.le_of_ble_eq_true rfl) dX4_raise_99 ⟨(Nat.le_of_ble_eq_true rfl), (Nat.le_of_ble_eq_true rfl)⟩ ⟨(Nat.le_of_ble_eq_true rfl), (Nat.le_of_ble_eq_true rfl)⟩ (fun H locs hM => ?_)
      refine lv_icmp_ge (tgt := 137) hx hb dX4_raise_102 (by decide) (fun c30 => ?_) (fun c30 => ?_)
      · replace h := (if_pos c30).symm.trans h
        refine g_aload_n hx hb dX4_raise_137 rfl (lv_at hl 1 rfl) ?_
        have g := gbind h
        clear h
        obtain ⟨a31, e32, h⟩ := g
        have t33 := (gtk_of e32).2
        rw [(gtk_of e32).1]
        have g := gbind h
        clear h
        obtain ⟨v35, e34, h⟩ := g
        refine g_callV (As := []) (rest := []) hF hM (c_X1_count e34) k_X1_count u195 u196 u197 rfl rfl t33 rfl hl.1 rfl (Nat.le_of_ble_eq_true rfl) dX4_raise_138 ⟨(Nat.le_of_ble_eq_true rfl), (Nat.le_of_ble_eq_true rfl)⟩ ⟨(Nat.le_of_ble_eq_true rfl), (Nat.le_of_ble_eq_true rfl)⟩ (fun H locs hM => ?_)
        obtain ⟨q1, q2⟩ := Prod.mk.inj (Sum.inl.inj (Option.some.inj h))
        rw [← q1, ← q2]
        exact g_iret hF hM rfl rfl dX4_raise_141 (Nat.le_of_ble_eq_true rfl) (Nat.le_of_ble_eq_true rfl)
      · replace h := (if_neg c30).symm.trans h
        refine g_aload hx hb dX4_raise_105 (lv_at hl 2 rfl) ?_
        refine g_aload_n hx hb dX4_raise_107 rfl (lv_at hl 1 rfl) ?_
        have g := gbind h
        clear h
        obtain ⟨a36, e37, h⟩ := g
        have t38 := (gtk_of e37).2
        rw [(gtk_of e37).1]
        have g := gbind h
        clear h
        obtain ⟨v40, e39, h⟩ := g
        refine g_callV (As := []) (rest := [va_rf x4]) hF hM (c_X1_first e39) k_X1_first u553 u214 u215 rfl rfl t38 rfl hl.1 rfl (by simp [rf_cat, ic_cat, lc_cat]) dX4_raise_108 ⟨(Nat.le_of_ble_eq_true rfl), (Nat.le_of_ble_eq_true rfl)⟩ ⟨(Nat.le_of_ble_eq_true rfl), (Nat.le_of_ble_eq_true rfl)⟩ (fun H locs hM => ?_)
        refine lv_iload hx hb dX4_raise_111 (lv_at hl 3 rfl) ?_
        refine lv_iadd hx hb dX4_raise_113 ?_
        refine g_aload_n hx hb dX4_raise_114 rfl (lv_at hl 1 rfl) ?_
        refine lv_iload hx hb dX4_raise_115 (lv_at hl 3 rfl) ?_
        have g := gbind h
        clear h
        obtain ⟨a41, e42, h⟩ := g
        have t43 := (gtk_of e42).2
        rw [(gtk_of e42).1]
        have g := gbind h
        clear h
        obtain ⟨v45, e44, h⟩ := g
        refine g_callV (As := [.int x5]) (rest := [.int (v40 + x5), va_rf x4]) hF hM (c_X1_keyOf e44) k_X1_keyOf u699 u226 u227 rfl rfl t43 rfl hl.1 rfl (by simp [rf_cat, ic_cat, lc_cat]) dX4_raise_117 ⟨(Nat.le_of_ble_eq_true rfl), (Nat.le_of_ble_eq_true rfl)⟩ ⟨(Nat.le_of_ble_eq_true rfl), (Nat.le_of_ble_eq_true rfl)⟩ (fun H locs hM => ?_)
        refine lv_iload_n hx hb dX4_raise_120 rfl (lv_at hl 0 rfl) ?_
        refine lv_iadd hx hb dX4_raise_121 ?_
        refine g_aload_n hx hb dX4_raise_122 rfl (lv_at hl 1 rfl) ?_
        refine lv_iload hx hb dX4_raise_123 (lv_at hl 3 rfl) ?_
        have g := gbind h
        clear h
        obtain ⟨a46, e47, h⟩ := g
        have t48 := (gtk_of e47).2
        rw [(gtk_of e47).1]
        have g := gbind h
        clear h
        obtain ⟨v50, e49, h⟩ := g
        refine g_callV (As := [.int x5]) (rest := [.int (v45 + x2), .int (v40 + x5), va_rf x4]) hF hM (c_X1_markOf e49) k_X1_markOf u707 u234 u235 rfl rfl t48 rfl hl.1 rfl (by simp [rf_cat, ic_cat, lc_cat]) dX4_raise_125 ⟨(Nat.le_of_ble_eq_true rfl), (Nat.le_of_ble_eq_true rfl)⟩ ⟨(Nat.le_of_ble_eq_true rfl), (Nat.le_of_ble_eq_true rfl)⟩ (fun H locs hM => ?_)
        have g := gbind h
        clear h
        obtain ⟨a51, e52, h⟩ := g
        have t53 := (gtk_of e52).2
        rw [(gtk_of e52).1]
        have g := gbind h
        clear h
        obtain ⟨S55, e54, h⟩ := g
        refine g_callV (As := [.int (v40 + x5), .int (v45 + x2), .int v50]) (rest := []) hF hM (c_X3_lay e54) k_X3_lay u788 u292 u293 rfl rfl t53 rfl hl.1 rfl (Nat.le_of_ble_eq_true rfl) dX4_raise_128 ⟨(Nat.le_of_ble_eq_true rfl), (Nat.le_of_ble_eq_true rfl)⟩ ⟨(Nat.le_of_ble_eq_true rfl), (Nat.le_of_ble_eq_true rfl)⟩ (fun H locs hM => ?_)
        refine lv_iinc (v := (x5 + 1)) (lv' := [(5, .int (x5 + 1)), (2, .int x2), (3, va_rf x3), (4, va_rf x4)]) hx hb dX4_raise_131 hl (k := 3) rfl rfl (by decide) (by simp [rf_cat, ic_cat, lc_cat]) (fun ls hl => ?_)
        refine lv_goto (tgt := 96) hx hb dX4_raise_134 (by decide) ?_
        refine W.widen (k := 0) (n := 0) (Nat.le_of_ble_eq_true rfl) (Nat.le_of_ble_eq_true rfl) ?_
        exact ih _ _ _ _ _ h _ _ _ hM (lv_sub hl [1, 2, 3, 0] rfl)
  have JL61 : ∀ (n : Nat) (x2 : Int32) (x3 : Option Nat) (x4 : Option Nat) (x5 : Int32), f_X4_raise_L61 S a0 n x2 x3 x4 x5 = some (.inl (r, S')) → ∀ (H : Heap) (locs : List Loc) (ls : Array Slot), gM D Y (gA S hs) s.heap S hs H locs → lv_has ls 6 [(2, .int x2), (3, va_rf x3), (4, va_rf x4), (5, .int x5)] → W p l e rm_X4_raise s m args below meth c H locs 0 0 (MQ below (gQ (some (.int r)) D Y S' hs (gA S hs)) args s rm_X4_raise.cells rm_X4_raise.slots (gA S hs)) (F0 m 61 ls []) := by
    intro n
    induction n with
    | zero => intro x2 x3 x4 x5 h; unfold f_X4_raise_L61 at h; exact nomatch h
    | succ n ih =>
      intro x2 x3 x4 x5 h H locs ls hM hl
      unfold f_X4_raise_L61 at h
      refine lv_iload hx hb dX4_raise_61 (lv_at hl 3 rfl) ?_
      refine g_aload_n hx hb dX4_raise_63 rfl (lv_at hl 1 rfl) ?_
      have g := gbind h
      clear h
      obtain ⟨a19, e20, h⟩ := g
      have t21 := (gtk_of e20).2
      rw [(gtk_of e20).1]
      have g := gbind h
      clear h
      obtain ⟨v23, e22, h⟩ := g
      refine g_callV (As := []) (rest := [.int x5]) hF hM (c_X1_count e22) k_X1_count u195 u196 u197 rfl rfl t21 rfl hl.1 rfl (Nat.le_of_ble_eq_true rfl) dX4_raise_64 ⟨(Nat.le_of_ble_eq_true rfl), (Nat.le_of_ble_eq_true rfl)⟩ ⟨(Nat.le_of_ble_eq_true rfl), (Nat.le_of_ble_eq_true rfl)⟩ (fun H locs hM => ?_)
      refine lv_icmp_ge (tgt := 93) hx hb dX4_raise_67 (by decide) (fun c24 => ?_) (fun c24 => ?_)
      · replace h := (if_pos c24).symm.trans h
        refine lv_iconst (v := 0) hx hb dX4_raise_93 (by decide) ?_
        refine lv_istore (i := 5) (lv' := [(5, .int 0), (2, .int x2), (3, va_rf x3), (4, va_rf x4)]) hx hb dX4_raise_94 hl (by decide) (by simp [rf_cat, ic_cat, lc_cat]) (fun ls hl => ?_)
        refine W.widen (k := 0) (n := 0) (Nat.le_of_ble_eq_true rfl) (Nat.le_of_ble_eq_true rfl) ?_
        exact JL96 gN _ _ _ _ _ h _ _ _ hM (lv_sub hl [1, 2, 3, 0] rfl)
      · replace h := (if_neg c24).symm.trans h
        refine g_aload_n hx hb dX4_raise_70 rfl (lv_at hl 1 rfl) ?_
        refine lv_iload hx hb dX4_raise_71 (lv_at hl 3 rfl) ?_
        have g := gbind h
        clear h
        obtain ⟨a56, e57, h⟩ := g
        have t58 := (gtk_of e57).2
        rw [(gtk_of e57).1]
        have g := gbind h
        clear h
        obtain ⟨v60, e59, h⟩ := g
        refine g_callV (As := [.int x5]) (rest := []) hF hM (c_X1_keyOf e59) k_X1_keyOf u699 u226 u227 rfl rfl t58 rfl hl.1 rfl (Nat.le_of_ble_eq_true rfl) dX4_raise_73 ⟨(Nat.le_of_ble_eq_true rfl), (Nat.le_of_ble_eq_true rfl)⟩ ⟨(Nat.le_of_ble_eq_true rfl), (Nat.le_of_ble_eq_true rfl)⟩ (fun H locs hM => ?_)
        refine lv_iload_n hx hb dX4_raise_76 rfl (lv_at hl 0 rfl) ?_
        refine lv_iadd hx hb dX4_raise_77 ?_
        refine g_aload_n hx hb dX4_raise_78 rfl (lv_at hl 1 rfl) ?_
        refine lv_iload hx hb dX4_raise_79 (lv_at hl 3 rfl) ?_
        have g := gbind h
        clear h
        obtain ⟨a61, e62, h⟩ := g
        have t63 := (gtk_of e62).2
        rw [(gtk_of e62).1]
        have g := gbind h
        clear h
        obtain ⟨v65, e64, h⟩ := g
        refine g_callV (As := [.int x5]) (rest := [.int (v60 + x2)]) hF hM (c_X1_markOf e64) k_X1_markOf u707 u234 u235 rfl rfl t63 rfl hl.1 rfl (Nat.le_of_ble_eq_true rfl) dX4_raise_81 ⟨(Nat.le_of_ble_eq_true rfl), (Nat.le_of_ble_eq_true rfl)⟩ ⟨(Nat.le_of_ble_eq_true rfl), (Nat.le_of_ble_eq_true rfl)⟩ (fun H locs hM => ?_)
        have g := gthE h
        clear h
        rcases g with ⟨w67, e66, h⟩ | ⟨y68, e66, z69⟩
        · refine g_callS (As := [.int (v60 + x2), .int v65]) (rest := []) hF hM (c_X4_needThing e66) k_X4_needThing u590 u591 rfl hl.1 rfl (Nat.le_of_ble_eq_true rfl) dX4_raise_84 ⟨(Nat.le_of_ble_eq_true rfl), (Nat.le_of_ble_eq_true rfl)⟩ ⟨(Nat.le_of_ble_eq_true rfl), (Nat.le_of_ble_eq_true rfl)⟩ (fun H locs hM => ?_)
          refine lv_iinc (v := (x5 + 1)) (lv' := [(5, .int (x5 + 1)), (2, .int x2), (3, va_rf x3), (4, va_rf x4)]) hx hb dX4_raise_87 hl (k := 3) rfl rfl (by decide) (by simp [rf_cat, ic_cat, lc_cat]) (fun ls hl => ?_)
          refine lv_goto (tgt := 61) hx hb dX4_raise_90 (by decide) ?_
          refine W.widen (k := 0) (n := 0) (Nat.le_of_ble_eq_true rfl) (Nat.le_of_ble_eq_true rfl) ?_
          exact ih _ _ _ _ h _ _ _ hM (lv_sub hl [1, 2, 3, 0] rfl)
        · exact nomatch z69
  have Jb32 : ∀ (x2 : Int32) (x3 : Option Nat), f_X4_raise_b32 S a0 x2 x3 = some (.inl (r, S')) → ∀ (H : Heap) (locs : List Loc) (ls : Array Slot), gM D Y (gA S hs) s.heap S hs H locs → lv_has ls 6 [(2, .int x2), (3, va_rf x3)] → W p l e rm_X4_raise s m args below meth c H locs 0 0 (MQ below (gQ (some (.int r)) D Y S' hs (gA S hs)) args s rm_X4_raise.cells rm_X4_raise.slots (gA S hs)) (F0 m 32 ls []) := by
    intro x2 x3 h H locs ls hM hl
    unfold f_X4_raise_b32 at h
    refine g_aload_n hx hb dX4_raise_32 rfl (lv_at hl 1 rfl) ?_
    have g := gthE h
    clear h
    rcases g with ⟨v14, e13, h⟩ | ⟨y15, e13, z16⟩
    · refine g_callS (As := [va_rf x3]) (rest := []) hF hM (c_X4_openStore e13) k_X4_openStore u732 u733 rfl hl.1 rfl (Nat.le_of_ble_eq_true rfl) dX4_raise_33 ⟨(Nat.le_of_ble_eq_true rfl), (Nat.le_of_ble_eq_true rfl)⟩ ⟨(Nat.le_of_ble_eq_true rfl), (Nat.le_of_ble_eq_true rfl)⟩ (fun H locs hM => ?_)
      refine g_astore (i := 4) (lv' := [(2, .int x2), (3, va_rf x3)]) hx hb dX4_raise_36 hl (by decide) (fun v => by simp [rf_cat, ic_cat, lc_cat]) (fun ls hl => ?_)
      refine lv_iload_n hx hb dX4_raise_38 rfl (lv_at hl 1 rfl) ?_
      refine lv_bipush (v := (-9)) hx hb dX4_raise_39 (by decide) ?_
      refine lv_icmp_lt (tgt := 50) hx hb dX4_raise_41 (by decide) (fun c17 => ?_) (fun c17 => ?_)
      · replace h := (if_pos c17).symm.trans h
        exact nomatch (Option.some.inj h)
      · replace h := (if_neg c17).symm.trans h
        refine lv_iload_n hx hb dX4_raise_44 rfl (lv_at hl 1 rfl) ?_
        refine lv_bipush (v := 9) hx hb dX4_raise_45 (by decide) ?_
        refine lv_icmp_le (tgt := 58) hx hb dX4_raise_47 (by decide) (fun c18 => ?_) (fun c18 => ?_)
        · replace h := (if_pos c18).symm.trans h
          refine lv_iconst (v := 0) hx hb dX4_raise_58 (by decide) ?_
          refine lv_istore (i := 5) (lv' := [(5, .int 0), (4, va_rf v14), (2, .int x2), (3, va_rf x3)]) hx hb dX4_raise_59 hl (by decide) (by simp [rf_cat, ic_cat, lc_cat]) (fun ls hl => ?_)
          refine W.widen (k := 0) (n := 0) (Nat.le_of_ble_eq_true rfl) (Nat.le_of_ble_eq_true rfl) ?_
          exact JL61 gN _ _ _ _ h _ _ _ hM (lv_sub hl [2, 3, 1, 0] rfl)
        · replace h := (if_neg c18).symm.trans h
          exact nomatch (Option.some.inj h)
    · exact nomatch z16
  unfold f_X4_raise at h
  refine g_aload_n hx hb dX4_raise_0 rfl (lv_at hl 0 rfl) ?_
  refine lv_iload_n hx hb dX4_raise_1 rfl (lv_at hl 1 rfl) ?_
  have g := gckE h
  clear h
  obtain ⟨t1, h⟩ := g
  have t1 := eq_of_beq t1
  have g := gthE h
  clear h
  rcases g with ⟨v3, e2, h⟩ | ⟨y4, e2, z5⟩
  · refine g_callV (As := [.int x1]) (rest := []) hF hM (c_X4_held e2) k_X4_held u517 u519 u13 rfl rfl t1 rfl hl.1 rfl (Nat.le_of_ble_eq_true rfl) dX4_raise_2 ⟨(Nat.le_of_ble_eq_true rfl), (Nat.le_of_ble_eq_true rfl)⟩ ⟨(Nat.le_of_ble_eq_true rfl), (Nat.le_of_ble_eq_true rfl)⟩ (fun H locs hM => ?_)
    refine g_astore_n (i := 3) (lv' := [(0, va_rf (some a0)), (1, .int x1), (2, .int x2)]) hx hb dX4_raise_5 rfl hl (by decide) (fun v => rfl) (fun ls hl => ?_)
    refine g_aload_n hx hb dX4_raise_6 rfl (lv_at hl 0 rfl) ?_
    refine g_ifnull (tgt := 24) hx hb dX4_raise_7 (by decide) (fun c6 => ?_) (fun c6 => ?_)
    · replace h := (if_pos c6).symm.trans h
      exact nomatch (Option.some.inj h)
    · replace h := (if_neg c6).symm.trans h
      refine g_aload_n hx hb dX4_raise_10 rfl (lv_at hl 0 rfl) ?_
      have g := gbind h
      clear h
      obtain ⟨a7, e8, h⟩ := g
      have t9 := (gtk_of e8).2
      rw [(gtk_of e8).1]
      have g := gbind h
      clear h
      obtain ⟨v11, e10, h⟩ := g
      refine g_callV (As := []) (rest := []) hF hM (c_X1_isList e10) k_X1_isList u659 u250 u251 rfl rfl t9 rfl hl.1 rfl (Nat.le_of_ble_eq_true rfl) dX4_raise_11 ⟨(Nat.le_of_ble_eq_true rfl), (Nat.le_of_ble_eq_true rfl)⟩ ⟨(Nat.le_of_ble_eq_true rfl), (Nat.le_of_ble_eq_true rfl)⟩ (fun H locs hM => ?_)
      refine lv_if_ne (tgt := 32) hx hb dX4_raise_14 (by decide) (fun c12 => ?_) (fun c12 => ?_)
      · replace h := (if_neg c12).symm.trans h
        refine W.widen (k := 0) (n := 0) (Nat.le_of_ble_eq_true rfl) (Nat.le_of_ble_eq_true rfl) ?_
        exact Jb32 _ _ h _ _ _ hM (lv_sub hl [3, 0] rfl)
      · replace h := (if_pos c12).symm.trans h
        refine g_aload_n hx hb dX4_raise_17 rfl (lv_at hl 0 rfl) ?_
        have g := gbind h
        clear h
        obtain ⟨a70, e71, h⟩ := g
        have t72 := (gtk_of e71).2
        rw [(gtk_of e71).1]
        have g := gbind h
        clear h
        obtain ⟨v74, e73, h⟩ := g
        refine g_callV (As := []) (rest := []) hF hM (c_X1_isMap e73) k_X1_isMap u626 u205 u206 rfl rfl t72 rfl hl.1 rfl (Nat.le_of_ble_eq_true rfl) dX4_raise_18 ⟨(Nat.le_of_ble_eq_true rfl), (Nat.le_of_ble_eq_true rfl)⟩ ⟨(Nat.le_of_ble_eq_true rfl), (Nat.le_of_ble_eq_true rfl)⟩ (fun H locs hM => ?_)
        refine lv_if_ne (tgt := 32) hx hb dX4_raise_21 (by decide) (fun c75 => ?_) (fun c75 => ?_)
        · replace h := (if_neg c75).symm.trans h
          refine W.widen (k := 0) (n := 0) (Nat.le_of_ble_eq_true rfl) (Nat.le_of_ble_eq_true rfl) ?_
          exact Jb32 _ _ h _ _ _ hM (lv_sub hl [3, 0] rfl)
        · replace h := (if_pos c75).symm.trans h
          exact nomatch (Option.some.inj h)
  · exact nomatch z5
abbrev rmx_X4_raise : Room := { frames := 7, cells := 1, slots := 6, locals := 110 }
set_option maxHeartbeats 4000000 in
set_option maxRecDepth 100000 in
theorem cx_X4_raise {l : Launch} {D : va_G} {Y : Nat → ClassId} {S : GS} {hs : Nat} {a0 : Nat} {x1 : Int32} {x2 : Int32} {x : Nat} (hfl : l.stackTraces = false) (h : f_X4_raise S a0 x1 x2 = some (.inr x)) : gMx l yX4_raise (gWs yX4_raise cX4_raise 6 (some .int)) rmx_X4_raise [va_rf (some a0), .int x1, .int x2] D Y S hs (.inr x) := by
  refine g_ofWx (by decide +kernel) (Or.inl ⟨(Nat.le_of_ble_eq_true rfl), (List.forall_mem_cons.mpr ⟨rf_cat _, (List.forall_mem_cons.mpr ⟨rfl, (List.forall_mem_cons.mpr ⟨rfl, (fun _ h => absurd h List.not_mem_nil)⟩)⟩)⟩)⟩) ?_
  intro p e s m args below meth c ls hsz hout hF hM hl
  have hl : lv_has ls 6 [(0, va_rf (some a0)), (1, .int x1), (2, .int x2)] := by rw [g_args [va_rf (some a0), .int x1, .int x2] 0 (List.forall_mem_cons.mpr ⟨rf_cat _, (List.forall_mem_cons.mpr ⟨rfl, (List.forall_mem_cons.mpr ⟨rfl, (fun _ h => absurd h List.not_mem_nil)⟩)⟩)⟩)] at hl; exact hl
  have hF : gF p s m args meth c RX4 cX4_raise 6 (some .int) D Y (gA S hs) := hF
  have hx := hF.1
  have hb := hF.2.1
  have JL96 : ∀ (n : Nat) (T96 : GS) (x2 : Int32) (x3 : Option Nat) (x4 : Option Nat) (x5 : Int32), f_X4_raise_L96 a0 n T96 x2 x3 x4 x5 = some (.inr x) → ∀ (H : Heap) (locs : List Loc) (ls : Array Slot), gM D Y (gA S hs) s.heap T96 hs H locs → lv_has ls 6 [(2, .int x2), (3, va_rf x3), (4, va_rf x4), (5, .int x5)] → W p l e rmx_X4_raise s m args below meth c H locs 0 0 (vx_MQ below (gQz (.inr x) D Y (gA S hs)) (gXz (.inr x) D Y S (gA S hs)) args s rmx_X4_raise.cells rmx_X4_raise.slots (gA S hs)) (F0 m 96 ls []) := by
    intro n
    induction n with
    | zero => intro T96 x2 x3 x4 x5 h; unfold f_X4_raise_L96 at h; exact nomatch h
    | succ n ih =>
      intro T96 x2 x3 x4 x5 h H locs ls hM hl
      unfold f_X4_raise_L96 at h
      refine lv_iload hx hb dX4_raise_96 (lv_at hl 3 rfl) ?_
      refine g_aload_n hx hb dX4_raise_98 rfl (lv_at hl 1 rfl) ?_
      have g := gbind h
      clear h
      obtain ⟨a25, e26, h⟩ := g
      have t27 := (gtk_of e26).2
      rw [(gtk_of e26).1]
      have g := gbind h
      clear h
      obtain ⟨v29, e28, h⟩ := g
      refine g_callV (As := []) (rest := [.int x5]) hF hM (c_X1_count e28) k_X1_count u195 u196 u197 rfl rfl t27 rfl hl.1 rfl (Nat.le_of_ble_eq_true rfl) dX4_raise_99 ⟨(Nat.le_of_ble_eq_true rfl), (Nat.le_of_ble_eq_true rfl)⟩ ⟨(Nat.le_of_ble_eq_true rfl), (Nat.le_of_ble_eq_true rfl)⟩ (fun H locs hM => ?_)
      refine lv_icmp_ge (tgt := 137) hx hb dX4_raise_102 (by decide) (fun c30 => ?_) (fun c30 => ?_)
      · replace h := (if_pos c30).symm.trans h
        refine g_aload_n hx hb dX4_raise_137 rfl (lv_at hl 1 rfl) ?_
        have g := gbind h
        clear h
        obtain ⟨a31, e32, h⟩ := g
        have t33 := (gtk_of e32).2
        rw [(gtk_of e32).1]
        have g := gbind h
        clear h
        obtain ⟨v35, e34, h⟩ := g
        refine g_callV (As := []) (rest := []) hF hM (c_X1_count e34) k_X1_count u195 u196 u197 rfl rfl t33 rfl hl.1 rfl (Nat.le_of_ble_eq_true rfl) dX4_raise_138 ⟨(Nat.le_of_ble_eq_true rfl), (Nat.le_of_ble_eq_true rfl)⟩ ⟨(Nat.le_of_ble_eq_true rfl), (Nat.le_of_ble_eq_true rfl)⟩ (fun H locs hM => ?_)
        exact nomatch (Option.some.inj h)
      · replace h := (if_neg c30).symm.trans h
        refine g_aload hx hb dX4_raise_105 (lv_at hl 2 rfl) ?_
        refine g_aload_n hx hb dX4_raise_107 rfl (lv_at hl 1 rfl) ?_
        have g := gbind h
        clear h
        obtain ⟨a36, e37, h⟩ := g
        have t38 := (gtk_of e37).2
        rw [(gtk_of e37).1]
        have g := gbind h
        clear h
        obtain ⟨v40, e39, h⟩ := g
        refine g_callV (As := []) (rest := [va_rf x4]) hF hM (c_X1_first e39) k_X1_first u553 u214 u215 rfl rfl t38 rfl hl.1 rfl (by simp [rf_cat, ic_cat, lc_cat]) dX4_raise_108 ⟨(Nat.le_of_ble_eq_true rfl), (Nat.le_of_ble_eq_true rfl)⟩ ⟨(Nat.le_of_ble_eq_true rfl), (Nat.le_of_ble_eq_true rfl)⟩ (fun H locs hM => ?_)
        refine lv_iload hx hb dX4_raise_111 (lv_at hl 3 rfl) ?_
        refine lv_iadd hx hb dX4_raise_113 ?_
        refine g_aload_n hx hb dX4_raise_114 rfl (lv_at hl 1 rfl) ?_
        refine lv_iload hx hb dX4_raise_115 (lv_at hl 3 rfl) ?_
        have g := gbind h
        clear h
        obtain ⟨a41, e42, h⟩ := g
        have t43 := (gtk_of e42).2
        rw [(gtk_of e42).1]
        have g := gbind h
        clear h
        obtain ⟨v45, e44, h⟩ := g
        refine g_callV (As := [.int x5]) (rest := [.int (v40 + x5), va_rf x4]) hF hM (c_X1_keyOf e44) k_X1_keyOf u699 u226 u227 rfl rfl t43 rfl hl.1 rfl (by simp [rf_cat, ic_cat, lc_cat]) dX4_raise_117 ⟨(Nat.le_of_ble_eq_true rfl), (Nat.le_of_ble_eq_true rfl)⟩ ⟨(Nat.le_of_ble_eq_true rfl), (Nat.le_of_ble_eq_true rfl)⟩ (fun H locs hM => ?_)
        refine lv_iload_n hx hb dX4_raise_120 rfl (lv_at hl 0 rfl) ?_
        refine lv_iadd hx hb dX4_raise_121 ?_
        refine g_aload_n hx hb dX4_raise_122 rfl (lv_at hl 1 rfl) ?_
        refine lv_iload hx hb dX4_raise_123 (lv_at hl 3 rfl) ?_
        have g := gbind h
        clear h
        obtain ⟨a46, e47, h⟩ := g
        have t48 := (gtk_of e47).2
        rw [(gtk_of e47).1]
        have g := gbind h
        clear h
        obtain ⟨v50, e49, h⟩ := g
        refine g_callV (As := [.int x5]) (rest := [.int (v45 + x2), .int (v40 + x5), va_rf x4]) hF hM (c_X1_markOf e49) k_X1_markOf u707 u234 u235 rfl rfl t48 rfl hl.1 rfl (by simp [rf_cat, ic_cat, lc_cat]) dX4_raise_125 ⟨(Nat.le_of_ble_eq_true rfl), (Nat.le_of_ble_eq_true rfl)⟩ ⟨(Nat.le_of_ble_eq_true rfl), (Nat.le_of_ble_eq_true rfl)⟩ (fun H locs hM => ?_)
        have g := gbind h
        clear h
        obtain ⟨a51, e52, h⟩ := g
        have t53 := (gtk_of e52).2
        rw [(gtk_of e52).1]
        have g := gbind h
        clear h
        obtain ⟨S55, e54, h⟩ := g
        refine g_callV (As := [.int (v40 + x5), .int (v45 + x2), .int v50]) (rest := []) hF hM (c_X3_lay e54) k_X3_lay u788 u292 u293 rfl rfl t53 rfl hl.1 rfl (Nat.le_of_ble_eq_true rfl) dX4_raise_128 ⟨(Nat.le_of_ble_eq_true rfl), (Nat.le_of_ble_eq_true rfl)⟩ ⟨(Nat.le_of_ble_eq_true rfl), (Nat.le_of_ble_eq_true rfl)⟩ (fun H locs hM => ?_)
        refine lv_iinc (v := (x5 + 1)) (lv' := [(5, .int (x5 + 1)), (2, .int x2), (3, va_rf x3), (4, va_rf x4)]) hx hb dX4_raise_131 hl (k := 3) rfl rfl (by decide) (by simp [rf_cat, ic_cat, lc_cat]) (fun ls hl => ?_)
        refine lv_goto (tgt := 96) hx hb dX4_raise_134 (by decide) ?_
        refine W.widen (k := 0) (n := 0) (Nat.le_of_ble_eq_true rfl) (Nat.le_of_ble_eq_true rfl) ?_
        exact ih _ _ _ _ _ h _ _ _ hM (lv_sub hl [1, 2, 3, 0] rfl)
  have JL61 : ∀ (n : Nat) (x2 : Int32) (x3 : Option Nat) (x4 : Option Nat) (x5 : Int32), f_X4_raise_L61 S a0 n x2 x3 x4 x5 = some (.inr x) → ∀ (H : Heap) (locs : List Loc) (ls : Array Slot), gM D Y (gA S hs) s.heap S hs H locs → lv_has ls 6 [(2, .int x2), (3, va_rf x3), (4, va_rf x4), (5, .int x5)] → W p l e rmx_X4_raise s m args below meth c H locs 0 0 (vx_MQ below (gQz (.inr x) D Y (gA S hs)) (gXz (.inr x) D Y S (gA S hs)) args s rmx_X4_raise.cells rmx_X4_raise.slots (gA S hs)) (F0 m 61 ls []) := by
    intro n
    induction n with
    | zero => intro x2 x3 x4 x5 h; unfold f_X4_raise_L61 at h; exact nomatch h
    | succ n ih =>
      intro x2 x3 x4 x5 h H locs ls hM hl
      unfold f_X4_raise_L61 at h
      refine lv_iload hx hb dX4_raise_61 (lv_at hl 3 rfl) ?_
      refine g_aload_n hx hb dX4_raise_63 rfl (lv_at hl 1 rfl) ?_
      have g := gbind h
      clear h
      obtain ⟨a19, e20, h⟩ := g
      have t21 := (gtk_of e20).2
      rw [(gtk_of e20).1]
      have g := gbind h
      clear h
      obtain ⟨v23, e22, h⟩ := g
      refine g_callV (As := []) (rest := [.int x5]) hF hM (c_X1_count e22) k_X1_count u195 u196 u197 rfl rfl t21 rfl hl.1 rfl (Nat.le_of_ble_eq_true rfl) dX4_raise_64 ⟨(Nat.le_of_ble_eq_true rfl), (Nat.le_of_ble_eq_true rfl)⟩ ⟨(Nat.le_of_ble_eq_true rfl), (Nat.le_of_ble_eq_true rfl)⟩ (fun H locs hM => ?_)
      refine lv_icmp_ge (tgt := 93) hx hb dX4_raise_67 (by decide) (fun c24 => ?_) (fun c24 => ?_)
      · replace h := (if_pos c24).symm.trans h
        refine lv_iconst (v := 0) hx hb dX4_raise_93 (by decide) ?_
        refine lv_istore (i := 5) (lv' := [(5, .int 0), (2, .int x2), (3, va_rf x3), (4, va_rf x4)]) hx hb dX4_raise_94 hl (by decide) (by simp [rf_cat, ic_cat, lc_cat]) (fun ls hl => ?_)
        refine W.widen (k := 0) (n := 0) (Nat.le_of_ble_eq_true rfl) (Nat.le_of_ble_eq_true rfl) ?_
        exact JL96 gN _ _ _ _ _ h _ _ _ hM (lv_sub hl [1, 2, 3, 0] rfl)
      · replace h := (if_neg c24).symm.trans h
        refine g_aload_n hx hb dX4_raise_70 rfl (lv_at hl 1 rfl) ?_
        refine lv_iload hx hb dX4_raise_71 (lv_at hl 3 rfl) ?_
        have g := gbind h
        clear h
        obtain ⟨a56, e57, h⟩ := g
        have t58 := (gtk_of e57).2
        rw [(gtk_of e57).1]
        have g := gbind h
        clear h
        obtain ⟨v60, e59, h⟩ := g
        refine g_callV (As := [.int x5]) (rest := []) hF hM (c_X1_keyOf e59) k_X1_keyOf u699 u226 u227 rfl rfl t58 rfl hl.1 rfl (Nat.le_of_ble_eq_true rfl) dX4_raise_73 ⟨(Nat.le_of_ble_eq_true rfl), (Nat.le_of_ble_eq_true rfl)⟩ ⟨(Nat.le_of_ble_eq_true rfl), (Nat.le_of_ble_eq_true rfl)⟩ (fun H locs hM => ?_)
        refine lv_iload_n hx hb dX4_raise_76 rfl (lv_at hl 0 rfl) ?_
        refine lv_iadd hx hb dX4_raise_77 ?_
        refine g_aload_n hx hb dX4_raise_78 rfl (lv_at hl 1 rfl) ?_
        refine lv_iload hx hb dX4_raise_79 (lv_at hl 3 rfl) ?_
        have g := gbind h
        clear h
        obtain ⟨a61, e62, h⟩ := g
        have t63 := (gtk_of e62).2
        rw [(gtk_of e62).1]
        have g := gbind h
        clear h
        obtain ⟨v65, e64, h⟩ := g
        refine g_callV (As := [.int x5]) (rest := [.int (v60 + x2)]) hF hM (c_X1_markOf e64) k_X1_markOf u707 u234 u235 rfl rfl t63 rfl hl.1 rfl (Nat.le_of_ble_eq_true rfl) dX4_raise_81 ⟨(Nat.le_of_ble_eq_true rfl), (Nat.le_of_ble_eq_true rfl)⟩ ⟨(Nat.le_of_ble_eq_true rfl), (Nat.le_of_ble_eq_true rfl)⟩ (fun H locs hM => ?_)
        have g := gthE h
        clear h
        rcases g with ⟨w67, e66, h⟩ | ⟨y68, e66, z69⟩
        · refine g_callS (As := [.int (v60 + x2), .int v65]) (rest := []) hF hM (c_X4_needThing e66) k_X4_needThing u590 u591 rfl hl.1 rfl (Nat.le_of_ble_eq_true rfl) dX4_raise_84 ⟨(Nat.le_of_ble_eq_true rfl), (Nat.le_of_ble_eq_true rfl)⟩ ⟨(Nat.le_of_ble_eq_true rfl), (Nat.le_of_ble_eq_true rfl)⟩ (fun H locs hM => ?_)
          refine lv_iinc (v := (x5 + 1)) (lv' := [(5, .int (x5 + 1)), (2, .int x2), (3, va_rf x3), (4, va_rf x4)]) hx hb dX4_raise_87 hl (k := 3) rfl rfl (by decide) (by simp [rf_cat, ic_cat, lc_cat]) (fun ls hl => ?_)
          refine lv_goto (tgt := 61) hx hb dX4_raise_90 (by decide) ?_
          refine W.widen (k := 0) (n := 0) (Nat.le_of_ble_eq_true rfl) (Nat.le_of_ble_eq_true rfl) ?_
          exact ih _ _ _ _ h _ _ _ hM (lv_sub hl [1, 2, 3, 0] rfl)
        · exact g_callSt (As := [.int (v60 + x2), .int v65]) (rest := []) hF hM hout (cx_X4_needThing hfl e66) k_X4_needThing u590 u591 rfl hl.1 rfl (Nat.le_of_ble_eq_true rfl) dX4_raise_84 ⟨(Nat.le_of_ble_eq_true rfl), (Nat.le_of_ble_eq_true rfl)⟩ ⟨(Nat.le_of_ble_eq_true rfl), (Nat.le_of_ble_eq_true rfl)⟩ (Nat.le_of_ble_eq_true rfl) (Nat.le_of_ble_eq_true rfl) (congrArg Sum.inr (Sum.inr.inj z69))
  have Jb32 : ∀ (x2 : Int32) (x3 : Option Nat), f_X4_raise_b32 S a0 x2 x3 = some (.inr x) → ∀ (H : Heap) (locs : List Loc) (ls : Array Slot), gM D Y (gA S hs) s.heap S hs H locs → lv_has ls 6 [(2, .int x2), (3, va_rf x3)] → W p l e rmx_X4_raise s m args below meth c H locs 0 0 (vx_MQ below (gQz (.inr x) D Y (gA S hs)) (gXz (.inr x) D Y S (gA S hs)) args s rmx_X4_raise.cells rmx_X4_raise.slots (gA S hs)) (F0 m 32 ls []) := by
    intro x2 x3 h H locs ls hM hl
    unfold f_X4_raise_b32 at h
    refine g_aload_n hx hb dX4_raise_32 rfl (lv_at hl 1 rfl) ?_
    have g := gthE h
    clear h
    rcases g with ⟨v14, e13, h⟩ | ⟨y15, e13, z16⟩
    · refine g_callS (As := [va_rf x3]) (rest := []) hF hM (c_X4_openStore e13) k_X4_openStore u732 u733 rfl hl.1 rfl (Nat.le_of_ble_eq_true rfl) dX4_raise_33 ⟨(Nat.le_of_ble_eq_true rfl), (Nat.le_of_ble_eq_true rfl)⟩ ⟨(Nat.le_of_ble_eq_true rfl), (Nat.le_of_ble_eq_true rfl)⟩ (fun H locs hM => ?_)
      refine g_astore (i := 4) (lv' := [(2, .int x2), (3, va_rf x3)]) hx hb dX4_raise_36 hl (by decide) (fun v => by simp [rf_cat, ic_cat, lc_cat]) (fun ls hl => ?_)
      refine lv_iload_n hx hb dX4_raise_38 rfl (lv_at hl 1 rfl) ?_
      refine lv_bipush (v := (-9)) hx hb dX4_raise_39 (by decide) ?_
      refine lv_icmp_lt (tgt := 50) hx hb dX4_raise_41 (by decide) (fun c17 => ?_) (fun c17 => ?_)
      · replace h := (if_pos c17).symm.trans h
        exact g_throw hF hM hfl hout ew_X4_57_59 (congrArg Sum.inr (Sum.inr.inj (Option.some.inj h)).symm) hl.1 dX4_raise_50 dX4_raise_53 dX4_raise_54 dX4_raise_57 (Nat.le_of_ble_eq_true rfl) (Nat.le_of_ble_eq_true rfl) (Nat.le_of_ble_eq_true rfl) (Nat.le_of_ble_eq_true rfl) (Nat.le_of_ble_eq_true rfl) (Nat.le_of_ble_eq_true rfl)
      · replace h := (if_neg c17).symm.trans h
        refine lv_iload_n hx hb dX4_raise_44 rfl (lv_at hl 1 rfl) ?_
        refine lv_bipush (v := 9) hx hb dX4_raise_45 (by decide) ?_
        refine lv_icmp_le (tgt := 58) hx hb dX4_raise_47 (by decide) (fun c18 => ?_) (fun c18 => ?_)
        · replace h := (if_pos c18).symm.trans h
          refine lv_iconst (v := 0) hx hb dX4_raise_58 (by decide) ?_
          refine lv_istore (i := 5) (lv' := [(5, .int 0), (4, va_rf v14), (2, .int x2), (3, va_rf x3)]) hx hb dX4_raise_59 hl (by decide) (by simp [rf_cat, ic_cat, lc_cat]) (fun ls hl => ?_)
          refine W.widen (k := 0) (n := 0) (Nat.le_of_ble_eq_true rfl) (Nat.le_of_ble_eq_true rfl) ?_
          exact JL61 gN _ _ _ _ h _ _ _ hM (lv_sub hl [2, 3, 1, 0] rfl)
        · replace h := (if_neg c18).symm.trans h
          exact g_throw hF hM hfl hout ew_X4_57_59 (congrArg Sum.inr (Sum.inr.inj (Option.some.inj h)).symm) hl.1 dX4_raise_50 dX4_raise_53 dX4_raise_54 dX4_raise_57 (Nat.le_of_ble_eq_true rfl) (Nat.le_of_ble_eq_true rfl) (Nat.le_of_ble_eq_true rfl) (Nat.le_of_ble_eq_true rfl) (Nat.le_of_ble_eq_true rfl) (Nat.le_of_ble_eq_true rfl)
    · exact g_callSt (As := [va_rf x3]) (rest := []) hF hM hout (cx_X4_openStore hfl e13) k_X4_openStore u732 u733 rfl hl.1 rfl (Nat.le_of_ble_eq_true rfl) dX4_raise_33 ⟨(Nat.le_of_ble_eq_true rfl), (Nat.le_of_ble_eq_true rfl)⟩ ⟨(Nat.le_of_ble_eq_true rfl), (Nat.le_of_ble_eq_true rfl)⟩ (Nat.le_of_ble_eq_true rfl) (Nat.le_of_ble_eq_true rfl) (congrArg Sum.inr (Sum.inr.inj z16))
  unfold f_X4_raise at h
  refine g_aload_n hx hb dX4_raise_0 rfl (lv_at hl 0 rfl) ?_
  refine lv_iload_n hx hb dX4_raise_1 rfl (lv_at hl 1 rfl) ?_
  have g := gckE h
  clear h
  obtain ⟨t1, h⟩ := g
  have t1 := eq_of_beq t1
  have g := gthE h
  clear h
  rcases g with ⟨v3, e2, h⟩ | ⟨y4, e2, z5⟩
  · refine g_callV (As := [.int x1]) (rest := []) hF hM (c_X4_held e2) k_X4_held u517 u519 u13 rfl rfl t1 rfl hl.1 rfl (Nat.le_of_ble_eq_true rfl) dX4_raise_2 ⟨(Nat.le_of_ble_eq_true rfl), (Nat.le_of_ble_eq_true rfl)⟩ ⟨(Nat.le_of_ble_eq_true rfl), (Nat.le_of_ble_eq_true rfl)⟩ (fun H locs hM => ?_)
    refine g_astore_n (i := 3) (lv' := [(0, va_rf (some a0)), (1, .int x1), (2, .int x2)]) hx hb dX4_raise_5 rfl hl (by decide) (fun v => rfl) (fun ls hl => ?_)
    refine g_aload_n hx hb dX4_raise_6 rfl (lv_at hl 0 rfl) ?_
    refine g_ifnull (tgt := 24) hx hb dX4_raise_7 (by decide) (fun c6 => ?_) (fun c6 => ?_)
    · replace h := (if_pos c6).symm.trans h
      exact g_throw hF hM hfl hout ew_X4_50_52 (congrArg Sum.inr (Sum.inr.inj (Option.some.inj h)).symm) hl.1 dX4_raise_24 dX4_raise_27 dX4_raise_28 dX4_raise_31 (Nat.le_of_ble_eq_true rfl) (Nat.le_of_ble_eq_true rfl) (Nat.le_of_ble_eq_true rfl) (Nat.le_of_ble_eq_true rfl) (Nat.le_of_ble_eq_true rfl) (Nat.le_of_ble_eq_true rfl)
    · replace h := (if_neg c6).symm.trans h
      refine g_aload_n hx hb dX4_raise_10 rfl (lv_at hl 0 rfl) ?_
      have g := gbind h
      clear h
      obtain ⟨a7, e8, h⟩ := g
      have t9 := (gtk_of e8).2
      rw [(gtk_of e8).1]
      have g := gbind h
      clear h
      obtain ⟨v11, e10, h⟩ := g
      refine g_callV (As := []) (rest := []) hF hM (c_X1_isList e10) k_X1_isList u659 u250 u251 rfl rfl t9 rfl hl.1 rfl (Nat.le_of_ble_eq_true rfl) dX4_raise_11 ⟨(Nat.le_of_ble_eq_true rfl), (Nat.le_of_ble_eq_true rfl)⟩ ⟨(Nat.le_of_ble_eq_true rfl), (Nat.le_of_ble_eq_true rfl)⟩ (fun H locs hM => ?_)
      refine lv_if_ne (tgt := 32) hx hb dX4_raise_14 (by decide) (fun c12 => ?_) (fun c12 => ?_)
      · replace h := (if_neg c12).symm.trans h
        refine W.widen (k := 0) (n := 0) (Nat.le_of_ble_eq_true rfl) (Nat.le_of_ble_eq_true rfl) ?_
        exact Jb32 _ _ h _ _ _ hM (lv_sub hl [3, 0] rfl)
      · replace h := (if_pos c12).symm.trans h
        refine g_aload_n hx hb dX4_raise_17 rfl (lv_at hl 0 rfl) ?_
        have g := gbind h
        clear h
        obtain ⟨a70, e71, h⟩ := g
        have t72 := (gtk_of e71).2
        rw [(gtk_of e71).1]
        have g := gbind h
        clear h
        obtain ⟨v74, e73, h⟩ := g
        refine g_callV (As := []) (rest := []) hF hM (c_X1_isMap e73) k_X1_isMap u626 u205 u206 rfl rfl t72 rfl hl.1 rfl (Nat.le_of_ble_eq_true rfl) dX4_raise_18 ⟨(Nat.le_of_ble_eq_true rfl), (Nat.le_of_ble_eq_true rfl)⟩ ⟨(Nat.le_of_ble_eq_true rfl), (Nat.le_of_ble_eq_true rfl)⟩ (fun H locs hM => ?_)
        refine lv_if_ne (tgt := 32) hx hb dX4_raise_21 (by decide) (fun c75 => ?_) (fun c75 => ?_)
        · replace h := (if_neg c75).symm.trans h
          refine W.widen (k := 0) (n := 0) (Nat.le_of_ble_eq_true rfl) (Nat.le_of_ble_eq_true rfl) ?_
          exact Jb32 _ _ h _ _ _ hM (lv_sub hl [3, 0] rfl)
        · replace h := (if_pos c75).symm.trans h
          exact g_throw hF hM hfl hout ew_X4_50_52 (congrArg Sum.inr (Sum.inr.inj (Option.some.inj h)).symm) hl.1 dX4_raise_24 dX4_raise_27 dX4_raise_28 dX4_raise_31 (Nat.le_of_ble_eq_true rfl) (Nat.le_of_ble_eq_true rfl) (Nat.le_of_ble_eq_true rfl) (Nat.le_of_ble_eq_true rfl) (Nat.le_of_ble_eq_true rfl) (Nat.le_of_ble_eq_true rfl)
  · exact g_callVt (As := [.int x1]) (rest := []) hF hM hout (cx_X4_held hfl e2) k_X4_held u517 u519 u13 rfl rfl t1 rfl hl.1 rfl (Nat.le_of_ble_eq_true rfl) dX4_raise_2 ⟨(Nat.le_of_ble_eq_true rfl), (Nat.le_of_ble_eq_true rfl)⟩ ⟨(Nat.le_of_ble_eq_true rfl), (Nat.le_of_ble_eq_true rfl)⟩ (Nat.le_of_ble_eq_true rfl) (Nat.le_of_ble_eq_true rfl) (congrArg Sum.inr (Sum.inr.inj z5))
abbrev rm_X4_sort : Room := { frames := 3, cells := 0, slots := 0, locals := 71 }
theorem k_X4_sort : gKc yX4_sort cX4_sort 5 (some .int) 2 := ⟨u886, u63, by decide +kernel, by decide +kernel, by decide +kernel⟩
set_option maxHeartbeats 4000000 in
set_option maxRecDepth 100000 in
theorem c_X4_sort {l : Launch} {D : va_G} {Y : Nat → ClassId} {S : GS} {hs : Nat} {a0 : Nat} {x1 : Int32} {x2 : Int32} {r : Int32} {S' : GS} (h : f_X4_sort S a0 x1 x2 = some (.inl (r, S'))) : gMet l yX4_sort (gWs yX4_sort cX4_sort 5 (some .int)) rm_X4_sort [va_rf (some a0), .int x1, .int x2] D Y S hs (some (.int r)) S' hs := by
  refine g_ofW (by decide +kernel) (Or.inl ⟨(Nat.le_of_ble_eq_true rfl), (List.forall_mem_cons.mpr ⟨rf_cat _, (List.forall_mem_cons.mpr ⟨rfl, (List.forall_mem_cons.mpr ⟨rfl, (fun _ h => absurd h List.not_mem_nil)⟩)⟩)⟩)⟩) ?_
  intro p e s m args below meth c ls hsz hname hF hM hl
  have hl : lv_has ls 5 [(0, va_rf (some a0)), (1, .int x1), (2, .int x2)] := by rw [g_args [va_rf (some a0), .int x1, .int x2] 0 (List.forall_mem_cons.mpr ⟨rf_cat _, (List.forall_mem_cons.mpr ⟨rfl, (List.forall_mem_cons.mpr ⟨rfl, (fun _ h => absurd h List.not_mem_nil)⟩)⟩)⟩)] at hl; exact hl
  have hF : gF p s m args meth c RX4 cX4_sort 5 (some .int) D Y (gA S hs) := hF
  have hx := hF.1
  have hb := hF.2.1
  have Jb44 : ∀ (x2 : Int32) (x3 : Option Nat) (x4 : Option Nat), f_X4_sort_b44 S a0 x2 x3 x4 = some (.inl (r, S')) → ∀ (H : Heap) (locs : List Loc) (ls : Array Slot), gM D Y (gA S hs) s.heap S hs H locs → lv_has ls 5 [(0, va_rf (some a0)), (2, .int x2), (3, va_rf x3), (4, va_rf x4)] → W p l e rm_X4_sort s m args below meth c H locs 0 0 (MQ below (gQ (some (.int r)) D Y S' hs (gA S hs)) args s rm_X4_sort.cells rm_X4_sort.slots (gA S hs)) (F0 m 44 ls []) := by
    intro x2 x3 x4 h H locs ls hM hl
    unfold f_X4_sort_b44 at h
    refine g_aload hx hb dX4_sort_44 (lv_at hl 3 rfl) ?_
    refine g_aload_n hx hb dX4_sort_46 rfl (lv_at hl 2 rfl) ?_
    have g := gbind h
    clear h
    obtain ⟨a11, e12, h⟩ := g
    have t13 := (gtk_of e12).2
    rw [(gtk_of e12).1]
    have g := gbind h
    clear h
    obtain ⟨v15, e14, h⟩ := g
    refine g_callV (As := []) (rest := [va_rf x4]) hF hM (c_X1_first e14) k_X1_first u553 u214 u215 rfl rfl t13 rfl hl.1 rfl (by simp [rf_cat, ic_cat, lc_cat]) dX4_sort_47 ⟨(Nat.le_of_ble_eq_true rfl), (Nat.le_of_ble_eq_true rfl)⟩ ⟨(Nat.le_of_ble_eq_true rfl), (Nat.le_of_ble_eq_true rfl)⟩ (fun H locs hM => ?_)
    refine g_aload_n hx hb dX4_sort_50 rfl (lv_at hl 2 rfl) ?_
    have g := gbind h
    clear h
    obtain ⟨a16, e17, h⟩ := g
    have t18 := (gtk_of e17).2
    rw [(gtk_of e17).1]
    have g := gbind h
    clear h
    obtain ⟨v20, e19, h⟩ := g
    refine g_callV (As := []) (rest := [.int v15, va_rf x4]) hF hM (c_X1_count e19) k_X1_count u195 u196 u197 rfl rfl t18 rfl hl.1 rfl (by simp [rf_cat, ic_cat, lc_cat]) dX4_sort_51 ⟨(Nat.le_of_ble_eq_true rfl), (Nat.le_of_ble_eq_true rfl)⟩ ⟨(Nat.le_of_ble_eq_true rfl), (Nat.le_of_ble_eq_true rfl)⟩ (fun H locs hM => ?_)
    refine lv_iload_n hx hb dX4_sort_54 rfl (lv_at hl 1 rfl) ?_
    have g := gbind h
    clear h
    obtain ⟨a21, e22, h⟩ := g
    have t23 := (gtk_of e22).2
    rw [(gtk_of e22).1]
    have g := gbind h
    clear h
    obtain ⟨S25, e24, h⟩ := g
    refine g_callV (As := [.int v15, .int v20, .int x2]) (rest := []) hF hM (c_X3_order e24) k_X3_order u887 u296 u297 rfl rfl t23 rfl hl.1 rfl (Nat.le_of_ble_eq_true rfl) dX4_sort_55 ⟨(Nat.le_of_ble_eq_true rfl), (Nat.le_of_ble_eq_true rfl)⟩ ⟨(Nat.le_of_ble_eq_true rfl), (Nat.le_of_ble_eq_true rfl)⟩ (fun H locs hM => ?_)
    refine g_aload_n hx hb dX4_sort_58 rfl (lv_at hl 0 rfl) ?_
    refine g_aload_n hx hb dX4_sort_59 rfl (lv_at hl 2 rfl) ?_
    refine g_aload hx hb dX4_sort_60 (lv_at hl 3 rfl) ?_
    have g := gckE h
    clear h
    obtain ⟨t26, h⟩ := g
    have t26 := eq_of_beq t26
    have g := gbind h
    clear h
    obtain ⟨S28, e27, h⟩ := g
    refine g_callV (As := [va_rf x3, va_rf x4]) (rest := []) hF hM (c_X4_letPartsGo e27) k_X4_letPartsGo u776 u778 u19 rfl rfl t26 rfl hl.1 rfl (Nat.le_of_ble_eq_true rfl) dX4_sort_62 ⟨(Nat.le_of_ble_eq_true rfl), (Nat.le_of_ble_eq_true rfl)⟩ ⟨(Nat.le_of_ble_eq_true rfl), (Nat.le_of_ble_eq_true rfl)⟩ (fun H locs hM => ?_)
    refine g_aload_n hx hb dX4_sort_65 rfl (lv_at hl 2 rfl) ?_
    have g := gbind h
    clear h
    obtain ⟨a29, e30, h⟩ := g
    have t31 := (gtk_of e30).2
    rw [(gtk_of e30).1]
    have g := gbind h
    clear h
    obtain ⟨v33, e32, h⟩ := g
    refine g_callV (As := []) (rest := []) hF hM (c_X1_count e32) k_X1_count u195 u196 u197 rfl rfl t31 rfl hl.1 rfl (Nat.le_of_ble_eq_true rfl) dX4_sort_66 ⟨(Nat.le_of_ble_eq_true rfl), (Nat.le_of_ble_eq_true rfl)⟩ ⟨(Nat.le_of_ble_eq_true rfl), (Nat.le_of_ble_eq_true rfl)⟩ (fun H locs hM => ?_)
    obtain ⟨q1, q2⟩ := Prod.mk.inj (Sum.inl.inj (Option.some.inj h))
    rw [← q1, ← q2]
    exact g_iret hF hM rfl rfl dX4_sort_69 (Nat.le_of_ble_eq_true rfl) (Nat.le_of_ble_eq_true rfl)
  unfold f_X4_sort at h
  refine g_aload_n hx hb dX4_sort_0 rfl (lv_at hl 0 rfl) ?_
  refine lv_iload_n hx hb dX4_sort_1 rfl (lv_at hl 1 rfl) ?_
  have g := gckE h
  clear h
  obtain ⟨t1, h⟩ := g
  have t1 := eq_of_beq t1
  have g := gthE h
  clear h
  rcases g with ⟨v3, e2, h⟩ | ⟨y4, e2, z5⟩
  · refine g_callV (As := [.int x1]) (rest := []) hF hM (c_X4_needList e2) k_X4_needList u692 u694 u17 rfl rfl t1 rfl hl.1 rfl (Nat.le_of_ble_eq_true rfl) dX4_sort_2 ⟨(Nat.le_of_ble_eq_true rfl), (Nat.le_of_ble_eq_true rfl)⟩ ⟨(Nat.le_of_ble_eq_true rfl), (Nat.le_of_ble_eq_true rfl)⟩ (fun H locs hM => ?_)
    refine g_astore_n (i := 3) (lv' := [(0, va_rf (some a0)), (1, .int x1), (2, .int x2)]) hx hb dX4_sort_5 rfl hl (by decide) (fun v => rfl) (fun ls hl => ?_)
    refine g_aload_n hx hb dX4_sort_6 rfl (lv_at hl 0 rfl) ?_
    have g := gthE h
    clear h
    rcases g with ⟨v7, e6, h⟩ | ⟨y8, e6, z9⟩
    · refine g_callS (As := [va_rf v3]) (rest := []) hF hM (c_X4_openStore e6) k_X4_openStore u732 u733 rfl hl.1 rfl (Nat.le_of_ble_eq_true rfl) dX4_sort_7 ⟨(Nat.le_of_ble_eq_true rfl), (Nat.le_of_ble_eq_true rfl)⟩ ⟨(Nat.le_of_ble_eq_true rfl), (Nat.le_of_ble_eq_true rfl)⟩ (fun H locs hM => ?_)
      refine g_astore (i := 4) (lv' := [(3, va_rf v3), (0, va_rf (some a0)), (1, .int x1), (2, .int x2)]) hx hb dX4_sort_10 hl (by decide) (fun v => by simp [rf_cat, ic_cat, lc_cat]) (fun ls hl => ?_)
      refine lv_iload_n hx hb dX4_sort_12 rfl (lv_at hl 4 rfl) ?_
      refine lv_bipush (v := 107) hx hb dX4_sort_13 (by decide) ?_
      refine lv_icmp_eq (tgt := 44) hx hb dX4_sort_15 (by decide) (fun c10 => ?_) (fun c10 => ?_)
      · replace h := (if_pos c10).symm.trans h
        refine W.widen (k := 0) (n := 0) (Nat.le_of_ble_eq_true rfl) (Nat.le_of_ble_eq_true rfl) ?_
        exact Jb44 _ _ _ h _ _ _ hM (lv_sub hl [2, 4, 1, 0] rfl)
      · replace h := (if_neg c10).symm.trans h
        refine lv_iload_n hx hb dX4_sort_18 rfl (lv_at hl 4 rfl) ?_
        refine lv_bipush (v := 75) hx hb dX4_sort_19 (by decide) ?_
        refine lv_icmp_eq (tgt := 44) hx hb dX4_sort_21 (by decide) (fun c34 => ?_) (fun c34 => ?_)
        · replace h := (if_pos c34).symm.trans h
          refine W.widen (k := 0) (n := 0) (Nat.le_of_ble_eq_true rfl) (Nat.le_of_ble_eq_true rfl) ?_
          exact Jb44 _ _ _ h _ _ _ hM (lv_sub hl [2, 4, 1, 0] rfl)
        · replace h := (if_neg c34).symm.trans h
          refine lv_iload_n hx hb dX4_sort_24 rfl (lv_at hl 4 rfl) ?_
          refine lv_bipush (v := 109) hx hb dX4_sort_25 (by decide) ?_
          refine lv_icmp_eq (tgt := 44) hx hb dX4_sort_27 (by decide) (fun c35 => ?_) (fun c35 => ?_)
          · replace h := (if_pos c35).symm.trans h
            refine W.widen (k := 0) (n := 0) (Nat.le_of_ble_eq_true rfl) (Nat.le_of_ble_eq_true rfl) ?_
            exact Jb44 _ _ _ h _ _ _ hM (lv_sub hl [2, 4, 1, 0] rfl)
          · replace h := (if_neg c35).symm.trans h
            refine lv_iload_n hx hb dX4_sort_30 rfl (lv_at hl 4 rfl) ?_
            refine lv_bipush (v := 77) hx hb dX4_sort_31 (by decide) ?_
            refine lv_icmp_eq (tgt := 44) hx hb dX4_sort_33 (by decide) (fun c36 => ?_) (fun c36 => ?_)
            · replace h := (if_pos c36).symm.trans h
              refine W.widen (k := 0) (n := 0) (Nat.le_of_ble_eq_true rfl) (Nat.le_of_ble_eq_true rfl) ?_
              exact Jb44 _ _ _ h _ _ _ hM (lv_sub hl [2, 4, 1, 0] rfl)
            · replace h := (if_neg c36).symm.trans h
              exact nomatch (Option.some.inj h)
    · exact nomatch z9
  · exact nomatch z5
abbrev rmx_X4_sort : Room := { frames := 8, cells := 1, slots := 6, locals := 132 }
set_option maxHeartbeats 4000000 in
set_option maxRecDepth 100000 in
theorem cx_X4_sort {l : Launch} {D : va_G} {Y : Nat → ClassId} {S : GS} {hs : Nat} {a0 : Nat} {x1 : Int32} {x2 : Int32} {x : Nat} (hfl : l.stackTraces = false) (h : f_X4_sort S a0 x1 x2 = some (.inr x)) : gMx l yX4_sort (gWs yX4_sort cX4_sort 5 (some .int)) rmx_X4_sort [va_rf (some a0), .int x1, .int x2] D Y S hs (.inr x) := by
  refine g_ofWx (by decide +kernel) (Or.inl ⟨(Nat.le_of_ble_eq_true rfl), (List.forall_mem_cons.mpr ⟨rf_cat _, (List.forall_mem_cons.mpr ⟨rfl, (List.forall_mem_cons.mpr ⟨rfl, (fun _ h => absurd h List.not_mem_nil)⟩)⟩)⟩)⟩) ?_
  intro p e s m args below meth c ls hsz hout hF hM hl
  have hl : lv_has ls 5 [(0, va_rf (some a0)), (1, .int x1), (2, .int x2)] := by rw [g_args [va_rf (some a0), .int x1, .int x2] 0 (List.forall_mem_cons.mpr ⟨rf_cat _, (List.forall_mem_cons.mpr ⟨rfl, (List.forall_mem_cons.mpr ⟨rfl, (fun _ h => absurd h List.not_mem_nil)⟩)⟩)⟩)] at hl; exact hl
  have hF : gF p s m args meth c RX4 cX4_sort 5 (some .int) D Y (gA S hs) := hF
  have hx := hF.1
  have hb := hF.2.1
  have Jb44 : ∀ (x2 : Int32) (x3 : Option Nat) (x4 : Option Nat), f_X4_sort_b44 S a0 x2 x3 x4 = some (.inr x) → ∀ (H : Heap) (locs : List Loc) (ls : Array Slot), gM D Y (gA S hs) s.heap S hs H locs → lv_has ls 5 [(0, va_rf (some a0)), (2, .int x2), (3, va_rf x3), (4, va_rf x4)] → W p l e rmx_X4_sort s m args below meth c H locs 0 0 (vx_MQ below (gQz (.inr x) D Y (gA S hs)) (gXz (.inr x) D Y S (gA S hs)) args s rmx_X4_sort.cells rmx_X4_sort.slots (gA S hs)) (F0 m 44 ls []) := by
    intro x2 x3 x4 h H locs ls hM hl
    unfold f_X4_sort_b44 at h
    refine g_aload hx hb dX4_sort_44 (lv_at hl 3 rfl) ?_
    refine g_aload_n hx hb dX4_sort_46 rfl (lv_at hl 2 rfl) ?_
    have g := gbind h
    clear h
    obtain ⟨a11, e12, h⟩ := g
    have t13 := (gtk_of e12).2
    rw [(gtk_of e12).1]
    have g := gbind h
    clear h
    obtain ⟨v15, e14, h⟩ := g
    refine g_callV (As := []) (rest := [va_rf x4]) hF hM (c_X1_first e14) k_X1_first u553 u214 u215 rfl rfl t13 rfl hl.1 rfl (by simp [rf_cat, ic_cat, lc_cat]) dX4_sort_47 ⟨(Nat.le_of_ble_eq_true rfl), (Nat.le_of_ble_eq_true rfl)⟩ ⟨(Nat.le_of_ble_eq_true rfl), (Nat.le_of_ble_eq_true rfl)⟩ (fun H locs hM => ?_)
    refine g_aload_n hx hb dX4_sort_50 rfl (lv_at hl 2 rfl) ?_
    have g := gbind h
    clear h
    obtain ⟨a16, e17, h⟩ := g
    have t18 := (gtk_of e17).2
    rw [(gtk_of e17).1]
    have g := gbind h
    clear h
    obtain ⟨v20, e19, h⟩ := g
    refine g_callV (As := []) (rest := [.int v15, va_rf x4]) hF hM (c_X1_count e19) k_X1_count u195 u196 u197 rfl rfl t18 rfl hl.1 rfl (by simp [rf_cat, ic_cat, lc_cat]) dX4_sort_51 ⟨(Nat.le_of_ble_eq_true rfl), (Nat.le_of_ble_eq_true rfl)⟩ ⟨(Nat.le_of_ble_eq_true rfl), (Nat.le_of_ble_eq_true rfl)⟩ (fun H locs hM => ?_)
    refine lv_iload_n hx hb dX4_sort_54 rfl (lv_at hl 1 rfl) ?_
    have g := gbind h
    clear h
    obtain ⟨a21, e22, h⟩ := g
    have t23 := (gtk_of e22).2
    rw [(gtk_of e22).1]
    have g := gbind h
    clear h
    obtain ⟨S25, e24, h⟩ := g
    refine g_callV (As := [.int v15, .int v20, .int x2]) (rest := []) hF hM (c_X3_order e24) k_X3_order u887 u296 u297 rfl rfl t23 rfl hl.1 rfl (Nat.le_of_ble_eq_true rfl) dX4_sort_55 ⟨(Nat.le_of_ble_eq_true rfl), (Nat.le_of_ble_eq_true rfl)⟩ ⟨(Nat.le_of_ble_eq_true rfl), (Nat.le_of_ble_eq_true rfl)⟩ (fun H locs hM => ?_)
    refine g_aload_n hx hb dX4_sort_58 rfl (lv_at hl 0 rfl) ?_
    refine g_aload_n hx hb dX4_sort_59 rfl (lv_at hl 2 rfl) ?_
    refine g_aload hx hb dX4_sort_60 (lv_at hl 3 rfl) ?_
    have g := gckE h
    clear h
    obtain ⟨t26, h⟩ := g
    have t26 := eq_of_beq t26
    have g := gbind h
    clear h
    obtain ⟨S28, e27, h⟩ := g
    refine g_callV (As := [va_rf x3, va_rf x4]) (rest := []) hF hM (c_X4_letPartsGo e27) k_X4_letPartsGo u776 u778 u19 rfl rfl t26 rfl hl.1 rfl (Nat.le_of_ble_eq_true rfl) dX4_sort_62 ⟨(Nat.le_of_ble_eq_true rfl), (Nat.le_of_ble_eq_true rfl)⟩ ⟨(Nat.le_of_ble_eq_true rfl), (Nat.le_of_ble_eq_true rfl)⟩ (fun H locs hM => ?_)
    refine g_aload_n hx hb dX4_sort_65 rfl (lv_at hl 2 rfl) ?_
    have g := gbind h
    clear h
    obtain ⟨a29, e30, h⟩ := g
    have t31 := (gtk_of e30).2
    rw [(gtk_of e30).1]
    have g := gbind h
    clear h
    obtain ⟨v33, e32, h⟩ := g
    refine g_callV (As := []) (rest := []) hF hM (c_X1_count e32) k_X1_count u195 u196 u197 rfl rfl t31 rfl hl.1 rfl (Nat.le_of_ble_eq_true rfl) dX4_sort_66 ⟨(Nat.le_of_ble_eq_true rfl), (Nat.le_of_ble_eq_true rfl)⟩ ⟨(Nat.le_of_ble_eq_true rfl), (Nat.le_of_ble_eq_true rfl)⟩ (fun H locs hM => ?_)
    exact nomatch (Option.some.inj h)
  unfold f_X4_sort at h
  refine g_aload_n hx hb dX4_sort_0 rfl (lv_at hl 0 rfl) ?_
  refine lv_iload_n hx hb dX4_sort_1 rfl (lv_at hl 1 rfl) ?_
  have g := gckE h
  clear h
  obtain ⟨t1, h⟩ := g
  have t1 := eq_of_beq t1
  have g := gthE h
  clear h
  rcases g with ⟨v3, e2, h⟩ | ⟨y4, e2, z5⟩
  · refine g_callV (As := [.int x1]) (rest := []) hF hM (c_X4_needList e2) k_X4_needList u692 u694 u17 rfl rfl t1 rfl hl.1 rfl (Nat.le_of_ble_eq_true rfl) dX4_sort_2 ⟨(Nat.le_of_ble_eq_true rfl), (Nat.le_of_ble_eq_true rfl)⟩ ⟨(Nat.le_of_ble_eq_true rfl), (Nat.le_of_ble_eq_true rfl)⟩ (fun H locs hM => ?_)
    refine g_astore_n (i := 3) (lv' := [(0, va_rf (some a0)), (1, .int x1), (2, .int x2)]) hx hb dX4_sort_5 rfl hl (by decide) (fun v => rfl) (fun ls hl => ?_)
    refine g_aload_n hx hb dX4_sort_6 rfl (lv_at hl 0 rfl) ?_
    have g := gthE h
    clear h
    rcases g with ⟨v7, e6, h⟩ | ⟨y8, e6, z9⟩
    · refine g_callS (As := [va_rf v3]) (rest := []) hF hM (c_X4_openStore e6) k_X4_openStore u732 u733 rfl hl.1 rfl (Nat.le_of_ble_eq_true rfl) dX4_sort_7 ⟨(Nat.le_of_ble_eq_true rfl), (Nat.le_of_ble_eq_true rfl)⟩ ⟨(Nat.le_of_ble_eq_true rfl), (Nat.le_of_ble_eq_true rfl)⟩ (fun H locs hM => ?_)
      refine g_astore (i := 4) (lv' := [(3, va_rf v3), (0, va_rf (some a0)), (1, .int x1), (2, .int x2)]) hx hb dX4_sort_10 hl (by decide) (fun v => by simp [rf_cat, ic_cat, lc_cat]) (fun ls hl => ?_)
      refine lv_iload_n hx hb dX4_sort_12 rfl (lv_at hl 4 rfl) ?_
      refine lv_bipush (v := 107) hx hb dX4_sort_13 (by decide) ?_
      refine lv_icmp_eq (tgt := 44) hx hb dX4_sort_15 (by decide) (fun c10 => ?_) (fun c10 => ?_)
      · replace h := (if_pos c10).symm.trans h
        refine W.widen (k := 0) (n := 0) (Nat.le_of_ble_eq_true rfl) (Nat.le_of_ble_eq_true rfl) ?_
        exact Jb44 _ _ _ h _ _ _ hM (lv_sub hl [2, 4, 1, 0] rfl)
      · replace h := (if_neg c10).symm.trans h
        refine lv_iload_n hx hb dX4_sort_18 rfl (lv_at hl 4 rfl) ?_
        refine lv_bipush (v := 75) hx hb dX4_sort_19 (by decide) ?_
        refine lv_icmp_eq (tgt := 44) hx hb dX4_sort_21 (by decide) (fun c34 => ?_) (fun c34 => ?_)
        · replace h := (if_pos c34).symm.trans h
          refine W.widen (k := 0) (n := 0) (Nat.le_of_ble_eq_true rfl) (Nat.le_of_ble_eq_true rfl) ?_
          exact Jb44 _ _ _ h _ _ _ hM (lv_sub hl [2, 4, 1, 0] rfl)
        · replace h := (if_neg c34).symm.trans h
          refine lv_iload_n hx hb dX4_sort_24 rfl (lv_at hl 4 rfl) ?_
          refine lv_bipush (v := 109) hx hb dX4_sort_25 (by decide) ?_
          refine lv_icmp_eq (tgt := 44) hx hb dX4_sort_27 (by decide) (fun c35 => ?_) (fun c35 => ?_)
          · replace h := (if_pos c35).symm.trans h
            refine W.widen (k := 0) (n := 0) (Nat.le_of_ble_eq_true rfl) (Nat.le_of_ble_eq_true rfl) ?_
            exact Jb44 _ _ _ h _ _ _ hM (lv_sub hl [2, 4, 1, 0] rfl)
          · replace h := (if_neg c35).symm.trans h
            refine lv_iload_n hx hb dX4_sort_30 rfl (lv_at hl 4 rfl) ?_
            refine lv_bipush (v := 77) hx hb dX4_sort_31 (by decide) ?_
            refine lv_icmp_eq (tgt := 44) hx hb dX4_sort_33 (by decide) (fun c36 => ?_) (fun c36 => ?_)
            · replace h := (if_pos c36).symm.trans h
              refine W.widen (k := 0) (n := 0) (Nat.le_of_ble_eq_true rfl) (Nat.le_of_ble_eq_true rfl) ?_
              exact Jb44 _ _ _ h _ _ _ hM (lv_sub hl [2, 4, 1, 0] rfl)
            · replace h := (if_neg c36).symm.trans h
              exact g_throw hF hM hfl hout ew_X4_57_59 (congrArg Sum.inr (Sum.inr.inj (Option.some.inj h)).symm) hl.1 dX4_sort_36 dX4_sort_39 dX4_sort_40 dX4_sort_43 (Nat.le_of_ble_eq_true rfl) (Nat.le_of_ble_eq_true rfl) (Nat.le_of_ble_eq_true rfl) (Nat.le_of_ble_eq_true rfl) (Nat.le_of_ble_eq_true rfl) (Nat.le_of_ble_eq_true rfl)
    · exact g_callSt (As := [va_rf v3]) (rest := []) hF hM hout (cx_X4_openStore hfl e6) k_X4_openStore u732 u733 rfl hl.1 rfl (Nat.le_of_ble_eq_true rfl) dX4_sort_7 ⟨(Nat.le_of_ble_eq_true rfl), (Nat.le_of_ble_eq_true rfl)⟩ ⟨(Nat.le_of_ble_eq_true rfl), (Nat.le_of_ble_eq_true rfl)⟩ (Nat.le_of_ble_eq_true rfl) (Nat.le_of_ble_eq_true rfl) (congrArg Sum.inr (Sum.inr.inj z9))
  · exact g_callVt (As := [.int x1]) (rest := []) hF hM hout (cx_X4_needList hfl e2) k_X4_needList u692 u694 u17 rfl rfl t1 rfl hl.1 rfl (Nat.le_of_ble_eq_true rfl) dX4_sort_2 ⟨(Nat.le_of_ble_eq_true rfl), (Nat.le_of_ble_eq_true rfl)⟩ ⟨(Nat.le_of_ble_eq_true rfl), (Nat.le_of_ble_eq_true rfl)⟩ (Nat.le_of_ble_eq_true rfl) (Nat.le_of_ble_eq_true rfl) (congrArg Sum.inr (Sum.inr.inj z5))
abbrev rm_X4_search : Room := { frames := 3, cells := 0, slots := 0, locals := 65 }
theorem k_X4_search : gKc yX4_search cX4_search 4 (some .int) 2 := ⟨u894, u63, by decide +kernel, by decide +kernel, by decide +kernel⟩
set_option maxHeartbeats 4000000 in
set_option maxRecDepth 100000 in
theorem c_X4_search {l : Launch} {D : va_G} {Y : Nat → ClassId} {S : GS} {hs : Nat} {a0 : Nat} {x1 : Int32} {x2 : Int32} {r : Int32} (h : f_X4_search S a0 x1 x2 = some (.inl r)) : gMet l yX4_search (gWs yX4_search cX4_search 4 (some .int)) rm_X4_search [va_rf (some a0), .int x1, .int x2] D Y S hs (some (.int r)) S hs := by
  refine g_ofW (by decide +kernel) (Or.inl ⟨(Nat.le_of_ble_eq_true rfl), (List.forall_mem_cons.mpr ⟨rf_cat _, (List.forall_mem_cons.mpr ⟨rfl, (List.forall_mem_cons.mpr ⟨rfl, (fun _ h => absurd h List.not_mem_nil)⟩)⟩)⟩)⟩) ?_
  intro p e s m args below meth c ls hsz hname hF hM hl
  have hl : lv_has ls 4 [(0, va_rf (some a0)), (1, .int x1), (2, .int x2)] := by rw [g_args [va_rf (some a0), .int x1, .int x2] 0 (List.forall_mem_cons.mpr ⟨rf_cat _, (List.forall_mem_cons.mpr ⟨rfl, (List.forall_mem_cons.mpr ⟨rfl, (fun _ h => absurd h List.not_mem_nil)⟩)⟩)⟩)] at hl; exact hl
  have hF : gF p s m args meth c RX4 cX4_search 4 (some .int) D Y (gA S hs) := hF
  have hx := hF.1
  have hb := hF.2.1
  unfold f_X4_search at h
  refine g_aload_n hx hb dX4_search_0 rfl (lv_at hl 0 rfl) ?_
  refine lv_iload_n hx hb dX4_search_1 rfl (lv_at hl 1 rfl) ?_
  have g := gckE h
  clear h
  obtain ⟨t1, h⟩ := g
  have t1 := eq_of_beq t1
  have g := gthE h
  clear h
  rcases g with ⟨v3, e2, h⟩ | ⟨y4, e2, z5⟩
  · refine g_callV (As := [.int x1]) (rest := []) hF hM (c_X4_needList e2) k_X4_needList u692 u694 u17 rfl rfl t1 rfl hl.1 rfl (Nat.le_of_ble_eq_true rfl) dX4_search_2 ⟨(Nat.le_of_ble_eq_true rfl), (Nat.le_of_ble_eq_true rfl)⟩ ⟨(Nat.le_of_ble_eq_true rfl), (Nat.le_of_ble_eq_true rfl)⟩ (fun H locs hM => ?_)
    refine g_astore_n (i := 3) (lv' := [(0, va_rf (some a0)), (1, .int x1), (2, .int x2)]) hx hb dX4_search_5 rfl hl (by decide) (fun v => rfl) (fun ls hl => ?_)
    refine g_aload_n hx hb dX4_search_6 rfl (lv_at hl 0 rfl) ?_
    have g := gbind h
    clear h
    obtain ⟨a6, e7, h⟩ := g
    have t8 := (gtk_of e7).2
    rw [(gtk_of e7).1]
    have g := gbind h
    clear h
    obtain ⟨v10, e9, h⟩ := g
    refine g_callV (As := []) (rest := []) hF hM (c_X1_hasRisingKeys e9) k_X1_hasRisingKeys u895 u896 u897 rfl rfl t8 rfl hl.1 rfl (Nat.le_of_ble_eq_true rfl) dX4_search_7 ⟨(Nat.le_of_ble_eq_true rfl), (Nat.le_of_ble_eq_true rfl)⟩ ⟨(Nat.le_of_ble_eq_true rfl), (Nat.le_of_ble_eq_true rfl)⟩ (fun H locs hM => ?_)
    refine lv_if_ne (tgt := 21) hx hb dX4_search_10 (by decide) (fun c11 => ?_) (fun c11 => ?_)
    · replace h := (if_neg c11).symm.trans h
      refine g_aload_n hx hb dX4_search_21 rfl (lv_at hl 0 rfl) ?_
      refine lv_iload_n hx hb dX4_search_22 rfl (lv_at hl 3 rfl) ?_
      have g := gbind h
      clear h
      obtain ⟨a12, e13, h⟩ := g
      have t14 := (gtk_of e13).2
      rw [(gtk_of e13).1]
      have g := gbind h
      clear h
      obtain ⟨v16, e15, h⟩ := g
      refine g_callV (As := [.int x2]) (rest := []) hF hM (c_X1_searchKey e15) k_X1_searchKey u899 u351 u352 rfl rfl t14 rfl hl.1 rfl (Nat.le_of_ble_eq_true rfl) dX4_search_23 ⟨(Nat.le_of_ble_eq_true rfl), (Nat.le_of_ble_eq_true rfl)⟩ ⟨(Nat.le_of_ble_eq_true rfl), (Nat.le_of_ble_eq_true rfl)⟩ (fun H locs hM => ?_)
      rw [← (Sum.inl.inj (Option.some.inj h))]
      exact g_iret hF hM rfl rfl dX4_search_26 (Nat.le_of_ble_eq_true rfl) (Nat.le_of_ble_eq_true rfl)
    · replace h := (if_pos c11).symm.trans h
      exact nomatch (Option.some.inj h)
  · exact nomatch z5
abbrev rmx_X4_search : Room := { frames := 8, cells := 1, slots := 6, locals := 132 }
set_option maxHeartbeats 4000000 in
set_option maxRecDepth 100000 in
theorem cx_X4_search {l : Launch} {D : va_G} {Y : Nat → ClassId} {S : GS} {hs : Nat} {a0 : Nat} {x1 : Int32} {x2 : Int32} {x : Nat} (hfl : l.stackTraces = false) (h : f_X4_search S a0 x1 x2 = some (.inr x)) : gMx l yX4_search (gWs yX4_search cX4_search 4 (some .int)) rmx_X4_search [va_rf (some a0), .int x1, .int x2] D Y S hs (.inr x) := by
  refine g_ofWx (by decide +kernel) (Or.inl ⟨(Nat.le_of_ble_eq_true rfl), (List.forall_mem_cons.mpr ⟨rf_cat _, (List.forall_mem_cons.mpr ⟨rfl, (List.forall_mem_cons.mpr ⟨rfl, (fun _ h => absurd h List.not_mem_nil)⟩)⟩)⟩)⟩) ?_
  intro p e s m args below meth c ls hsz hout hF hM hl
  have hl : lv_has ls 4 [(0, va_rf (some a0)), (1, .int x1), (2, .int x2)] := by rw [g_args [va_rf (some a0), .int x1, .int x2] 0 (List.forall_mem_cons.mpr ⟨rf_cat _, (List.forall_mem_cons.mpr ⟨rfl, (List.forall_mem_cons.mpr ⟨rfl, (fun _ h => absurd h List.not_mem_nil)⟩)⟩)⟩)] at hl; exact hl
  have hF : gF p s m args meth c RX4 cX4_search 4 (some .int) D Y (gA S hs) := hF
  have hx := hF.1
  have hb := hF.2.1
  unfold f_X4_search at h
  refine g_aload_n hx hb dX4_search_0 rfl (lv_at hl 0 rfl) ?_
  refine lv_iload_n hx hb dX4_search_1 rfl (lv_at hl 1 rfl) ?_
  have g := gckE h
  clear h
  obtain ⟨t1, h⟩ := g
  have t1 := eq_of_beq t1
  have g := gthE h
  clear h
  rcases g with ⟨v3, e2, h⟩ | ⟨y4, e2, z5⟩
  · refine g_callV (As := [.int x1]) (rest := []) hF hM (c_X4_needList e2) k_X4_needList u692 u694 u17 rfl rfl t1 rfl hl.1 rfl (Nat.le_of_ble_eq_true rfl) dX4_search_2 ⟨(Nat.le_of_ble_eq_true rfl), (Nat.le_of_ble_eq_true rfl)⟩ ⟨(Nat.le_of_ble_eq_true rfl), (Nat.le_of_ble_eq_true rfl)⟩ (fun H locs hM => ?_)
    refine g_astore_n (i := 3) (lv' := [(0, va_rf (some a0)), (1, .int x1), (2, .int x2)]) hx hb dX4_search_5 rfl hl (by decide) (fun v => rfl) (fun ls hl => ?_)
    refine g_aload_n hx hb dX4_search_6 rfl (lv_at hl 0 rfl) ?_
    have g := gbind h
    clear h
    obtain ⟨a6, e7, h⟩ := g
    have t8 := (gtk_of e7).2
    rw [(gtk_of e7).1]
    have g := gbind h
    clear h
    obtain ⟨v10, e9, h⟩ := g
    refine g_callV (As := []) (rest := []) hF hM (c_X1_hasRisingKeys e9) k_X1_hasRisingKeys u895 u896 u897 rfl rfl t8 rfl hl.1 rfl (Nat.le_of_ble_eq_true rfl) dX4_search_7 ⟨(Nat.le_of_ble_eq_true rfl), (Nat.le_of_ble_eq_true rfl)⟩ ⟨(Nat.le_of_ble_eq_true rfl), (Nat.le_of_ble_eq_true rfl)⟩ (fun H locs hM => ?_)
    refine lv_if_ne (tgt := 21) hx hb dX4_search_10 (by decide) (fun c11 => ?_) (fun c11 => ?_)
    · replace h := (if_neg c11).symm.trans h
      refine g_aload_n hx hb dX4_search_21 rfl (lv_at hl 0 rfl) ?_
      refine lv_iload_n hx hb dX4_search_22 rfl (lv_at hl 3 rfl) ?_
      have g := gbind h
      clear h
      obtain ⟨a12, e13, h⟩ := g
      have t14 := (gtk_of e13).2
      rw [(gtk_of e13).1]
      have g := gbind h
      clear h
      obtain ⟨v16, e15, h⟩ := g
      refine g_callV (As := [.int x2]) (rest := []) hF hM (c_X1_searchKey e15) k_X1_searchKey u899 u351 u352 rfl rfl t14 rfl hl.1 rfl (Nat.le_of_ble_eq_true rfl) dX4_search_23 ⟨(Nat.le_of_ble_eq_true rfl), (Nat.le_of_ble_eq_true rfl)⟩ ⟨(Nat.le_of_ble_eq_true rfl), (Nat.le_of_ble_eq_true rfl)⟩ (fun H locs hM => ?_)
      exact nomatch (Option.some.inj h)
    · replace h := (if_pos c11).symm.trans h
      exact g_throw hF hM hfl hout ew_X4_180_182 (congrArg Sum.inr (Sum.inr.inj (Option.some.inj h)).symm) hl.1 dX4_search_13 dX4_search_16 dX4_search_17 dX4_search_20 (Nat.le_of_ble_eq_true rfl) (Nat.le_of_ble_eq_true rfl) (Nat.le_of_ble_eq_true rfl) (Nat.le_of_ble_eq_true rfl) (Nat.le_of_ble_eq_true rfl) (Nat.le_of_ble_eq_true rfl)
  · exact g_callVt (As := [.int x1]) (rest := []) hF hM hout (cx_X4_needList hfl e2) k_X4_needList u692 u694 u17 rfl rfl t1 rfl hl.1 rfl (Nat.le_of_ble_eq_true rfl) dX4_search_2 ⟨(Nat.le_of_ble_eq_true rfl), (Nat.le_of_ble_eq_true rfl)⟩ ⟨(Nat.le_of_ble_eq_true rfl), (Nat.le_of_ble_eq_true rfl)⟩ (Nat.le_of_ble_eq_true rfl) (Nat.le_of_ble_eq_true rfl) (congrArg Sum.inr (Sum.inr.inj z5))
abbrev rm_X4_turn : Room := { frames := 3, cells := 0, slots := 0, locals := 69 }
theorem k_X4_turn : gKc yX4_turn cX4_turn 3 (some .int) 1 := ⟨u906, u63, by decide +kernel, by decide +kernel, by decide +kernel⟩
set_option maxHeartbeats 4000000 in
set_option maxRecDepth 100000 in
theorem c_X4_turn {l : Launch} {D : va_G} {Y : Nat → ClassId} {S : GS} {hs : Nat} {a0 : Nat} {x1 : Int32} {r : Int32} {S' : GS} (h : f_X4_turn S a0 x1 = some (.inl (r, S'))) : gMet l yX4_turn (gWs yX4_turn cX4_turn 3 (some .int)) rm_X4_turn [va_rf (some a0), .int x1] D Y S hs (some (.int r)) S' hs := by
  refine g_ofW (by decide +kernel) (Or.inl ⟨(Nat.le_of_ble_eq_true rfl), (List.forall_mem_cons.mpr ⟨rf_cat _, (List.forall_mem_cons.mpr ⟨rfl, (fun _ h => absurd h List.not_mem_nil)⟩)⟩)⟩) ?_
  intro p e s m args below meth c ls hsz hname hF hM hl
  have hl : lv_has ls 3 [(0, va_rf (some a0)), (1, .int x1)] := by rw [g_args [va_rf (some a0), .int x1] 0 (List.forall_mem_cons.mpr ⟨rf_cat _, (List.forall_mem_cons.mpr ⟨rfl, (fun _ h => absurd h List.not_mem_nil)⟩)⟩)] at hl; exact hl
  have hF : gF p s m args meth c RX4 cX4_turn 3 (some .int) D Y (gA S hs) := hF
  have hx := hF.1
  have hb := hF.2.1
  unfold f_X4_turn at h
  refine g_aload_n hx hb dX4_turn_0 rfl (lv_at hl 0 rfl) ?_
  refine lv_iload_n hx hb dX4_turn_1 rfl (lv_at hl 1 rfl) ?_
  have g := gckE h
  clear h
  obtain ⟨t1, h⟩ := g
  have t1 := eq_of_beq t1
  have g := gthE h
  clear h
  rcases g with ⟨v3, e2, h⟩ | ⟨y4, e2, z5⟩
  · refine g_callV (As := [.int x1]) (rest := []) hF hM (c_X4_needList e2) k_X4_needList u692 u694 u17 rfl rfl t1 rfl hl.1 rfl (Nat.le_of_ble_eq_true rfl) dX4_turn_2 ⟨(Nat.le_of_ble_eq_true rfl), (Nat.le_of_ble_eq_true rfl)⟩ ⟨(Nat.le_of_ble_eq_true rfl), (Nat.le_of_ble_eq_true rfl)⟩ (fun H locs hM => ?_)
    refine g_astore_n (i := 2) (lv' := [(0, va_rf (some a0)), (1, .int x1)]) hx hb dX4_turn_5 rfl hl (by decide) (fun v => rfl) (fun ls hl => ?_)
    refine g_aload_n hx hb dX4_turn_6 rfl (lv_at hl 0 rfl) ?_
    have g := gthE h
    clear h
    rcases g with ⟨v7, e6, h⟩ | ⟨y8, e6, z9⟩
    · refine g_callS (As := [va_rf v3]) (rest := []) hF hM (c_X4_openStore e6) k_X4_openStore u732 u733 rfl hl.1 rfl (Nat.le_of_ble_eq_true rfl) dX4_turn_7 ⟨(Nat.le_of_ble_eq_true rfl), (Nat.le_of_ble_eq_true rfl)⟩ ⟨(Nat.le_of_ble_eq_true rfl), (Nat.le_of_ble_eq_true rfl)⟩ (fun H locs hM => ?_)
      refine g_aload_n hx hb dX4_turn_10 rfl (lv_at hl 0 rfl) ?_
      have g := gbind h
      clear h
      obtain ⟨a10, e11, h⟩ := g
      have t12 := (gtk_of e11).2
      rw [(gtk_of e11).1]
      have g := gbind h
      clear h
      obtain ⟨v14, e13, h⟩ := g
      refine g_callV (As := []) (rest := [va_rf v7]) hF hM (c_X1_first e13) k_X1_first u553 u214 u215 rfl rfl t12 rfl hl.1 rfl (by simp [rf_cat, ic_cat, lc_cat]) dX4_turn_11 ⟨(Nat.le_of_ble_eq_true rfl), (Nat.le_of_ble_eq_true rfl)⟩ ⟨(Nat.le_of_ble_eq_true rfl), (Nat.le_of_ble_eq_true rfl)⟩ (fun H locs hM => ?_)
      refine g_aload_n hx hb dX4_turn_14 rfl (lv_at hl 0 rfl) ?_
      have g := gbind h
      clear h
      obtain ⟨a15, e16, h⟩ := g
      have t17 := (gtk_of e16).2
      rw [(gtk_of e16).1]
      have g := gbind h
      clear h
      obtain ⟨v19, e18, h⟩ := g
      refine g_callV (As := []) (rest := [.int v14, va_rf v7]) hF hM (c_X1_count e18) k_X1_count u195 u196 u197 rfl rfl t17 rfl hl.1 rfl (by simp [rf_cat, ic_cat, lc_cat]) dX4_turn_15 ⟨(Nat.le_of_ble_eq_true rfl), (Nat.le_of_ble_eq_true rfl)⟩ ⟨(Nat.le_of_ble_eq_true rfl), (Nat.le_of_ble_eq_true rfl)⟩ (fun H locs hM => ?_)
      have g := gbind h
      clear h
      obtain ⟨a20, e21, h⟩ := g
      have t22 := (gtk_of e21).2
      rw [(gtk_of e21).1]
      have g := gbind h
      clear h
      obtain ⟨S24, e23, h⟩ := g
      refine g_callV (As := [.int v14, .int v19]) (rest := []) hF hM (c_X3_reverse e23) k_X3_reverse u907 u325 u326 rfl rfl t22 rfl hl.1 rfl (Nat.le_of_ble_eq_true rfl) dX4_turn_18 ⟨(Nat.le_of_ble_eq_true rfl), (Nat.le_of_ble_eq_true rfl)⟩ ⟨(Nat.le_of_ble_eq_true rfl), (Nat.le_of_ble_eq_true rfl)⟩ (fun H locs hM => ?_)
      refine g_aload_n hx hb dX4_turn_21 rfl (lv_at hl 0 rfl) ?_
      have g := gbind h
      clear h
      obtain ⟨a25, e26, h⟩ := g
      have t27 := (gtk_of e26).2
      rw [(gtk_of e26).1]
      have g := gbind h
      clear h
      obtain ⟨v29, e28, h⟩ := g
      refine g_callV (As := []) (rest := []) hF hM (c_X1_count e28) k_X1_count u195 u196 u197 rfl rfl t27 rfl hl.1 rfl (Nat.le_of_ble_eq_true rfl) dX4_turn_22 ⟨(Nat.le_of_ble_eq_true rfl), (Nat.le_of_ble_eq_true rfl)⟩ ⟨(Nat.le_of_ble_eq_true rfl), (Nat.le_of_ble_eq_true rfl)⟩ (fun H locs hM => ?_)
      obtain ⟨q1, q2⟩ := Prod.mk.inj (Sum.inl.inj (Option.some.inj h))
      rw [← q1, ← q2]
      exact g_iret hF hM rfl rfl dX4_turn_25 (Nat.le_of_ble_eq_true rfl) (Nat.le_of_ble_eq_true rfl)
    · exact nomatch z9
  · exact nomatch z5
abbrev rmx_X4_turn : Room := { frames := 8, cells := 1, slots := 6, locals := 132 }
set_option maxHeartbeats 4000000 in
set_option maxRecDepth 100000 in
theorem cx_X4_turn {l : Launch} {D : va_G} {Y : Nat → ClassId} {S : GS} {hs : Nat} {a0 : Nat} {x1 : Int32} {x : Nat} (hfl : l.stackTraces = false) (h : f_X4_turn S a0 x1 = some (.inr x)) : gMx l yX4_turn (gWs yX4_turn cX4_turn 3 (some .int)) rmx_X4_turn [va_rf (some a0), .int x1] D Y S hs (.inr x) := by
  refine g_ofWx (by decide +kernel) (Or.inl ⟨(Nat.le_of_ble_eq_true rfl), (List.forall_mem_cons.mpr ⟨rf_cat _, (List.forall_mem_cons.mpr ⟨rfl, (fun _ h => absurd h List.not_mem_nil)⟩)⟩)⟩) ?_
  intro p e s m args below meth c ls hsz hout hF hM hl
  have hl : lv_has ls 3 [(0, va_rf (some a0)), (1, .int x1)] := by rw [g_args [va_rf (some a0), .int x1] 0 (List.forall_mem_cons.mpr ⟨rf_cat _, (List.forall_mem_cons.mpr ⟨rfl, (fun _ h => absurd h List.not_mem_nil)⟩)⟩)] at hl; exact hl
  have hF : gF p s m args meth c RX4 cX4_turn 3 (some .int) D Y (gA S hs) := hF
  have hx := hF.1
  have hb := hF.2.1
  unfold f_X4_turn at h
  refine g_aload_n hx hb dX4_turn_0 rfl (lv_at hl 0 rfl) ?_
  refine lv_iload_n hx hb dX4_turn_1 rfl (lv_at hl 1 rfl) ?_
  have g := gckE h
  clear h
  obtain ⟨t1, h⟩ := g
  have t1 := eq_of_beq t1
  have g := gthE h
  clear h
  rcases g with ⟨v3, e2, h⟩ | ⟨y4, e2, z5⟩
  · refine g_callV (As := [.int x1]) (rest := []) hF hM (c_X4_needList e2) k_X4_needList u692 u694 u17 rfl rfl t1 rfl hl.1 rfl (Nat.le_of_ble_eq_true rfl) dX4_turn_2 ⟨(Nat.le_of_ble_eq_true rfl), (Nat.le_of_ble_eq_true rfl)⟩ ⟨(Nat.le_of_ble_eq_true rfl), (Nat.le_of_ble_eq_true rfl)⟩ (fun H locs hM => ?_)
    refine g_astore_n (i := 2) (lv' := [(0, va_rf (some a0)), (1, .int x1)]) hx hb dX4_turn_5 rfl hl (by decide) (fun v => rfl) (fun ls hl => ?_)
    refine g_aload_n hx hb dX4_turn_6 rfl (lv_at hl 0 rfl) ?_
    have g := gthE h
    clear h
    rcases g with ⟨v7, e6, h⟩ | ⟨y8, e6, z9⟩
    · refine g_callS (As := [va_rf v3]) (rest := []) hF hM (c_X4_openStore e6) k_X4_openStore u732 u733 rfl hl.1 rfl (Nat.le_of_ble_eq_true rfl) dX4_turn_7 ⟨(Nat.le_of_ble_eq_true rfl), (Nat.le_of_ble_eq_true rfl)⟩ ⟨(Nat.le_of_ble_eq_true rfl), (Nat.le_of_ble_eq_true rfl)⟩ (fun H locs hM => ?_)
      refine g_aload_n hx hb dX4_turn_10 rfl (lv_at hl 0 rfl) ?_
      have g := gbind h
      clear h
      obtain ⟨a10, e11, h⟩ := g
      have t12 := (gtk_of e11).2
      rw [(gtk_of e11).1]
      have g := gbind h
      clear h
      obtain ⟨v14, e13, h⟩ := g
      refine g_callV (As := []) (rest := [va_rf v7]) hF hM (c_X1_first e13) k_X1_first u553 u214 u215 rfl rfl t12 rfl hl.1 rfl (by simp [rf_cat, ic_cat, lc_cat]) dX4_turn_11 ⟨(Nat.le_of_ble_eq_true rfl), (Nat.le_of_ble_eq_true rfl)⟩ ⟨(Nat.le_of_ble_eq_true rfl), (Nat.le_of_ble_eq_true rfl)⟩ (fun H locs hM => ?_)
      refine g_aload_n hx hb dX4_turn_14 rfl (lv_at hl 0 rfl) ?_
      have g := gbind h
      clear h
      obtain ⟨a15, e16, h⟩ := g
      have t17 := (gtk_of e16).2
      rw [(gtk_of e16).1]
      have g := gbind h
      clear h
      obtain ⟨v19, e18, h⟩ := g
      refine g_callV (As := []) (rest := [.int v14, va_rf v7]) hF hM (c_X1_count e18) k_X1_count u195 u196 u197 rfl rfl t17 rfl hl.1 rfl (by simp [rf_cat, ic_cat, lc_cat]) dX4_turn_15 ⟨(Nat.le_of_ble_eq_true rfl), (Nat.le_of_ble_eq_true rfl)⟩ ⟨(Nat.le_of_ble_eq_true rfl), (Nat.le_of_ble_eq_true rfl)⟩ (fun H locs hM => ?_)
      have g := gbind h
      clear h
      obtain ⟨a20, e21, h⟩ := g
      have t22 := (gtk_of e21).2
      rw [(gtk_of e21).1]
      have g := gbind h
      clear h
      obtain ⟨S24, e23, h⟩ := g
      refine g_callV (As := [.int v14, .int v19]) (rest := []) hF hM (c_X3_reverse e23) k_X3_reverse u907 u325 u326 rfl rfl t22 rfl hl.1 rfl (Nat.le_of_ble_eq_true rfl) dX4_turn_18 ⟨(Nat.le_of_ble_eq_true rfl), (Nat.le_of_ble_eq_true rfl)⟩ ⟨(Nat.le_of_ble_eq_true rfl), (Nat.le_of_ble_eq_true rfl)⟩ (fun H locs hM => ?_)
      refine g_aload_n hx hb dX4_turn_21 rfl (lv_at hl 0 rfl) ?_
      have g := gbind h
      clear h
      obtain ⟨a25, e26, h⟩ := g
      have t27 := (gtk_of e26).2
      rw [(gtk_of e26).1]
      have g := gbind h
      clear h
      obtain ⟨v29, e28, h⟩ := g
      refine g_callV (As := []) (rest := []) hF hM (c_X1_count e28) k_X1_count u195 u196 u197 rfl rfl t27 rfl hl.1 rfl (Nat.le_of_ble_eq_true rfl) dX4_turn_22 ⟨(Nat.le_of_ble_eq_true rfl), (Nat.le_of_ble_eq_true rfl)⟩ ⟨(Nat.le_of_ble_eq_true rfl), (Nat.le_of_ble_eq_true rfl)⟩ (fun H locs hM => ?_)
      exact nomatch (Option.some.inj h)
    · exact g_callSt (As := [va_rf v3]) (rest := []) hF hM hout (cx_X4_openStore hfl e6) k_X4_openStore u732 u733 rfl hl.1 rfl (Nat.le_of_ble_eq_true rfl) dX4_turn_7 ⟨(Nat.le_of_ble_eq_true rfl), (Nat.le_of_ble_eq_true rfl)⟩ ⟨(Nat.le_of_ble_eq_true rfl), (Nat.le_of_ble_eq_true rfl)⟩ (Nat.le_of_ble_eq_true rfl) (Nat.le_of_ble_eq_true rfl) (congrArg Sum.inr (Sum.inr.inj z9))
  · exact g_callVt (As := [.int x1]) (rest := []) hF hM hout (cx_X4_needList hfl e2) k_X4_needList u692 u694 u17 rfl rfl t1 rfl hl.1 rfl (Nat.le_of_ble_eq_true rfl) dX4_turn_2 ⟨(Nat.le_of_ble_eq_true rfl), (Nat.le_of_ble_eq_true rfl)⟩ ⟨(Nat.le_of_ble_eq_true rfl), (Nat.le_of_ble_eq_true rfl)⟩ (Nat.le_of_ble_eq_true rfl) (Nat.le_of_ble_eq_true rfl) (congrArg Sum.inr (Sum.inr.inj z5))
abbrev rm_X4_swap : Room := { frames := 2, cells := 0, slots := 0, locals := 46 }
theorem k_X4_swap : gKc yX4_swap cX4_swap 6 (some .int) 3 := ⟨u914, u63, by decide +kernel, by decide +kernel, by decide +kernel⟩
set_option maxHeartbeats 4000000 in
set_option maxRecDepth 100000 in
theorem c_X4_swap {l : Launch} {D : va_G} {Y : Nat → ClassId} {S : GS} {hs : Nat} {a0 : Nat} {x1 : Int32} {x2 : Int32} {x3 : Int32} {r : Int32} {S' : GS} (h : f_X4_swap S a0 x1 x2 x3 = some (.inl (r, S'))) : gMet l yX4_swap (gWs yX4_swap cX4_swap 6 (some .int)) rm_X4_swap [va_rf (some a0), .int x1, .int x2, .int x3] D Y S hs (some (.int r)) S' hs := by
  refine g_ofW (by decide +kernel) (Or.inl ⟨(Nat.le_of_ble_eq_true rfl), (List.forall_mem_cons.mpr ⟨rf_cat _, (List.forall_mem_cons.mpr ⟨rfl, (List.forall_mem_cons.mpr ⟨rfl, (List.forall_mem_cons.mpr ⟨rfl, (fun _ h => absurd h List.not_mem_nil)⟩)⟩)⟩)⟩)⟩) ?_
  intro p e s m args below meth c ls hsz hname hF hM hl
  have hl : lv_has ls 6 [(0, va_rf (some a0)), (1, .int x1), (2, .int x2), (3, .int x3)] := by rw [g_args [va_rf (some a0), .int x1, .int x2, .int x3] 0 (List.forall_mem_cons.mpr ⟨rf_cat _, (List.forall_mem_cons.mpr ⟨rfl, (List.forall_mem_cons.mpr ⟨rfl, (List.forall_mem_cons.mpr ⟨rfl, (fun _ h => absurd h List.not_mem_nil)⟩)⟩)⟩)⟩)] at hl; exact hl
  have hF : gF p s m args meth c RX4 cX4_swap 6 (some .int) D Y (gA S hs) := hF
  have hx := hF.1
  have hb := hF.2.1
  unfold f_X4_swap at h
  refine g_aload_n hx hb dX4_swap_0 rfl (lv_at hl 0 rfl) ?_
  refine lv_iload_n hx hb dX4_swap_1 rfl (lv_at hl 1 rfl) ?_
  have g := gckE h
  clear h
  obtain ⟨t1, h⟩ := g
  have t1 := eq_of_beq t1
  have g := gthE h
  clear h
  rcases g with ⟨v3, e2, h⟩ | ⟨y4, e2, z5⟩
  · refine g_callV (As := [.int x1]) (rest := []) hF hM (c_X4_needList e2) k_X4_needList u692 u694 u17 rfl rfl t1 rfl hl.1 rfl (Nat.le_of_ble_eq_true rfl) dX4_swap_2 ⟨(Nat.le_of_ble_eq_true rfl), (Nat.le_of_ble_eq_true rfl)⟩ ⟨(Nat.le_of_ble_eq_true rfl), (Nat.le_of_ble_eq_true rfl)⟩ (fun H locs hM => ?_)
    refine g_astore (i := 4) (lv' := [(0, va_rf (some a0)), (1, .int x1), (2, .int x2), (3, .int x3)]) hx hb dX4_swap_5 hl (by decide) (fun v => rfl) (fun ls hl => ?_)
    refine g_aload hx hb dX4_swap_7 (lv_at hl 0 rfl) ?_
    have g := gthE h
    clear h
    rcases g with ⟨v7, e6, h⟩ | ⟨y8, e6, z9⟩
    · refine g_callS (As := [va_rf v3]) (rest := []) hF hM (c_X4_openStore e6) k_X4_openStore u732 u733 rfl hl.1 rfl (Nat.le_of_ble_eq_true rfl) dX4_swap_9 ⟨(Nat.le_of_ble_eq_true rfl), (Nat.le_of_ble_eq_true rfl)⟩ ⟨(Nat.le_of_ble_eq_true rfl), (Nat.le_of_ble_eq_true rfl)⟩ (fun H locs hM => ?_)
      refine g_astore (i := 5) (lv' := [(4, va_rf v3), (0, va_rf (some a0)), (1, .int x1), (2, .int x2), (3, .int x3)]) hx hb dX4_swap_12 hl (by decide) (fun v => by simp [rf_cat, ic_cat, lc_cat]) (fun ls hl => ?_)
      refine g_aload hx hb dX4_swap_14 (lv_at hl 1 rfl) ?_
      refine lv_iload_n hx hb dX4_swap_16 rfl (lv_at hl 4 rfl) ?_
      have g := gthE h
      clear h
      rcases g with ⟨w11, e10, h⟩ | ⟨y12, e10, z13⟩
      · refine g_callS (As := [va_rf v3, .int x2]) (rest := []) hF hM (c_X4_needPlace e10) k_X4_needPlace u696 u697 rfl hl.1 rfl (Nat.le_of_ble_eq_true rfl) dX4_swap_17 ⟨(Nat.le_of_ble_eq_true rfl), (Nat.le_of_ble_eq_true rfl)⟩ ⟨(Nat.le_of_ble_eq_true rfl), (Nat.le_of_ble_eq_true rfl)⟩ (fun H locs hM => ?_)
        refine g_aload hx hb dX4_swap_20 (lv_at hl 1 rfl) ?_
        refine lv_iload_n hx hb dX4_swap_22 rfl (lv_at hl 5 rfl) ?_
        have g := gthE h
        clear h
        rcases g with ⟨w15, e14, h⟩ | ⟨y16, e14, z17⟩
        · refine g_callS (As := [va_rf v3, .int x3]) (rest := []) hF hM (c_X4_needPlace e14) k_X4_needPlace u696 u697 rfl hl.1 rfl (Nat.le_of_ble_eq_true rfl) dX4_swap_23 ⟨(Nat.le_of_ble_eq_true rfl), (Nat.le_of_ble_eq_true rfl)⟩ ⟨(Nat.le_of_ble_eq_true rfl), (Nat.le_of_ble_eq_true rfl)⟩ (fun H locs hM => ?_)
          refine g_aload hx hb dX4_swap_26 (lv_at hl 0 rfl) ?_
          refine g_aload hx hb dX4_swap_28 (lv_at hl 1 rfl) ?_
          have g := gbind h
          clear h
          obtain ⟨a18, e19, h⟩ := g
          have t20 := (gtk_of e19).2
          rw [(gtk_of e19).1]
          have g := gbind h
          clear h
          obtain ⟨v22, e21, h⟩ := g
          refine g_callV (As := []) (rest := [va_rf v7]) hF hM (c_X1_first e21) k_X1_first u553 u214 u215 rfl rfl t20 rfl hl.1 rfl (by simp [rf_cat, ic_cat, lc_cat]) dX4_swap_30 ⟨(Nat.le_of_ble_eq_true rfl), (Nat.le_of_ble_eq_true rfl)⟩ ⟨(Nat.le_of_ble_eq_true rfl), (Nat.le_of_ble_eq_true rfl)⟩ (fun H locs hM => ?_)
          refine lv_iload_n hx hb dX4_swap_33 rfl (lv_at hl 4 rfl) ?_
          refine lv_iadd hx hb dX4_swap_34 ?_
          refine g_aload hx hb dX4_swap_35 (lv_at hl 1 rfl) ?_
          have g := gbind h
          clear h
          obtain ⟨a23, e24, h⟩ := g
          have t25 := (gtk_of e24).2
          rw [(gtk_of e24).1]
          have g := gbind h
          clear h
          obtain ⟨v27, e26, h⟩ := g
          refine g_callV (As := []) (rest := [.int (v22 + x2), va_rf v7]) hF hM (c_X1_first e26) k_X1_first u553 u214 u215 rfl rfl t25 rfl hl.1 rfl (by simp [rf_cat, ic_cat, lc_cat]) dX4_swap_37 ⟨(Nat.le_of_ble_eq_true rfl), (Nat.le_of_ble_eq_true rfl)⟩ ⟨(Nat.le_of_ble_eq_true rfl), (Nat.le_of_ble_eq_true rfl)⟩ (fun H locs hM => ?_)
          refine lv_iload_n hx hb dX4_swap_40 rfl (lv_at hl 5 rfl) ?_
          refine lv_iadd hx hb dX4_swap_41 ?_
          have g := gbind h
          clear h
          obtain ⟨a28, e29, h⟩ := g
          have t30 := (gtk_of e29).2
          rw [(gtk_of e29).1]
          have g := gbind h
          clear h
          obtain ⟨S32, e31, h⟩ := g
          refine g_callV (As := [.int (v22 + x2), .int (v27 + x3)]) (rest := []) hF hM (c_X3_exchange e31) k_X3_exchange u915 u306 u307 rfl rfl t30 rfl hl.1 rfl (Nat.le_of_ble_eq_true rfl) dX4_swap_42 ⟨(Nat.le_of_ble_eq_true rfl), (Nat.le_of_ble_eq_true rfl)⟩ ⟨(Nat.le_of_ble_eq_true rfl), (Nat.le_of_ble_eq_true rfl)⟩ (fun H locs hM => ?_)
          refine g_aload hx hb dX4_swap_45 (lv_at hl 1 rfl) ?_
          have g := gbind h
          clear h
          obtain ⟨a33, e34, h⟩ := g
          have t35 := (gtk_of e34).2
          rw [(gtk_of e34).1]
          have g := gbind h
          clear h
          obtain ⟨v37, e36, h⟩ := g
          refine g_callV (As := []) (rest := []) hF hM (c_X1_count e36) k_X1_count u195 u196 u197 rfl rfl t35 rfl hl.1 rfl (Nat.le_of_ble_eq_true rfl) dX4_swap_47 ⟨(Nat.le_of_ble_eq_true rfl), (Nat.le_of_ble_eq_true rfl)⟩ ⟨(Nat.le_of_ble_eq_true rfl), (Nat.le_of_ble_eq_true rfl)⟩ (fun H locs hM => ?_)
          obtain ⟨q1, q2⟩ := Prod.mk.inj (Sum.inl.inj (Option.some.inj h))
          rw [← q1, ← q2]
          exact g_iret hF hM rfl rfl dX4_swap_50 (Nat.le_of_ble_eq_true rfl) (Nat.le_of_ble_eq_true rfl)
        · exact nomatch z17
      · exact nomatch z13
    · exact nomatch z9
  · exact nomatch z5
abbrev rmx_X4_swap : Room := { frames := 8, cells := 1, slots := 6, locals := 132 }
set_option maxHeartbeats 4000000 in
set_option maxRecDepth 100000 in
theorem cx_X4_swap {l : Launch} {D : va_G} {Y : Nat → ClassId} {S : GS} {hs : Nat} {a0 : Nat} {x1 : Int32} {x2 : Int32} {x3 : Int32} {x : Nat} (hfl : l.stackTraces = false) (h : f_X4_swap S a0 x1 x2 x3 = some (.inr x)) : gMx l yX4_swap (gWs yX4_swap cX4_swap 6 (some .int)) rmx_X4_swap [va_rf (some a0), .int x1, .int x2, .int x3] D Y S hs (.inr x) := by
  refine g_ofWx (by decide +kernel) (Or.inl ⟨(Nat.le_of_ble_eq_true rfl), (List.forall_mem_cons.mpr ⟨rf_cat _, (List.forall_mem_cons.mpr ⟨rfl, (List.forall_mem_cons.mpr ⟨rfl, (List.forall_mem_cons.mpr ⟨rfl, (fun _ h => absurd h List.not_mem_nil)⟩)⟩)⟩)⟩)⟩) ?_
  intro p e s m args below meth c ls hsz hout hF hM hl
  have hl : lv_has ls 6 [(0, va_rf (some a0)), (1, .int x1), (2, .int x2), (3, .int x3)] := by rw [g_args [va_rf (some a0), .int x1, .int x2, .int x3] 0 (List.forall_mem_cons.mpr ⟨rf_cat _, (List.forall_mem_cons.mpr ⟨rfl, (List.forall_mem_cons.mpr ⟨rfl, (List.forall_mem_cons.mpr ⟨rfl, (fun _ h => absurd h List.not_mem_nil)⟩)⟩)⟩)⟩)] at hl; exact hl
  have hF : gF p s m args meth c RX4 cX4_swap 6 (some .int) D Y (gA S hs) := hF
  have hx := hF.1
  have hb := hF.2.1
  unfold f_X4_swap at h
  refine g_aload_n hx hb dX4_swap_0 rfl (lv_at hl 0 rfl) ?_
  refine lv_iload_n hx hb dX4_swap_1 rfl (lv_at hl 1 rfl) ?_
  have g := gckE h
  clear h
  obtain ⟨t1, h⟩ := g
  have t1 := eq_of_beq t1
  have g := gthE h
  clear h
  rcases g with ⟨v3, e2, h⟩ | ⟨y4, e2, z5⟩
  · refine g_callV (As := [.int x1]) (rest := []) hF hM (c_X4_needList e2) k_X4_needList u692 u694 u17 rfl rfl t1 rfl hl.1 rfl (Nat.le_of_ble_eq_true rfl) dX4_swap_2 ⟨(Nat.le_of_ble_eq_true rfl), (Nat.le_of_ble_eq_true rfl)⟩ ⟨(Nat.le_of_ble_eq_true rfl), (Nat.le_of_ble_eq_true rfl)⟩ (fun H locs hM => ?_)
    refine g_astore (i := 4) (lv' := [(0, va_rf (some a0)), (1, .int x1), (2, .int x2), (3, .int x3)]) hx hb dX4_swap_5 hl (by decide) (fun v => rfl) (fun ls hl => ?_)
    refine g_aload hx hb dX4_swap_7 (lv_at hl 0 rfl) ?_
    have g := gthE h
    clear h
    rcases g with ⟨v7, e6, h⟩ | ⟨y8, e6, z9⟩
    · refine g_callS (As := [va_rf v3]) (rest := []) hF hM (c_X4_openStore e6) k_X4_openStore u732 u733 rfl hl.1 rfl (Nat.le_of_ble_eq_true rfl) dX4_swap_9 ⟨(Nat.le_of_ble_eq_true rfl), (Nat.le_of_ble_eq_true rfl)⟩ ⟨(Nat.le_of_ble_eq_true rfl), (Nat.le_of_ble_eq_true rfl)⟩ (fun H locs hM => ?_)
      refine g_astore (i := 5) (lv' := [(4, va_rf v3), (0, va_rf (some a0)), (1, .int x1), (2, .int x2), (3, .int x3)]) hx hb dX4_swap_12 hl (by decide) (fun v => by simp [rf_cat, ic_cat, lc_cat]) (fun ls hl => ?_)
      refine g_aload hx hb dX4_swap_14 (lv_at hl 1 rfl) ?_
      refine lv_iload_n hx hb dX4_swap_16 rfl (lv_at hl 4 rfl) ?_
      have g := gthE h
      clear h
      rcases g with ⟨w11, e10, h⟩ | ⟨y12, e10, z13⟩
      · refine g_callS (As := [va_rf v3, .int x2]) (rest := []) hF hM (c_X4_needPlace e10) k_X4_needPlace u696 u697 rfl hl.1 rfl (Nat.le_of_ble_eq_true rfl) dX4_swap_17 ⟨(Nat.le_of_ble_eq_true rfl), (Nat.le_of_ble_eq_true rfl)⟩ ⟨(Nat.le_of_ble_eq_true rfl), (Nat.le_of_ble_eq_true rfl)⟩ (fun H locs hM => ?_)
        refine g_aload hx hb dX4_swap_20 (lv_at hl 1 rfl) ?_
        refine lv_iload_n hx hb dX4_swap_22 rfl (lv_at hl 5 rfl) ?_
        have g := gthE h
        clear h
        rcases g with ⟨w15, e14, h⟩ | ⟨y16, e14, z17⟩
        · refine g_callS (As := [va_rf v3, .int x3]) (rest := []) hF hM (c_X4_needPlace e14) k_X4_needPlace u696 u697 rfl hl.1 rfl (Nat.le_of_ble_eq_true rfl) dX4_swap_23 ⟨(Nat.le_of_ble_eq_true rfl), (Nat.le_of_ble_eq_true rfl)⟩ ⟨(Nat.le_of_ble_eq_true rfl), (Nat.le_of_ble_eq_true rfl)⟩ (fun H locs hM => ?_)
          refine g_aload hx hb dX4_swap_26 (lv_at hl 0 rfl) ?_
          refine g_aload hx hb dX4_swap_28 (lv_at hl 1 rfl) ?_
          have g := gbind h
          clear h
          obtain ⟨a18, e19, h⟩ := g
          have t20 := (gtk_of e19).2
          rw [(gtk_of e19).1]
          have g := gbind h
          clear h
          obtain ⟨v22, e21, h⟩ := g
          refine g_callV (As := []) (rest := [va_rf v7]) hF hM (c_X1_first e21) k_X1_first u553 u214 u215 rfl rfl t20 rfl hl.1 rfl (by simp [rf_cat, ic_cat, lc_cat]) dX4_swap_30 ⟨(Nat.le_of_ble_eq_true rfl), (Nat.le_of_ble_eq_true rfl)⟩ ⟨(Nat.le_of_ble_eq_true rfl), (Nat.le_of_ble_eq_true rfl)⟩ (fun H locs hM => ?_)
          refine lv_iload_n hx hb dX4_swap_33 rfl (lv_at hl 4 rfl) ?_
          refine lv_iadd hx hb dX4_swap_34 ?_
          refine g_aload hx hb dX4_swap_35 (lv_at hl 1 rfl) ?_
          have g := gbind h
          clear h
          obtain ⟨a23, e24, h⟩ := g
          have t25 := (gtk_of e24).2
          rw [(gtk_of e24).1]
          have g := gbind h
          clear h
          obtain ⟨v27, e26, h⟩ := g
          refine g_callV (As := []) (rest := [.int (v22 + x2), va_rf v7]) hF hM (c_X1_first e26) k_X1_first u553 u214 u215 rfl rfl t25 rfl hl.1 rfl (by simp [rf_cat, ic_cat, lc_cat]) dX4_swap_37 ⟨(Nat.le_of_ble_eq_true rfl), (Nat.le_of_ble_eq_true rfl)⟩ ⟨(Nat.le_of_ble_eq_true rfl), (Nat.le_of_ble_eq_true rfl)⟩ (fun H locs hM => ?_)
          refine lv_iload_n hx hb dX4_swap_40 rfl (lv_at hl 5 rfl) ?_
          refine lv_iadd hx hb dX4_swap_41 ?_
          have g := gbind h
          clear h
          obtain ⟨a28, e29, h⟩ := g
          have t30 := (gtk_of e29).2
          rw [(gtk_of e29).1]
          have g := gbind h
          clear h
          obtain ⟨S32, e31, h⟩ := g
          refine g_callV (As := [.int (v22 + x2), .int (v27 + x3)]) (rest := []) hF hM (c_X3_exchange e31) k_X3_exchange u915 u306 u307 rfl rfl t30 rfl hl.1 rfl (Nat.le_of_ble_eq_true rfl) dX4_swap_42 ⟨(Nat.le_of_ble_eq_true rfl), (Nat.le_of_ble_eq_true rfl)⟩ ⟨(Nat.le_of_ble_eq_true rfl), (Nat.le_of_ble_eq_true rfl)⟩ (fun H locs hM => ?_)
          refine g_aload hx hb dX4_swap_45 (lv_at hl 1 rfl) ?_
          have g := gbind h
          clear h
          obtain ⟨a33, e34, h⟩ := g
          have t35 := (gtk_of e34).2
          rw [(gtk_of e34).1]
          have g := gbind h
          clear h
          obtain ⟨v37, e36, h⟩ := g
          refine g_callV (As := []) (rest := []) hF hM (c_X1_count e36) k_X1_count u195 u196 u197 rfl rfl t35 rfl hl.1 rfl (Nat.le_of_ble_eq_true rfl) dX4_swap_47 ⟨(Nat.le_of_ble_eq_true rfl), (Nat.le_of_ble_eq_true rfl)⟩ ⟨(Nat.le_of_ble_eq_true rfl), (Nat.le_of_ble_eq_true rfl)⟩ (fun H locs hM => ?_)
          exact nomatch (Option.some.inj h)
        · exact g_callSt (As := [va_rf v3, .int x3]) (rest := []) hF hM hout (cx_X4_needPlace hfl e14) k_X4_needPlace u696 u697 rfl hl.1 rfl (Nat.le_of_ble_eq_true rfl) dX4_swap_23 ⟨(Nat.le_of_ble_eq_true rfl), (Nat.le_of_ble_eq_true rfl)⟩ ⟨(Nat.le_of_ble_eq_true rfl), (Nat.le_of_ble_eq_true rfl)⟩ (Nat.le_of_ble_eq_true rfl) (Nat.le_of_ble_eq_true rfl) (congrArg Sum.inr (Sum.inr.inj z17))
      · exact g_callSt (As := [va_rf v3, .int x2]) (rest := []) hF hM hout (cx_X4_needPlace hfl e10) k_X4_needPlace u696 u697 rfl hl.1 rfl (Nat.le_of_ble_eq_true rfl) dX4_swap_17 ⟨(Nat.le_of_ble_eq_true rfl), (Nat.le_of_ble_eq_true rfl)⟩ ⟨(Nat.le_of_ble_eq_true rfl), (Nat.le_of_ble_eq_true rfl)⟩ (Nat.le_of_ble_eq_true rfl) (Nat.le_of_ble_eq_true rfl) (congrArg Sum.inr (Sum.inr.inj z13))
    · exact g_callSt (As := [va_rf v3]) (rest := []) hF hM hout (cx_X4_openStore hfl e6) k_X4_openStore u732 u733 rfl hl.1 rfl (Nat.le_of_ble_eq_true rfl) dX4_swap_9 ⟨(Nat.le_of_ble_eq_true rfl), (Nat.le_of_ble_eq_true rfl)⟩ ⟨(Nat.le_of_ble_eq_true rfl), (Nat.le_of_ble_eq_true rfl)⟩ (Nat.le_of_ble_eq_true rfl) (Nat.le_of_ble_eq_true rfl) (congrArg Sum.inr (Sum.inr.inj z9))
  · exact g_callVt (As := [.int x1]) (rest := []) hF hM hout (cx_X4_needList hfl e2) k_X4_needList u692 u694 u17 rfl rfl t1 rfl hl.1 rfl (Nat.le_of_ble_eq_true rfl) dX4_swap_2 ⟨(Nat.le_of_ble_eq_true rfl), (Nat.le_of_ble_eq_true rfl)⟩ ⟨(Nat.le_of_ble_eq_true rfl), (Nat.le_of_ble_eq_true rfl)⟩ (Nat.le_of_ble_eq_true rfl) (Nat.le_of_ble_eq_true rfl) (congrArg Sum.inr (Sum.inr.inj z5))
abbrev rm_X4_rotate : Room := { frames := 4, cells := 0, slots := 0, locals := 93 }
theorem k_X4_rotate : gKc yX4_rotate cX4_rotate 5 (some .int) 2 := ⟨u922, u63, by decide +kernel, by decide +kernel, by decide +kernel⟩
set_option maxHeartbeats 4000000 in
set_option maxRecDepth 100000 in
theorem c_X4_rotate {l : Launch} {D : va_G} {Y : Nat → ClassId} {S : GS} {hs : Nat} {a0 : Nat} {x1 : Int32} {x2 : Int32} {r : Int32} {S' : GS} (h : f_X4_rotate S a0 x1 x2 = some (.inl (r, S'))) : gMet l yX4_rotate (gWs yX4_rotate cX4_rotate 5 (some .int)) rm_X4_rotate [va_rf (some a0), .int x1, .int x2] D Y S hs (some (.int r)) S' hs := by
  refine g_ofW (by decide +kernel) (Or.inl ⟨(Nat.le_of_ble_eq_true rfl), (List.forall_mem_cons.mpr ⟨rf_cat _, (List.forall_mem_cons.mpr ⟨rfl, (List.forall_mem_cons.mpr ⟨rfl, (fun _ h => absurd h List.not_mem_nil)⟩)⟩)⟩)⟩) ?_
  intro p e s m args below meth c ls hsz hname hF hM hl
  have hl : lv_has ls 5 [(0, va_rf (some a0)), (1, .int x1), (2, .int x2)] := by rw [g_args [va_rf (some a0), .int x1, .int x2] 0 (List.forall_mem_cons.mpr ⟨rf_cat _, (List.forall_mem_cons.mpr ⟨rfl, (List.forall_mem_cons.mpr ⟨rfl, (fun _ h => absurd h List.not_mem_nil)⟩)⟩)⟩)] at hl; exact hl
  have hF : gF p s m args meth c RX4 cX4_rotate 5 (some .int) D Y (gA S hs) := hF
  have hx := hF.1
  have hb := hF.2.1
  unfold f_X4_rotate at h
  refine g_aload_n hx hb dX4_rotate_0 rfl (lv_at hl 0 rfl) ?_
  refine lv_iload_n hx hb dX4_rotate_1 rfl (lv_at hl 1 rfl) ?_
  have g := gckE h
  clear h
  obtain ⟨t1, h⟩ := g
  have t1 := eq_of_beq t1
  have g := gthE h
  clear h
  rcases g with ⟨v3, e2, h⟩ | ⟨y4, e2, z5⟩
  · refine g_callV (As := [.int x1]) (rest := []) hF hM (c_X4_needList e2) k_X4_needList u692 u694 u17 rfl rfl t1 rfl hl.1 rfl (Nat.le_of_ble_eq_true rfl) dX4_rotate_2 ⟨(Nat.le_of_ble_eq_true rfl), (Nat.le_of_ble_eq_true rfl)⟩ ⟨(Nat.le_of_ble_eq_true rfl), (Nat.le_of_ble_eq_true rfl)⟩ (fun H locs hM => ?_)
    refine g_astore_n (i := 3) (lv' := [(0, va_rf (some a0)), (1, .int x1), (2, .int x2)]) hx hb dX4_rotate_5 rfl hl (by decide) (fun v => rfl) (fun ls hl => ?_)
    refine g_aload_n hx hb dX4_rotate_6 rfl (lv_at hl 0 rfl) ?_
    have g := gthE h
    clear h
    rcases g with ⟨v7, e6, h⟩ | ⟨y8, e6, z9⟩
    · refine g_callS (As := [va_rf v3]) (rest := []) hF hM (c_X4_openStore e6) k_X4_openStore u732 u733 rfl hl.1 rfl (Nat.le_of_ble_eq_true rfl) dX4_rotate_7 ⟨(Nat.le_of_ble_eq_true rfl), (Nat.le_of_ble_eq_true rfl)⟩ ⟨(Nat.le_of_ble_eq_true rfl), (Nat.le_of_ble_eq_true rfl)⟩ (fun H locs hM => ?_)
      refine g_astore (i := 4) (lv' := [(3, va_rf v3), (0, va_rf (some a0)), (1, .int x1), (2, .int x2)]) hx hb dX4_rotate_10 hl (by decide) (fun v => by simp [rf_cat, ic_cat, lc_cat]) (fun ls hl => ?_)
      refine lv_iload_n hx hb dX4_rotate_12 rfl (lv_at hl 4 rfl) ?_
      refine lv_bipush (v := (-100)) hx hb dX4_rotate_13 (by decide) ?_
      refine lv_icmp_lt (tgt := 24) hx hb dX4_rotate_15 (by decide) (fun c10 => ?_) (fun c10 => ?_)
      · replace h := (if_pos c10).symm.trans h
        exact nomatch (Option.some.inj h)
      · replace h := (if_neg c10).symm.trans h
        refine lv_iload_n hx hb dX4_rotate_18 rfl (lv_at hl 4 rfl) ?_
        refine lv_bipush (v := 100) hx hb dX4_rotate_19 (by decide) ?_
        refine lv_icmp_le (tgt := 32) hx hb dX4_rotate_21 (by decide) (fun c11 => ?_) (fun c11 => ?_)
        · replace h := (if_pos c11).symm.trans h
          refine g_aload hx hb dX4_rotate_32 (lv_at hl 0 rfl) ?_
          refine g_aload_n hx hb dX4_rotate_34 rfl (lv_at hl 1 rfl) ?_
          have g := gbind h
          clear h
          obtain ⟨a12, e13, h⟩ := g
          have t14 := (gtk_of e13).2
          rw [(gtk_of e13).1]
          have g := gbind h
          clear h
          obtain ⟨v16, e15, h⟩ := g
          refine g_callV (As := []) (rest := [va_rf v7]) hF hM (c_X1_first e15) k_X1_first u553 u214 u215 rfl rfl t14 rfl hl.1 rfl (by simp [rf_cat, ic_cat, lc_cat]) dX4_rotate_35 ⟨(Nat.le_of_ble_eq_true rfl), (Nat.le_of_ble_eq_true rfl)⟩ ⟨(Nat.le_of_ble_eq_true rfl), (Nat.le_of_ble_eq_true rfl)⟩ (fun H locs hM => ?_)
          refine g_aload_n hx hb dX4_rotate_38 rfl (lv_at hl 1 rfl) ?_
          have g := gbind h
          clear h
          obtain ⟨a17, e18, h⟩ := g
          have t19 := (gtk_of e18).2
          rw [(gtk_of e18).1]
          have g := gbind h
          clear h
          obtain ⟨v21, e20, h⟩ := g
          refine g_callV (As := []) (rest := [.int v16, va_rf v7]) hF hM (c_X1_count e20) k_X1_count u195 u196 u197 rfl rfl t19 rfl hl.1 rfl (by simp [rf_cat, ic_cat, lc_cat]) dX4_rotate_39 ⟨(Nat.le_of_ble_eq_true rfl), (Nat.le_of_ble_eq_true rfl)⟩ ⟨(Nat.le_of_ble_eq_true rfl), (Nat.le_of_ble_eq_true rfl)⟩ (fun H locs hM => ?_)
          refine lv_iload_n hx hb dX4_rotate_42 rfl (lv_at hl 4 rfl) ?_
          have g := gbind h
          clear h
          obtain ⟨a22, e23, h⟩ := g
          have t24 := (gtk_of e23).2
          rw [(gtk_of e23).1]
          have g := gbind h
          clear h
          obtain ⟨S26, e25, h⟩ := g
          refine g_callV (As := [.int v16, .int v21, .int x2]) (rest := []) hF hM (c_X3_moveRound e25) k_X3_moveRound u923 u338 u339 rfl rfl t24 rfl hl.1 rfl (Nat.le_of_ble_eq_true rfl) dX4_rotate_43 ⟨(Nat.le_of_ble_eq_true rfl), (Nat.le_of_ble_eq_true rfl)⟩ ⟨(Nat.le_of_ble_eq_true rfl), (Nat.le_of_ble_eq_true rfl)⟩ (fun H locs hM => ?_)
          refine g_aload_n hx hb dX4_rotate_46 rfl (lv_at hl 1 rfl) ?_
          have g := gbind h
          clear h
          obtain ⟨a27, e28, h⟩ := g
          have t29 := (gtk_of e28).2
          rw [(gtk_of e28).1]
          have g := gbind h
          clear h
          obtain ⟨v31, e30, h⟩ := g
          refine g_callV (As := []) (rest := []) hF hM (c_X1_count e30) k_X1_count u195 u196 u197 rfl rfl t29 rfl hl.1 rfl (Nat.le_of_ble_eq_true rfl) dX4_rotate_47 ⟨(Nat.le_of_ble_eq_true rfl), (Nat.le_of_ble_eq_true rfl)⟩ ⟨(Nat.le_of_ble_eq_true rfl), (Nat.le_of_ble_eq_true rfl)⟩ (fun H locs hM => ?_)
          obtain ⟨q1, q2⟩ := Prod.mk.inj (Sum.inl.inj (Option.some.inj h))
          rw [← q1, ← q2]
          exact g_iret hF hM rfl rfl dX4_rotate_50 (Nat.le_of_ble_eq_true rfl) (Nat.le_of_ble_eq_true rfl)
        · replace h := (if_neg c11).symm.trans h
          exact nomatch (Option.some.inj h)
    · exact nomatch z9
  · exact nomatch z5
abbrev rmx_X4_rotate : Room := { frames := 8, cells := 1, slots := 6, locals := 132 }
set_option maxHeartbeats 4000000 in
set_option maxRecDepth 100000 in
theorem cx_X4_rotate {l : Launch} {D : va_G} {Y : Nat → ClassId} {S : GS} {hs : Nat} {a0 : Nat} {x1 : Int32} {x2 : Int32} {x : Nat} (hfl : l.stackTraces = false) (h : f_X4_rotate S a0 x1 x2 = some (.inr x)) : gMx l yX4_rotate (gWs yX4_rotate cX4_rotate 5 (some .int)) rmx_X4_rotate [va_rf (some a0), .int x1, .int x2] D Y S hs (.inr x) := by
  refine g_ofWx (by decide +kernel) (Or.inl ⟨(Nat.le_of_ble_eq_true rfl), (List.forall_mem_cons.mpr ⟨rf_cat _, (List.forall_mem_cons.mpr ⟨rfl, (List.forall_mem_cons.mpr ⟨rfl, (fun _ h => absurd h List.not_mem_nil)⟩)⟩)⟩)⟩) ?_
  intro p e s m args below meth c ls hsz hout hF hM hl
  have hl : lv_has ls 5 [(0, va_rf (some a0)), (1, .int x1), (2, .int x2)] := by rw [g_args [va_rf (some a0), .int x1, .int x2] 0 (List.forall_mem_cons.mpr ⟨rf_cat _, (List.forall_mem_cons.mpr ⟨rfl, (List.forall_mem_cons.mpr ⟨rfl, (fun _ h => absurd h List.not_mem_nil)⟩)⟩)⟩)] at hl; exact hl
  have hF : gF p s m args meth c RX4 cX4_rotate 5 (some .int) D Y (gA S hs) := hF
  have hx := hF.1
  have hb := hF.2.1
  unfold f_X4_rotate at h
  refine g_aload_n hx hb dX4_rotate_0 rfl (lv_at hl 0 rfl) ?_
  refine lv_iload_n hx hb dX4_rotate_1 rfl (lv_at hl 1 rfl) ?_
  have g := gckE h
  clear h
  obtain ⟨t1, h⟩ := g
  have t1 := eq_of_beq t1
  have g := gthE h
  clear h
  rcases g with ⟨v3, e2, h⟩ | ⟨y4, e2, z5⟩
  · refine g_callV (As := [.int x1]) (rest := []) hF hM (c_X4_needList e2) k_X4_needList u692 u694 u17 rfl rfl t1 rfl hl.1 rfl (Nat.le_of_ble_eq_true rfl) dX4_rotate_2 ⟨(Nat.le_of_ble_eq_true rfl), (Nat.le_of_ble_eq_true rfl)⟩ ⟨(Nat.le_of_ble_eq_true rfl), (Nat.le_of_ble_eq_true rfl)⟩ (fun H locs hM => ?_)
    refine g_astore_n (i := 3) (lv' := [(0, va_rf (some a0)), (1, .int x1), (2, .int x2)]) hx hb dX4_rotate_5 rfl hl (by decide) (fun v => rfl) (fun ls hl => ?_)
    refine g_aload_n hx hb dX4_rotate_6 rfl (lv_at hl 0 rfl) ?_
    have g := gthE h
    clear h
    rcases g with ⟨v7, e6, h⟩ | ⟨y8, e6, z9⟩
    · refine g_callS (As := [va_rf v3]) (rest := []) hF hM (c_X4_openStore e6) k_X4_openStore u732 u733 rfl hl.1 rfl (Nat.le_of_ble_eq_true rfl) dX4_rotate_7 ⟨(Nat.le_of_ble_eq_true rfl), (Nat.le_of_ble_eq_true rfl)⟩ ⟨(Nat.le_of_ble_eq_true rfl), (Nat.le_of_ble_eq_true rfl)⟩ (fun H locs hM => ?_)
      refine g_astore (i := 4) (lv' := [(3, va_rf v3), (0, va_rf (some a0)), (1, .int x1), (2, .int x2)]) hx hb dX4_rotate_10 hl (by decide) (fun v => by simp [rf_cat, ic_cat, lc_cat]) (fun ls hl => ?_)
      refine lv_iload_n hx hb dX4_rotate_12 rfl (lv_at hl 4 rfl) ?_
      refine lv_bipush (v := (-100)) hx hb dX4_rotate_13 (by decide) ?_
      refine lv_icmp_lt (tgt := 24) hx hb dX4_rotate_15 (by decide) (fun c10 => ?_) (fun c10 => ?_)
      · replace h := (if_pos c10).symm.trans h
        exact g_throw hF hM hfl hout ew_X4_57_59 (congrArg Sum.inr (Sum.inr.inj (Option.some.inj h)).symm) hl.1 dX4_rotate_24 dX4_rotate_27 dX4_rotate_28 dX4_rotate_31 (Nat.le_of_ble_eq_true rfl) (Nat.le_of_ble_eq_true rfl) (Nat.le_of_ble_eq_true rfl) (Nat.le_of_ble_eq_true rfl) (Nat.le_of_ble_eq_true rfl) (Nat.le_of_ble_eq_true rfl)
      · replace h := (if_neg c10).symm.trans h
        refine lv_iload_n hx hb dX4_rotate_18 rfl (lv_at hl 4 rfl) ?_
        refine lv_bipush (v := 100) hx hb dX4_rotate_19 (by decide) ?_
        refine lv_icmp_le (tgt := 32) hx hb dX4_rotate_21 (by decide) (fun c11 => ?_) (fun c11 => ?_)
        · replace h := (if_pos c11).symm.trans h
          refine g_aload hx hb dX4_rotate_32 (lv_at hl 0 rfl) ?_
          refine g_aload_n hx hb dX4_rotate_34 rfl (lv_at hl 1 rfl) ?_
          have g := gbind h
          clear h
          obtain ⟨a12, e13, h⟩ := g
          have t14 := (gtk_of e13).2
          rw [(gtk_of e13).1]
          have g := gbind h
          clear h
          obtain ⟨v16, e15, h⟩ := g
          refine g_callV (As := []) (rest := [va_rf v7]) hF hM (c_X1_first e15) k_X1_first u553 u214 u215 rfl rfl t14 rfl hl.1 rfl (by simp [rf_cat, ic_cat, lc_cat]) dX4_rotate_35 ⟨(Nat.le_of_ble_eq_true rfl), (Nat.le_of_ble_eq_true rfl)⟩ ⟨(Nat.le_of_ble_eq_true rfl), (Nat.le_of_ble_eq_true rfl)⟩ (fun H locs hM => ?_)
          refine g_aload_n hx hb dX4_rotate_38 rfl (lv_at hl 1 rfl) ?_
          have g := gbind h
          clear h
          obtain ⟨a17, e18, h⟩ := g
          have t19 := (gtk_of e18).2
          rw [(gtk_of e18).1]
          have g := gbind h
          clear h
          obtain ⟨v21, e20, h⟩ := g
          refine g_callV (As := []) (rest := [.int v16, va_rf v7]) hF hM (c_X1_count e20) k_X1_count u195 u196 u197 rfl rfl t19 rfl hl.1 rfl (by simp [rf_cat, ic_cat, lc_cat]) dX4_rotate_39 ⟨(Nat.le_of_ble_eq_true rfl), (Nat.le_of_ble_eq_true rfl)⟩ ⟨(Nat.le_of_ble_eq_true rfl), (Nat.le_of_ble_eq_true rfl)⟩ (fun H locs hM => ?_)
          refine lv_iload_n hx hb dX4_rotate_42 rfl (lv_at hl 4 rfl) ?_
          have g := gbind h
          clear h
          obtain ⟨a22, e23, h⟩ := g
          have t24 := (gtk_of e23).2
          rw [(gtk_of e23).1]
          have g := gbind h
          clear h
          obtain ⟨S26, e25, h⟩ := g
          refine g_callV (As := [.int v16, .int v21, .int x2]) (rest := []) hF hM (c_X3_moveRound e25) k_X3_moveRound u923 u338 u339 rfl rfl t24 rfl hl.1 rfl (Nat.le_of_ble_eq_true rfl) dX4_rotate_43 ⟨(Nat.le_of_ble_eq_true rfl), (Nat.le_of_ble_eq_true rfl)⟩ ⟨(Nat.le_of_ble_eq_true rfl), (Nat.le_of_ble_eq_true rfl)⟩ (fun H locs hM => ?_)
          refine g_aload_n hx hb dX4_rotate_46 rfl (lv_at hl 1 rfl) ?_
          have g := gbind h
          clear h
          obtain ⟨a27, e28, h⟩ := g
          have t29 := (gtk_of e28).2
          rw [(gtk_of e28).1]
          have g := gbind h
          clear h
          obtain ⟨v31, e30, h⟩ := g
          refine g_callV (As := []) (rest := []) hF hM (c_X1_count e30) k_X1_count u195 u196 u197 rfl rfl t29 rfl hl.1 rfl (Nat.le_of_ble_eq_true rfl) dX4_rotate_47 ⟨(Nat.le_of_ble_eq_true rfl), (Nat.le_of_ble_eq_true rfl)⟩ ⟨(Nat.le_of_ble_eq_true rfl), (Nat.le_of_ble_eq_true rfl)⟩ (fun H locs hM => ?_)
          exact nomatch (Option.some.inj h)
        · replace h := (if_neg c11).symm.trans h
          exact g_throw hF hM hfl hout ew_X4_57_59 (congrArg Sum.inr (Sum.inr.inj (Option.some.inj h)).symm) hl.1 dX4_rotate_24 dX4_rotate_27 dX4_rotate_28 dX4_rotate_31 (Nat.le_of_ble_eq_true rfl) (Nat.le_of_ble_eq_true rfl) (Nat.le_of_ble_eq_true rfl) (Nat.le_of_ble_eq_true rfl) (Nat.le_of_ble_eq_true rfl) (Nat.le_of_ble_eq_true rfl)
    · exact g_callSt (As := [va_rf v3]) (rest := []) hF hM hout (cx_X4_openStore hfl e6) k_X4_openStore u732 u733 rfl hl.1 rfl (Nat.le_of_ble_eq_true rfl) dX4_rotate_7 ⟨(Nat.le_of_ble_eq_true rfl), (Nat.le_of_ble_eq_true rfl)⟩ ⟨(Nat.le_of_ble_eq_true rfl), (Nat.le_of_ble_eq_true rfl)⟩ (Nat.le_of_ble_eq_true rfl) (Nat.le_of_ble_eq_true rfl) (congrArg Sum.inr (Sum.inr.inj z9))
  · exact g_callVt (As := [.int x1]) (rest := []) hF hM hout (cx_X4_needList hfl e2) k_X4_needList u692 u694 u17 rfl rfl t1 rfl hl.1 rfl (Nat.le_of_ble_eq_true rfl) dX4_rotate_2 ⟨(Nat.le_of_ble_eq_true rfl), (Nat.le_of_ble_eq_true rfl)⟩ ⟨(Nat.le_of_ble_eq_true rfl), (Nat.le_of_ble_eq_true rfl)⟩ (Nat.le_of_ble_eq_true rfl) (Nat.le_of_ble_eq_true rfl) (congrArg Sum.inr (Sum.inr.inj z5))
abbrev rm_X4_fill : Room := { frames := 2, cells := 0, slots := 0, locals := 44 }
theorem k_X4_fill : gKc yX4_fill cX4_fill 7 (some .int) 3 := ⟨u930, u63, by decide +kernel, by decide +kernel, by decide +kernel⟩
set_option maxHeartbeats 4000000 in
set_option maxRecDepth 100000 in
theorem c_X4_fill {l : Launch} {D : va_G} {Y : Nat → ClassId} {S : GS} {hs : Nat} {a0 : Nat} {x1 : Int32} {x2 : Int32} {x3 : Int32} {r : Int32} {S' : GS} (h : f_X4_fill S a0 x1 x2 x3 = some (.inl (r, S'))) : gMet l yX4_fill (gWs yX4_fill cX4_fill 7 (some .int)) rm_X4_fill [va_rf (some a0), .int x1, .int x2, .int x3] D Y S hs (some (.int r)) S' hs := by
  refine g_ofW (by decide +kernel) (Or.inl ⟨(Nat.le_of_ble_eq_true rfl), (List.forall_mem_cons.mpr ⟨rf_cat _, (List.forall_mem_cons.mpr ⟨rfl, (List.forall_mem_cons.mpr ⟨rfl, (List.forall_mem_cons.mpr ⟨rfl, (fun _ h => absurd h List.not_mem_nil)⟩)⟩)⟩)⟩)⟩) ?_
  intro p e s m args below meth c ls hsz hname hF hM hl
  have hl : lv_has ls 7 [(0, va_rf (some a0)), (1, .int x1), (2, .int x2), (3, .int x3)] := by rw [g_args [va_rf (some a0), .int x1, .int x2, .int x3] 0 (List.forall_mem_cons.mpr ⟨rf_cat _, (List.forall_mem_cons.mpr ⟨rfl, (List.forall_mem_cons.mpr ⟨rfl, (List.forall_mem_cons.mpr ⟨rfl, (fun _ h => absurd h List.not_mem_nil)⟩)⟩)⟩)⟩)] at hl; exact hl
  have hF : gF p s m args meth c RX4 cX4_fill 7 (some .int) D Y (gA S hs) := hF
  have hx := hF.1
  have hb := hF.2.1
  have JL22 : ∀ (n : Nat) (T22 : GS) (x2 : Int32) (x3 : Int32) (x4 : Option Nat) (x5 : Option Nat) (x6 : Int32), f_X4_fill_L22 a0 n T22 x2 x3 x4 x5 x6 = some (.inl (r, S')) → ∀ (H : Heap) (locs : List Loc) (ls : Array Slot), gM D Y (gA S hs) s.heap T22 hs H locs → lv_has ls 7 [(2, .int x2), (3, .int x3), (4, va_rf x4), (5, va_rf x5), (6, .int x6)] → W p l e rm_X4_fill s m args below meth c H locs 0 0 (MQ below (gQ (some (.int r)) D Y S' hs (gA S hs)) args s rm_X4_fill.cells rm_X4_fill.slots (gA S hs)) (F0 m 22 ls []) := by
    intro n
    induction n with
    | zero => intro T22 x2 x3 x4 x5 x6 h; unfold f_X4_fill_L22 at h; exact nomatch h
    | succ n ih =>
      intro T22 x2 x3 x4 x5 x6 h H locs ls hM hl
      unfold f_X4_fill_L22 at h
      refine lv_iload hx hb dX4_fill_22 (lv_at hl 4 rfl) ?_
      refine g_aload hx hb dX4_fill_24 (lv_at hl 2 rfl) ?_
      have g := gbind h
      clear h
      obtain ⟨a14, e15, h⟩ := g
      have t16 := (gtk_of e15).2
      rw [(gtk_of e15).1]
      have g := gbind h
      clear h
      obtain ⟨v18, e17, h⟩ := g
      refine g_callV (As := []) (rest := [.int x6]) hF hM (c_X1_count e17) k_X1_count u195 u196 u197 rfl rfl t16 rfl hl.1 rfl (Nat.le_of_ble_eq_true rfl) dX4_fill_26 ⟨(Nat.le_of_ble_eq_true rfl), (Nat.le_of_ble_eq_true rfl)⟩ ⟨(Nat.le_of_ble_eq_true rfl), (Nat.le_of_ble_eq_true rfl)⟩ (fun H locs hM => ?_)
      refine lv_icmp_ge (tgt := 53) hx hb dX4_fill_29 (by decide) (fun c19 => ?_) (fun c19 => ?_)
      · replace h := (if_pos c19).symm.trans h
        refine g_aload hx hb dX4_fill_53 (lv_at hl 2 rfl) ?_
        have g := gbind h
        clear h
        obtain ⟨a20, e21, h⟩ := g
        have t22 := (gtk_of e21).2
        rw [(gtk_of e21).1]
        have g := gbind h
        clear h
        obtain ⟨v24, e23, h⟩ := g
        refine g_callV (As := []) (rest := []) hF hM (c_X1_count e23) k_X1_count u195 u196 u197 rfl rfl t22 rfl hl.1 rfl (Nat.le_of_ble_eq_true rfl) dX4_fill_55 ⟨(Nat.le_of_ble_eq_true rfl), (Nat.le_of_ble_eq_true rfl)⟩ ⟨(Nat.le_of_ble_eq_true rfl), (Nat.le_of_ble_eq_true rfl)⟩ (fun H locs hM => ?_)
        obtain ⟨q1, q2⟩ := Prod.mk.inj (Sum.inl.inj (Option.some.inj h))
        rw [← q1, ← q2]
        exact g_iret hF hM rfl rfl dX4_fill_58 (Nat.le_of_ble_eq_true rfl) (Nat.le_of_ble_eq_true rfl)
      · replace h := (if_neg c19).symm.trans h
        refine g_aload hx hb dX4_fill_32 (lv_at hl 3 rfl) ?_
        refine g_aload hx hb dX4_fill_34 (lv_at hl 2 rfl) ?_
        have g := gbind h
        clear h
        obtain ⟨a25, e26, h⟩ := g
        have t27 := (gtk_of e26).2
        rw [(gtk_of e26).1]
        have g := gbind h
        clear h
        obtain ⟨v29, e28, h⟩ := g
        refine g_callV (As := []) (rest := [va_rf x5]) hF hM (c_X1_first e28) k_X1_first u553 u214 u215 rfl rfl t27 rfl hl.1 rfl (by simp [rf_cat, ic_cat, lc_cat]) dX4_fill_36 ⟨(Nat.le_of_ble_eq_true rfl), (Nat.le_of_ble_eq_true rfl)⟩ ⟨(Nat.le_of_ble_eq_true rfl), (Nat.le_of_ble_eq_true rfl)⟩ (fun H locs hM => ?_)
        refine lv_iload hx hb dX4_fill_39 (lv_at hl 4 rfl) ?_
        refine lv_iadd hx hb dX4_fill_41 ?_
        refine lv_iload_n hx hb dX4_fill_42 rfl (lv_at hl 0 rfl) ?_
        refine lv_iload_n hx hb dX4_fill_43 rfl (lv_at hl 1 rfl) ?_
        have g := gbind h
        clear h
        obtain ⟨a30, e31, h⟩ := g
        have t32 := (gtk_of e31).2
        rw [(gtk_of e31).1]
        have g := gbind h
        clear h
        obtain ⟨S34, e33, h⟩ := g
        refine g_callV (As := [.int (v29 + x6), .int x2, .int x3]) (rest := []) hF hM (c_X3_lay e33) k_X3_lay u788 u292 u293 rfl rfl t32 rfl hl.1 rfl (Nat.le_of_ble_eq_true rfl) dX4_fill_44 ⟨(Nat.le_of_ble_eq_true rfl), (Nat.le_of_ble_eq_true rfl)⟩ ⟨(Nat.le_of_ble_eq_true rfl), (Nat.le_of_ble_eq_true rfl)⟩ (fun H locs hM => ?_)
        refine lv_iinc (v := (x6 + 1)) (lv' := [(6, .int (x6 + 1)), (2, .int x2), (3, .int x3), (4, va_rf x4), (5, va_rf x5)]) hx hb dX4_fill_47 hl (k := 4) rfl rfl (by decide) (by simp [rf_cat, ic_cat, lc_cat]) (fun ls hl => ?_)
        refine lv_goto (tgt := 22) hx hb dX4_fill_50 (by decide) ?_
        refine W.widen (k := 0) (n := 0) (Nat.le_of_ble_eq_true rfl) (Nat.le_of_ble_eq_true rfl) ?_
        exact ih _ _ _ _ _ _ h _ _ _ hM (lv_sub hl [1, 2, 3, 4, 0] rfl)
  unfold f_X4_fill at h
  refine g_aload_n hx hb dX4_fill_0 rfl (lv_at hl 0 rfl) ?_
  refine lv_iload_n hx hb dX4_fill_1 rfl (lv_at hl 1 rfl) ?_
  have g := gckE h
  clear h
  obtain ⟨t1, h⟩ := g
  have t1 := eq_of_beq t1
  have g := gthE h
  clear h
  rcases g with ⟨v3, e2, h⟩ | ⟨y4, e2, z5⟩
  · refine g_callV (As := [.int x1]) (rest := []) hF hM (c_X4_needList e2) k_X4_needList u692 u694 u17 rfl rfl t1 rfl hl.1 rfl (Nat.le_of_ble_eq_true rfl) dX4_fill_2 ⟨(Nat.le_of_ble_eq_true rfl), (Nat.le_of_ble_eq_true rfl)⟩ ⟨(Nat.le_of_ble_eq_true rfl), (Nat.le_of_ble_eq_true rfl)⟩ (fun H locs hM => ?_)
    refine g_astore (i := 4) (lv' := [(0, va_rf (some a0)), (1, .int x1), (2, .int x2), (3, .int x3)]) hx hb dX4_fill_5 hl (by decide) (fun v => rfl) (fun ls hl => ?_)
    refine g_aload hx hb dX4_fill_7 (lv_at hl 0 rfl) ?_
    have g := gthE h
    clear h
    rcases g with ⟨v7, e6, h⟩ | ⟨y8, e6, z9⟩
    · refine g_callS (As := [va_rf v3]) (rest := []) hF hM (c_X4_openStore e6) k_X4_openStore u732 u733 rfl hl.1 rfl (Nat.le_of_ble_eq_true rfl) dX4_fill_9 ⟨(Nat.le_of_ble_eq_true rfl), (Nat.le_of_ble_eq_true rfl)⟩ ⟨(Nat.le_of_ble_eq_true rfl), (Nat.le_of_ble_eq_true rfl)⟩ (fun H locs hM => ?_)
      refine g_astore (i := 5) (lv' := [(4, va_rf v3), (0, va_rf (some a0)), (1, .int x1), (2, .int x2), (3, .int x3)]) hx hb dX4_fill_12 hl (by decide) (fun v => by simp [rf_cat, ic_cat, lc_cat]) (fun ls hl => ?_)
      refine lv_iload_n hx hb dX4_fill_14 rfl (lv_at hl 4 rfl) ?_
      refine lv_iload_n hx hb dX4_fill_15 rfl (lv_at hl 5 rfl) ?_
      have g := gthE h
      clear h
      rcases g with ⟨w11, e10, h⟩ | ⟨y12, e10, z13⟩
      · refine g_callS (As := [.int x2, .int x3]) (rest := []) hF hM (c_X4_needThing e10) k_X4_needThing u590 u591 rfl hl.1 rfl (Nat.le_of_ble_eq_true rfl) dX4_fill_16 ⟨(Nat.le_of_ble_eq_true rfl), (Nat.le_of_ble_eq_true rfl)⟩ ⟨(Nat.le_of_ble_eq_true rfl), (Nat.le_of_ble_eq_true rfl)⟩ (fun H locs hM => ?_)
        refine lv_iconst (v := 0) hx hb dX4_fill_19 (by decide) ?_
        refine lv_istore (i := 6) (lv' := [(6, .int 0), (5, va_rf v7), (4, va_rf v3), (0, va_rf (some a0)), (1, .int x1), (2, .int x2), (3, .int x3)]) hx hb dX4_fill_20 hl (by decide) (by simp [rf_cat, ic_cat, lc_cat]) (fun ls hl => ?_)
        refine W.widen (k := 0) (n := 0) (Nat.le_of_ble_eq_true rfl) (Nat.le_of_ble_eq_true rfl) ?_
        exact JL22 gN _ _ _ _ _ _ h _ _ _ hM (lv_sub hl [5, 6, 2, 1, 0] rfl)
      · exact nomatch z13
    · exact nomatch z9
  · exact nomatch z5
abbrev rmx_X4_fill : Room := { frames := 8, cells := 1, slots := 6, locals := 132 }
set_option maxHeartbeats 4000000 in
set_option maxRecDepth 100000 in
theorem cx_X4_fill {l : Launch} {D : va_G} {Y : Nat → ClassId} {S : GS} {hs : Nat} {a0 : Nat} {x1 : Int32} {x2 : Int32} {x3 : Int32} {x : Nat} (hfl : l.stackTraces = false) (h : f_X4_fill S a0 x1 x2 x3 = some (.inr x)) : gMx l yX4_fill (gWs yX4_fill cX4_fill 7 (some .int)) rmx_X4_fill [va_rf (some a0), .int x1, .int x2, .int x3] D Y S hs (.inr x) := by
  refine g_ofWx (by decide +kernel) (Or.inl ⟨(Nat.le_of_ble_eq_true rfl), (List.forall_mem_cons.mpr ⟨rf_cat _, (List.forall_mem_cons.mpr ⟨rfl, (List.forall_mem_cons.mpr ⟨rfl, (List.forall_mem_cons.mpr ⟨rfl, (fun _ h => absurd h List.not_mem_nil)⟩)⟩)⟩)⟩)⟩) ?_
  intro p e s m args below meth c ls hsz hout hF hM hl
  have hl : lv_has ls 7 [(0, va_rf (some a0)), (1, .int x1), (2, .int x2), (3, .int x3)] := by rw [g_args [va_rf (some a0), .int x1, .int x2, .int x3] 0 (List.forall_mem_cons.mpr ⟨rf_cat _, (List.forall_mem_cons.mpr ⟨rfl, (List.forall_mem_cons.mpr ⟨rfl, (List.forall_mem_cons.mpr ⟨rfl, (fun _ h => absurd h List.not_mem_nil)⟩)⟩)⟩)⟩)] at hl; exact hl
  have hF : gF p s m args meth c RX4 cX4_fill 7 (some .int) D Y (gA S hs) := hF
  have hx := hF.1
  have hb := hF.2.1
  have JL22 : ∀ (n : Nat) (T22 : GS) (x2 : Int32) (x3 : Int32) (x4 : Option Nat) (x5 : Option Nat) (x6 : Int32), f_X4_fill_L22 a0 n T22 x2 x3 x4 x5 x6 = some (.inr x) → ∀ (H : Heap) (locs : List Loc) (ls : Array Slot), gM D Y (gA S hs) s.heap T22 hs H locs → lv_has ls 7 [(2, .int x2), (3, .int x3), (4, va_rf x4), (5, va_rf x5), (6, .int x6)] → W p l e rmx_X4_fill s m args below meth c H locs 0 0 (vx_MQ below (gQz (.inr x) D Y (gA S hs)) (gXz (.inr x) D Y S (gA S hs)) args s rmx_X4_fill.cells rmx_X4_fill.slots (gA S hs)) (F0 m 22 ls []) := by
    intro n
    induction n with
    | zero => intro T22 x2 x3 x4 x5 x6 h; unfold f_X4_fill_L22 at h; exact nomatch h
    | succ n ih =>
      intro T22 x2 x3 x4 x5 x6 h H locs ls hM hl
      unfold f_X4_fill_L22 at h
      refine lv_iload hx hb dX4_fill_22 (lv_at hl 4 rfl) ?_
      refine g_aload hx hb dX4_fill_24 (lv_at hl 2 rfl) ?_
      have g := gbind h
      clear h
      obtain ⟨a14, e15, h⟩ := g
      have t16 := (gtk_of e15).2
      rw [(gtk_of e15).1]
      have g := gbind h
      clear h
      obtain ⟨v18, e17, h⟩ := g
      refine g_callV (As := []) (rest := [.int x6]) hF hM (c_X1_count e17) k_X1_count u195 u196 u197 rfl rfl t16 rfl hl.1 rfl (Nat.le_of_ble_eq_true rfl) dX4_fill_26 ⟨(Nat.le_of_ble_eq_true rfl), (Nat.le_of_ble_eq_true rfl)⟩ ⟨(Nat.le_of_ble_eq_true rfl), (Nat.le_of_ble_eq_true rfl)⟩ (fun H locs hM => ?_)
      refine lv_icmp_ge (tgt := 53) hx hb dX4_fill_29 (by decide) (fun c19 => ?_) (fun c19 => ?_)
      · replace h := (if_pos c19).symm.trans h
        refine g_aload hx hb dX4_fill_53 (lv_at hl 2 rfl) ?_
        have g := gbind h
        clear h
        obtain ⟨a20, e21, h⟩ := g
        have t22 := (gtk_of e21).2
        rw [(gtk_of e21).1]
        have g := gbind h
        clear h
        obtain ⟨v24, e23, h⟩ := g
        refine g_callV (As := []) (rest := []) hF hM (c_X1_count e23) k_X1_count u195 u196 u197 rfl rfl t22 rfl hl.1 rfl (Nat.le_of_ble_eq_true rfl) dX4_fill_55 ⟨(Nat.le_of_ble_eq_true rfl), (Nat.le_of_ble_eq_true rfl)⟩ ⟨(Nat.le_of_ble_eq_true rfl), (Nat.le_of_ble_eq_true rfl)⟩ (fun H locs hM => ?_)
        exact nomatch (Option.some.inj h)
      · replace h := (if_neg c19).symm.trans h
        refine g_aload hx hb dX4_fill_32 (lv_at hl 3 rfl) ?_
        refine g_aload hx hb dX4_fill_34 (lv_at hl 2 rfl) ?_
        have g := gbind h
        clear h
        obtain ⟨a25, e26, h⟩ := g
        have t27 := (gtk_of e26).2
        rw [(gtk_of e26).1]
        have g := gbind h
        clear h
        obtain ⟨v29, e28, h⟩ := g
        refine g_callV (As := []) (rest := [va_rf x5]) hF hM (c_X1_first e28) k_X1_first u553 u214 u215 rfl rfl t27 rfl hl.1 rfl (by simp [rf_cat, ic_cat, lc_cat]) dX4_fill_36 ⟨(Nat.le_of_ble_eq_true rfl), (Nat.le_of_ble_eq_true rfl)⟩ ⟨(Nat.le_of_ble_eq_true rfl), (Nat.le_of_ble_eq_true rfl)⟩ (fun H locs hM => ?_)
        refine lv_iload hx hb dX4_fill_39 (lv_at hl 4 rfl) ?_
        refine lv_iadd hx hb dX4_fill_41 ?_
        refine lv_iload_n hx hb dX4_fill_42 rfl (lv_at hl 0 rfl) ?_
        refine lv_iload_n hx hb dX4_fill_43 rfl (lv_at hl 1 rfl) ?_
        have g := gbind h
        clear h
        obtain ⟨a30, e31, h⟩ := g
        have t32 := (gtk_of e31).2
        rw [(gtk_of e31).1]
        have g := gbind h
        clear h
        obtain ⟨S34, e33, h⟩ := g
        refine g_callV (As := [.int (v29 + x6), .int x2, .int x3]) (rest := []) hF hM (c_X3_lay e33) k_X3_lay u788 u292 u293 rfl rfl t32 rfl hl.1 rfl (Nat.le_of_ble_eq_true rfl) dX4_fill_44 ⟨(Nat.le_of_ble_eq_true rfl), (Nat.le_of_ble_eq_true rfl)⟩ ⟨(Nat.le_of_ble_eq_true rfl), (Nat.le_of_ble_eq_true rfl)⟩ (fun H locs hM => ?_)
        refine lv_iinc (v := (x6 + 1)) (lv' := [(6, .int (x6 + 1)), (2, .int x2), (3, .int x3), (4, va_rf x4), (5, va_rf x5)]) hx hb dX4_fill_47 hl (k := 4) rfl rfl (by decide) (by simp [rf_cat, ic_cat, lc_cat]) (fun ls hl => ?_)
        refine lv_goto (tgt := 22) hx hb dX4_fill_50 (by decide) ?_
        refine W.widen (k := 0) (n := 0) (Nat.le_of_ble_eq_true rfl) (Nat.le_of_ble_eq_true rfl) ?_
        exact ih _ _ _ _ _ _ h _ _ _ hM (lv_sub hl [1, 2, 3, 4, 0] rfl)
  unfold f_X4_fill at h
  refine g_aload_n hx hb dX4_fill_0 rfl (lv_at hl 0 rfl) ?_
  refine lv_iload_n hx hb dX4_fill_1 rfl (lv_at hl 1 rfl) ?_
  have g := gckE h
  clear h
  obtain ⟨t1, h⟩ := g
  have t1 := eq_of_beq t1
  have g := gthE h
  clear h
  rcases g with ⟨v3, e2, h⟩ | ⟨y4, e2, z5⟩
  · refine g_callV (As := [.int x1]) (rest := []) hF hM (c_X4_needList e2) k_X4_needList u692 u694 u17 rfl rfl t1 rfl hl.1 rfl (Nat.le_of_ble_eq_true rfl) dX4_fill_2 ⟨(Nat.le_of_ble_eq_true rfl), (Nat.le_of_ble_eq_true rfl)⟩ ⟨(Nat.le_of_ble_eq_true rfl), (Nat.le_of_ble_eq_true rfl)⟩ (fun H locs hM => ?_)
    refine g_astore (i := 4) (lv' := [(0, va_rf (some a0)), (1, .int x1), (2, .int x2), (3, .int x3)]) hx hb dX4_fill_5 hl (by decide) (fun v => rfl) (fun ls hl => ?_)
    refine g_aload hx hb dX4_fill_7 (lv_at hl 0 rfl) ?_
    have g := gthE h
    clear h
    rcases g with ⟨v7, e6, h⟩ | ⟨y8, e6, z9⟩
    · refine g_callS (As := [va_rf v3]) (rest := []) hF hM (c_X4_openStore e6) k_X4_openStore u732 u733 rfl hl.1 rfl (Nat.le_of_ble_eq_true rfl) dX4_fill_9 ⟨(Nat.le_of_ble_eq_true rfl), (Nat.le_of_ble_eq_true rfl)⟩ ⟨(Nat.le_of_ble_eq_true rfl), (Nat.le_of_ble_eq_true rfl)⟩ (fun H locs hM => ?_)
      refine g_astore (i := 5) (lv' := [(4, va_rf v3), (0, va_rf (some a0)), (1, .int x1), (2, .int x2), (3, .int x3)]) hx hb dX4_fill_12 hl (by decide) (fun v => by simp [rf_cat, ic_cat, lc_cat]) (fun ls hl => ?_)
      refine lv_iload_n hx hb dX4_fill_14 rfl (lv_at hl 4 rfl) ?_
      refine lv_iload_n hx hb dX4_fill_15 rfl (lv_at hl 5 rfl) ?_
      have g := gthE h
      clear h
      rcases g with ⟨w11, e10, h⟩ | ⟨y12, e10, z13⟩
      · refine g_callS (As := [.int x2, .int x3]) (rest := []) hF hM (c_X4_needThing e10) k_X4_needThing u590 u591 rfl hl.1 rfl (Nat.le_of_ble_eq_true rfl) dX4_fill_16 ⟨(Nat.le_of_ble_eq_true rfl), (Nat.le_of_ble_eq_true rfl)⟩ ⟨(Nat.le_of_ble_eq_true rfl), (Nat.le_of_ble_eq_true rfl)⟩ (fun H locs hM => ?_)
        refine lv_iconst (v := 0) hx hb dX4_fill_19 (by decide) ?_
        refine lv_istore (i := 6) (lv' := [(6, .int 0), (5, va_rf v7), (4, va_rf v3), (0, va_rf (some a0)), (1, .int x1), (2, .int x2), (3, .int x3)]) hx hb dX4_fill_20 hl (by decide) (by simp [rf_cat, ic_cat, lc_cat]) (fun ls hl => ?_)
        refine W.widen (k := 0) (n := 0) (Nat.le_of_ble_eq_true rfl) (Nat.le_of_ble_eq_true rfl) ?_
        exact JL22 gN _ _ _ _ _ _ h _ _ _ hM (lv_sub hl [5, 6, 2, 1, 0] rfl)
      · exact g_callSt (As := [.int x2, .int x3]) (rest := []) hF hM hout (cx_X4_needThing hfl e10) k_X4_needThing u590 u591 rfl hl.1 rfl (Nat.le_of_ble_eq_true rfl) dX4_fill_16 ⟨(Nat.le_of_ble_eq_true rfl), (Nat.le_of_ble_eq_true rfl)⟩ ⟨(Nat.le_of_ble_eq_true rfl), (Nat.le_of_ble_eq_true rfl)⟩ (Nat.le_of_ble_eq_true rfl) (Nat.le_of_ble_eq_true rfl) (congrArg Sum.inr (Sum.inr.inj z13))
    · exact g_callSt (As := [va_rf v3]) (rest := []) hF hM hout (cx_X4_openStore hfl e6) k_X4_openStore u732 u733 rfl hl.1 rfl (Nat.le_of_ble_eq_true rfl) dX4_fill_9 ⟨(Nat.le_of_ble_eq_true rfl), (Nat.le_of_ble_eq_true rfl)⟩ ⟨(Nat.le_of_ble_eq_true rfl), (Nat.le_of_ble_eq_true rfl)⟩ (Nat.le_of_ble_eq_true rfl) (Nat.le_of_ble_eq_true rfl) (congrArg Sum.inr (Sum.inr.inj z9))
  · exact g_callVt (As := [.int x1]) (rest := []) hF hM hout (cx_X4_needList hfl e2) k_X4_needList u692 u694 u17 rfl rfl t1 rfl hl.1 rfl (Nat.le_of_ble_eq_true rfl) dX4_fill_2 ⟨(Nat.le_of_ble_eq_true rfl), (Nat.le_of_ble_eq_true rfl)⟩ ⟨(Nat.le_of_ble_eq_true rfl), (Nat.le_of_ble_eq_true rfl)⟩ (Nat.le_of_ble_eq_true rfl) (Nat.le_of_ble_eq_true rfl) (congrArg Sum.inr (Sum.inr.inj z5))
abbrev rm_X4_rowIn : Room := { frames := 4, cells := 0, slots := 0, locals := 88 }
theorem k_X4_rowIn : gKc yX4_rowIn cX4_rowIn 9 (some .int) 3 := ⟨u937, u63, by decide +kernel, by decide +kernel, by decide +kernel⟩
set_option maxHeartbeats 4000000 in
set_option maxRecDepth 100000 in
theorem c_X4_rowIn {l : Launch} {D : va_G} {Y : Nat → ClassId} {S : GS} {hs : Nat} {a0 : Nat} {x1 : Int32} {x2 : Int32} {x3 : Int32} {r : Int32} (h : f_X4_rowIn S a0 x1 x2 x3 = some (.inl r)) : gMet l yX4_rowIn (gWs yX4_rowIn cX4_rowIn 9 (some .int)) rm_X4_rowIn [va_rf (some a0), .int x1, .int x2, .int x3] D Y S hs (some (.int r)) S hs := by
  refine g_ofW (by decide +kernel) (Or.inl ⟨(Nat.le_of_ble_eq_true rfl), (List.forall_mem_cons.mpr ⟨rf_cat _, (List.forall_mem_cons.mpr ⟨rfl, (List.forall_mem_cons.mpr ⟨rfl, (List.forall_mem_cons.mpr ⟨rfl, (fun _ h => absurd h List.not_mem_nil)⟩)⟩)⟩)⟩)⟩) ?_
  intro p e s m args below meth c ls hsz hname hF hM hl
  have hl : lv_has ls 9 [(0, va_rf (some a0)), (1, .int x1), (2, .int x2), (3, .int x3)] := by rw [g_args [va_rf (some a0), .int x1, .int x2, .int x3] 0 (List.forall_mem_cons.mpr ⟨rf_cat _, (List.forall_mem_cons.mpr ⟨rfl, (List.forall_mem_cons.mpr ⟨rfl, (List.forall_mem_cons.mpr ⟨rfl, (fun _ h => absurd h List.not_mem_nil)⟩)⟩)⟩)⟩)] at hl; exact hl
  have hF : gF p s m args meth c RX4 cX4_rowIn 9 (some .int) D Y (gA S hs) := hF
  have hx := hF.1
  have hb := hF.2.1
  have Jb56 : ∀ (k35 : Int32 → Option Nat → Option Nat → Int32 → Int32 → Option (Int32 ⊕ Nat)) (hk35 : ∀ (x3 : Int32) (x4 : Option Nat) (x5 : Option Nat) (x6 : Int32) (x7 : Int32), k35 x3 x4 x5 x6 x7 = some (.inl r) → ∀ (H : Heap) (locs : List Loc) (ls : Array Slot), gM D Y (gA S hs) s.heap S hs H locs → lv_has ls 9 [(3, .int x3), (4, va_rf x4), (5, va_rf x5), (6, .int x6), (7, .int x7)] → W p l e rm_X4_rowIn s m args below meth c H locs 0 0 (MQ below (gQ (some (.int r)) D Y S hs (gA S hs)) args s rm_X4_rowIn.cells rm_X4_rowIn.slots (gA S hs)) (F0 m 35 ls [])) (x3 : Int32) (x4 : Option Nat) (x5 : Option Nat) (x6 : Int32) (x7 : Int32) (s0 : Int32), f_X4_rowIn_b56 k35 S a0 x3 x4 x5 x6 x7 s0 = some (.inl r) → ∀ (H : Heap) (locs : List Loc) (ls : Array Slot), gM D Y (gA S hs) s.heap S hs H locs → lv_has ls 9 [(3, .int x3), (4, va_rf x4), (5, va_rf x5), (6, .int x6), (7, .int x7)] → W p l e rm_X4_rowIn s m args below meth c H locs 0 0 (MQ below (gQ (some (.int r)) D Y S hs (gA S hs)) args s rm_X4_rowIn.cells rm_X4_rowIn.slots (gA S hs)) (F0 m 56 ls [.int s0]) := by
    intro k35 hk35 x3 x4 x5 x6 x7 s0 h H locs ls hM hl
    unfold f_X4_rowIn_b56 at h
    refine lv_istore (i := 8) (lv' := [(8, .int s0), (3, .int x3), (4, va_rf x4), (5, va_rf x5), (6, .int x6), (7, .int x7)]) hx hb dX4_rowIn_56 hl (by decide) rfl (fun ls hl => ?_)
    refine g_aload hx hb dX4_rowIn_58 (lv_at hl 2 rfl) ?_
    refine lv_iload hx hb dX4_rowIn_60 (lv_at hl 0 rfl) ?_
    refine g_aload hx hb dX4_rowIn_62 (lv_at hl 3 rfl) ?_
    have g := gbind h
    clear h
    obtain ⟨a27, e28, h⟩ := g
    have t29 := (gtk_of e28).2
    rw [(gtk_of e28).1]
    have g := gbind h
    clear h
    obtain ⟨v31, e30, h⟩ := g
    refine g_callV (As := [.int s0, va_rf x5]) (rest := []) hF hM (c_X1_standsAt e30) k_X1_standsAt u938 u329 u330 rfl rfl t29 rfl hl.1 rfl (Nat.le_of_ble_eq_true rfl) dX4_rowIn_64 ⟨(Nat.le_of_ble_eq_true rfl), (Nat.le_of_ble_eq_true rfl)⟩ ⟨(Nat.le_of_ble_eq_true rfl), (Nat.le_of_ble_eq_true rfl)⟩ (fun H locs hM => ?_)
    refine lv_if_eq (tgt := 73) hx hb dX4_rowIn_67 (by decide) (fun c32 => ?_) (fun c32 => ?_)
    · replace h := (if_pos c32).symm.trans h
      refine lv_iinc (v := (x7 + 1)) (lv' := [(7, .int (x7 + 1)), (8, .int s0), (3, .int x3), (4, va_rf x4), (5, va_rf x5), (6, .int x6)]) hx hb dX4_rowIn_73 hl (k := 5) rfl rfl (by decide) rfl (fun ls hl => ?_)
      refine lv_goto (tgt := 35) hx hb dX4_rowIn_76 (by decide) ?_
      refine W.widen (k := 0) (n := 0) (Nat.le_of_ble_eq_true rfl) (Nat.le_of_ble_eq_true rfl) ?_
      exact hk35 _ _ _ _ _ h _ _ _ hM (lv_sub hl [2, 3, 4, 5, 0] rfl)
    · replace h := (if_neg c32).symm.trans h
      refine lv_iload hx hb dX4_rowIn_70 (lv_at hl 0 rfl) ?_
      rw [← (Sum.inl.inj (Option.some.inj h))]
      exact g_iret hF hM rfl rfl dX4_rowIn_72 (Nat.le_of_ble_eq_true rfl) (Nat.le_of_ble_eq_true rfl)
  have JL35 : ∀ (n : Nat) (x3 : Int32) (x4 : Option Nat) (x5 : Option Nat) (x6 : Int32) (x7 : Int32), f_X4_rowIn_L35 S a0 n x3 x4 x5 x6 x7 = some (.inl r) → ∀ (H : Heap) (locs : List Loc) (ls : Array Slot), gM D Y (gA S hs) s.heap S hs H locs → lv_has ls 9 [(3, .int x3), (4, va_rf x4), (5, va_rf x5), (6, .int x6), (7, .int x7)] → W p l e rm_X4_rowIn s m args below meth c H locs 0 0 (MQ below (gQ (some (.int r)) D Y S hs (gA S hs)) args s rm_X4_rowIn.cells rm_X4_rowIn.slots (gA S hs)) (F0 m 35 ls []) := by
    intro n
    induction n with
    | zero => intro x3 x4 x5 x6 x7 h; unfold f_X4_rowIn_L35 at h; exact nomatch h
    | succ n ih =>
      intro x3 x4 x5 x6 x7 h H locs ls hM hl
      unfold f_X4_rowIn_L35 at h
      refine lv_iload hx hb dX4_rowIn_35 (lv_at hl 4 rfl) ?_
      refine lv_iload hx hb dX4_rowIn_37 (lv_at hl 3 rfl) ?_
      refine lv_icmp_gt (tgt := 79) hx hb dX4_rowIn_39 (by decide) (fun c25 => ?_) (fun c25 => ?_)
      · replace h := (if_pos c25).symm.trans h
        refine lv_iconst (v := (-1)) hx hb dX4_rowIn_79 (by decide) ?_
        rw [← (Sum.inl.inj (Option.some.inj h))]
        exact g_iret hF hM rfl rfl dX4_rowIn_80 (Nat.le_of_ble_eq_true rfl) (Nat.le_of_ble_eq_true rfl)
      · replace h := (if_neg c25).symm.trans h
        refine lv_iload_n hx hb dX4_rowIn_42 rfl (lv_at hl 0 rfl) ?_
        refine lv_if_eq (tgt := 54) hx hb dX4_rowIn_43 (by decide) (fun c26 => ?_) (fun c26 => ?_)
        · replace h := (if_pos c26).symm.trans h
          refine lv_iload hx hb dX4_rowIn_54 (lv_at hl 4 rfl) ?_
          refine W.widen (k := 0) (n := 0) (Nat.le_of_ble_eq_true rfl) (Nat.le_of_ble_eq_true rfl) ?_
          exact Jb56 _ ih _ _ _ _ _ _ h _ _ _ hM (lv_sub hl [0, 1, 2, 3, 4] rfl)
        · replace h := (if_neg c26).symm.trans h
          refine lv_iload hx hb dX4_rowIn_46 (lv_at hl 3 rfl) ?_
          refine lv_iload hx hb dX4_rowIn_48 (lv_at hl 4 rfl) ?_
          refine lv_isub hx hb dX4_rowIn_50 ?_
          refine lv_goto (tgt := 56) hx hb dX4_rowIn_51 (by decide) ?_
          refine W.widen (k := 0) (n := 0) (Nat.le_of_ble_eq_true rfl) (Nat.le_of_ble_eq_true rfl) ?_
          exact Jb56 _ ih _ _ _ _ _ _ h _ _ _ hM (lv_sub hl [0, 1, 2, 3, 4] rfl)
  unfold f_X4_rowIn at h
  refine lv_iload_n hx hb dX4_rowIn_0 rfl (lv_at hl 1 rfl) ?_
  refine lv_iload_n hx hb dX4_rowIn_1 rfl (lv_at hl 2 rfl) ?_
  have g := gthE h
  clear h
  rcases g with ⟨w2, e1, h⟩ | ⟨y3, e1, z4⟩
  · refine g_callS (As := [.int x1, .int x2]) (rest := []) hF hM (c_X4_needSlots e1) k_X4_needSlots u844 u845 rfl hl.1 rfl (Nat.le_of_ble_eq_true rfl) dX4_rowIn_2 ⟨(Nat.le_of_ble_eq_true rfl), (Nat.le_of_ble_eq_true rfl)⟩ ⟨(Nat.le_of_ble_eq_true rfl), (Nat.le_of_ble_eq_true rfl)⟩ (fun H locs hM => ?_)
    refine g_aload_n hx hb dX4_rowIn_5 rfl (lv_at hl 0 rfl) ?_
    refine lv_iload_n hx hb dX4_rowIn_6 rfl (lv_at hl 1 rfl) ?_
    have g := gckE h
    clear h
    obtain ⟨t5, h⟩ := g
    have t5 := eq_of_beq t5
    have g := gthE h
    clear h
    rcases g with ⟨v7, e6, h⟩ | ⟨y8, e6, z9⟩
    · refine g_callV (As := [.int x1]) (rest := []) hF hM (c_X4_needList e6) k_X4_needList u692 u694 u17 rfl rfl t5 rfl hl.1 rfl (Nat.le_of_ble_eq_true rfl) dX4_rowIn_7 ⟨(Nat.le_of_ble_eq_true rfl), (Nat.le_of_ble_eq_true rfl)⟩ ⟨(Nat.le_of_ble_eq_true rfl), (Nat.le_of_ble_eq_true rfl)⟩ (fun H locs hM => ?_)
      refine g_astore (i := 4) (lv' := [(0, va_rf (some a0)), (1, .int x1), (2, .int x2), (3, .int x3)]) hx hb dX4_rowIn_10 hl (by decide) (fun v => rfl) (fun ls hl => ?_)
      refine g_aload_n hx hb dX4_rowIn_12 rfl (lv_at hl 1 rfl) ?_
      refine lv_iload_n hx hb dX4_rowIn_13 rfl (lv_at hl 3 rfl) ?_
      have g := gckE h
      clear h
      obtain ⟨t10, h⟩ := g
      have t10 := eq_of_beq t10
      have g := gthE h
      clear h
      rcases g with ⟨v12, e11, h⟩ | ⟨y13, e11, z14⟩
      · refine g_callV (As := [.int x2]) (rest := []) hF hM (c_X4_needList e11) k_X4_needList u692 u694 u17 rfl rfl t10 rfl hl.1 rfl (Nat.le_of_ble_eq_true rfl) dX4_rowIn_14 ⟨(Nat.le_of_ble_eq_true rfl), (Nat.le_of_ble_eq_true rfl)⟩ ⟨(Nat.le_of_ble_eq_true rfl), (Nat.le_of_ble_eq_true rfl)⟩ (fun H locs hM => ?_)
        refine g_astore (i := 5) (lv' := [(4, va_rf v7), (0, va_rf (some a0)), (1, .int x1), (2, .int x2), (3, .int x3)]) hx hb dX4_rowIn_17 hl (by decide) (fun v => by simp [rf_cat, ic_cat, lc_cat]) (fun ls hl => ?_)
        refine g_aload hx hb dX4_rowIn_19 (lv_at hl 1 rfl) ?_
        have g := gbind h
        clear h
        obtain ⟨a15, e16, h⟩ := g
        have t17 := (gtk_of e16).2
        rw [(gtk_of e16).1]
        have g := gbind h
        clear h
        obtain ⟨v19, e18, h⟩ := g
        refine g_callV (As := []) (rest := []) hF hM (c_X1_count e18) k_X1_count u195 u196 u197 rfl rfl t17 rfl hl.1 rfl (Nat.le_of_ble_eq_true rfl) dX4_rowIn_21 ⟨(Nat.le_of_ble_eq_true rfl), (Nat.le_of_ble_eq_true rfl)⟩ ⟨(Nat.le_of_ble_eq_true rfl), (Nat.le_of_ble_eq_true rfl)⟩ (fun H locs hM => ?_)
        refine g_aload hx hb dX4_rowIn_24 (lv_at hl 0 rfl) ?_
        have g := gbind h
        clear h
        obtain ⟨a20, e21, h⟩ := g
        have t22 := (gtk_of e21).2
        rw [(gtk_of e21).1]
        have g := gbind h
        clear h
        obtain ⟨v24, e23, h⟩ := g
        refine g_callV (As := []) (rest := [.int v19]) hF hM (c_X1_count e23) k_X1_count u195 u196 u197 rfl rfl t22 rfl hl.1 rfl (Nat.le_of_ble_eq_true rfl) dX4_rowIn_26 ⟨(Nat.le_of_ble_eq_true rfl), (Nat.le_of_ble_eq_true rfl)⟩ ⟨(Nat.le_of_ble_eq_true rfl), (Nat.le_of_ble_eq_true rfl)⟩ (fun H locs hM => ?_)
        refine lv_isub hx hb dX4_rowIn_29 ?_
        refine lv_istore (i := 6) (lv' := [(6, .int (v19 - v24)), (5, va_rf v12), (4, va_rf v7), (0, va_rf (some a0)), (1, .int x1), (2, .int x2), (3, .int x3)]) hx hb dX4_rowIn_30 hl (by decide) (by simp [rf_cat, ic_cat, lc_cat]) (fun ls hl => ?_)
        refine lv_iconst (v := 0) hx hb dX4_rowIn_32 (by decide) ?_
        refine lv_istore (i := 7) (lv' := [(7, .int 0), (6, .int (v19 - v24)), (5, va_rf v12), (4, va_rf v7), (0, va_rf (some a0)), (1, .int x1), (2, .int x2), (3, .int x3)]) hx hb dX4_rowIn_33 hl (by decide) rfl (fun ls hl => ?_)
        refine W.widen (k := 0) (n := 0) (Nat.le_of_ble_eq_true rfl) (Nat.le_of_ble_eq_true rfl) ?_
        exact JL35 gN _ _ _ _ _ h _ _ _ hM (lv_sub hl [7, 3, 2, 1, 0] rfl)
      · exact nomatch z14
    · exact nomatch z9
  · exact nomatch z4
abbrev rmx_X4_rowIn : Room := { frames := 8, cells := 1, slots := 6, locals := 132 }
set_option maxHeartbeats 4000000 in
set_option maxRecDepth 100000 in
theorem cx_X4_rowIn {l : Launch} {D : va_G} {Y : Nat → ClassId} {S : GS} {hs : Nat} {a0 : Nat} {x1 : Int32} {x2 : Int32} {x3 : Int32} {x : Nat} (hfl : l.stackTraces = false) (h : f_X4_rowIn S a0 x1 x2 x3 = some (.inr x)) : gMx l yX4_rowIn (gWs yX4_rowIn cX4_rowIn 9 (some .int)) rmx_X4_rowIn [va_rf (some a0), .int x1, .int x2, .int x3] D Y S hs (.inr x) := by
  refine g_ofWx (by decide +kernel) (Or.inl ⟨(Nat.le_of_ble_eq_true rfl), (List.forall_mem_cons.mpr ⟨rf_cat _, (List.forall_mem_cons.mpr ⟨rfl, (List.forall_mem_cons.mpr ⟨rfl, (List.forall_mem_cons.mpr ⟨rfl, (fun _ h => absurd h List.not_mem_nil)⟩)⟩)⟩)⟩)⟩) ?_
  intro p e s m args below meth c ls hsz hout hF hM hl
  have hl : lv_has ls 9 [(0, va_rf (some a0)), (1, .int x1), (2, .int x2), (3, .int x3)] := by rw [g_args [va_rf (some a0), .int x1, .int x2, .int x3] 0 (List.forall_mem_cons.mpr ⟨rf_cat _, (List.forall_mem_cons.mpr ⟨rfl, (List.forall_mem_cons.mpr ⟨rfl, (List.forall_mem_cons.mpr ⟨rfl, (fun _ h => absurd h List.not_mem_nil)⟩)⟩)⟩)⟩)] at hl; exact hl
  have hF : gF p s m args meth c RX4 cX4_rowIn 9 (some .int) D Y (gA S hs) := hF
  have hx := hF.1
  have hb := hF.2.1
  have Jb56 : ∀ (k35 : Int32 → Option Nat → Option Nat → Int32 → Int32 → Option (Int32 ⊕ Nat)) (hk35 : ∀ (x3 : Int32) (x4 : Option Nat) (x5 : Option Nat) (x6 : Int32) (x7 : Int32), k35 x3 x4 x5 x6 x7 = some (.inr x) → ∀ (H : Heap) (locs : List Loc) (ls : Array Slot), gM D Y (gA S hs) s.heap S hs H locs → lv_has ls 9 [(3, .int x3), (4, va_rf x4), (5, va_rf x5), (6, .int x6), (7, .int x7)] → W p l e rmx_X4_rowIn s m args below meth c H locs 0 0 (vx_MQ below (gQz (.inr x) D Y (gA S hs)) (gXz (.inr x) D Y S (gA S hs)) args s rmx_X4_rowIn.cells rmx_X4_rowIn.slots (gA S hs)) (F0 m 35 ls [])) (x3 : Int32) (x4 : Option Nat) (x5 : Option Nat) (x6 : Int32) (x7 : Int32) (s0 : Int32), f_X4_rowIn_b56 k35 S a0 x3 x4 x5 x6 x7 s0 = some (.inr x) → ∀ (H : Heap) (locs : List Loc) (ls : Array Slot), gM D Y (gA S hs) s.heap S hs H locs → lv_has ls 9 [(3, .int x3), (4, va_rf x4), (5, va_rf x5), (6, .int x6), (7, .int x7)] → W p l e rmx_X4_rowIn s m args below meth c H locs 0 0 (vx_MQ below (gQz (.inr x) D Y (gA S hs)) (gXz (.inr x) D Y S (gA S hs)) args s rmx_X4_rowIn.cells rmx_X4_rowIn.slots (gA S hs)) (F0 m 56 ls [.int s0]) := by
    intro k35 hk35 x3 x4 x5 x6 x7 s0 h H locs ls hM hl
    unfold f_X4_rowIn_b56 at h
    refine lv_istore (i := 8) (lv' := [(8, .int s0), (3, .int x3), (4, va_rf x4), (5, va_rf x5), (6, .int x6), (7, .int x7)]) hx hb dX4_rowIn_56 hl (by decide) rfl (fun ls hl => ?_)
    refine g_aload hx hb dX4_rowIn_58 (lv_at hl 2 rfl) ?_
    refine lv_iload hx hb dX4_rowIn_60 (lv_at hl 0 rfl) ?_
    refine g_aload hx hb dX4_rowIn_62 (lv_at hl 3 rfl) ?_
    have g := gbind h
    clear h
    obtain ⟨a27, e28, h⟩ := g
    have t29 := (gtk_of e28).2
    rw [(gtk_of e28).1]
    have g := gbind h
    clear h
    obtain ⟨v31, e30, h⟩ := g
    refine g_callV (As := [.int s0, va_rf x5]) (rest := []) hF hM (c_X1_standsAt e30) k_X1_standsAt u938 u329 u330 rfl rfl t29 rfl hl.1 rfl (Nat.le_of_ble_eq_true rfl) dX4_rowIn_64 ⟨(Nat.le_of_ble_eq_true rfl), (Nat.le_of_ble_eq_true rfl)⟩ ⟨(Nat.le_of_ble_eq_true rfl), (Nat.le_of_ble_eq_true rfl)⟩ (fun H locs hM => ?_)
    refine lv_if_eq (tgt := 73) hx hb dX4_rowIn_67 (by decide) (fun c32 => ?_) (fun c32 => ?_)
    · replace h := (if_pos c32).symm.trans h
      refine lv_iinc (v := (x7 + 1)) (lv' := [(7, .int (x7 + 1)), (8, .int s0), (3, .int x3), (4, va_rf x4), (5, va_rf x5), (6, .int x6)]) hx hb dX4_rowIn_73 hl (k := 5) rfl rfl (by decide) rfl (fun ls hl => ?_)
      refine lv_goto (tgt := 35) hx hb dX4_rowIn_76 (by decide) ?_
      refine W.widen (k := 0) (n := 0) (Nat.le_of_ble_eq_true rfl) (Nat.le_of_ble_eq_true rfl) ?_
      exact hk35 _ _ _ _ _ h _ _ _ hM (lv_sub hl [2, 3, 4, 5, 0] rfl)
    · replace h := (if_neg c32).symm.trans h
      refine lv_iload hx hb dX4_rowIn_70 (lv_at hl 0 rfl) ?_
      exact nomatch (Option.some.inj h)
  have JL35 : ∀ (n : Nat) (x3 : Int32) (x4 : Option Nat) (x5 : Option Nat) (x6 : Int32) (x7 : Int32), f_X4_rowIn_L35 S a0 n x3 x4 x5 x6 x7 = some (.inr x) → ∀ (H : Heap) (locs : List Loc) (ls : Array Slot), gM D Y (gA S hs) s.heap S hs H locs → lv_has ls 9 [(3, .int x3), (4, va_rf x4), (5, va_rf x5), (6, .int x6), (7, .int x7)] → W p l e rmx_X4_rowIn s m args below meth c H locs 0 0 (vx_MQ below (gQz (.inr x) D Y (gA S hs)) (gXz (.inr x) D Y S (gA S hs)) args s rmx_X4_rowIn.cells rmx_X4_rowIn.slots (gA S hs)) (F0 m 35 ls []) := by
    intro n
    induction n with
    | zero => intro x3 x4 x5 x6 x7 h; unfold f_X4_rowIn_L35 at h; exact nomatch h
    | succ n ih =>
      intro x3 x4 x5 x6 x7 h H locs ls hM hl
      unfold f_X4_rowIn_L35 at h
      refine lv_iload hx hb dX4_rowIn_35 (lv_at hl 4 rfl) ?_
      refine lv_iload hx hb dX4_rowIn_37 (lv_at hl 3 rfl) ?_
      refine lv_icmp_gt (tgt := 79) hx hb dX4_rowIn_39 (by decide) (fun c25 => ?_) (fun c25 => ?_)
      · replace h := (if_pos c25).symm.trans h
        refine lv_iconst (v := (-1)) hx hb dX4_rowIn_79 (by decide) ?_
        exact nomatch (Option.some.inj h)
      · replace h := (if_neg c25).symm.trans h
        refine lv_iload_n hx hb dX4_rowIn_42 rfl (lv_at hl 0 rfl) ?_
        refine lv_if_eq (tgt := 54) hx hb dX4_rowIn_43 (by decide) (fun c26 => ?_) (fun c26 => ?_)
        · replace h := (if_pos c26).symm.trans h
          refine lv_iload hx hb dX4_rowIn_54 (lv_at hl 4 rfl) ?_
          refine W.widen (k := 0) (n := 0) (Nat.le_of_ble_eq_true rfl) (Nat.le_of_ble_eq_true rfl) ?_
          exact Jb56 _ ih _ _ _ _ _ _ h _ _ _ hM (lv_sub hl [0, 1, 2, 3, 4] rfl)
        · replace h := (if_neg c26).symm.trans h
          refine lv_iload hx hb dX4_rowIn_46 (lv_at hl 3 rfl) ?_
          refine lv_iload hx hb dX4_rowIn_48 (lv_at hl 4 rfl) ?_
          refine lv_isub hx hb dX4_rowIn_50 ?_
          refine lv_goto (tgt := 56) hx hb dX4_rowIn_51 (by decide) ?_
          refine W.widen (k := 0) (n := 0) (Nat.le_of_ble_eq_true rfl) (Nat.le_of_ble_eq_true rfl) ?_
          exact Jb56 _ ih _ _ _ _ _ _ h _ _ _ hM (lv_sub hl [0, 1, 2, 3, 4] rfl)
  unfold f_X4_rowIn at h
  refine lv_iload_n hx hb dX4_rowIn_0 rfl (lv_at hl 1 rfl) ?_
  refine lv_iload_n hx hb dX4_rowIn_1 rfl (lv_at hl 2 rfl) ?_
  have g := gthE h
  clear h
  rcases g with ⟨w2, e1, h⟩ | ⟨y3, e1, z4⟩
  · refine g_callS (As := [.int x1, .int x2]) (rest := []) hF hM (c_X4_needSlots e1) k_X4_needSlots u844 u845 rfl hl.1 rfl (Nat.le_of_ble_eq_true rfl) dX4_rowIn_2 ⟨(Nat.le_of_ble_eq_true rfl), (Nat.le_of_ble_eq_true rfl)⟩ ⟨(Nat.le_of_ble_eq_true rfl), (Nat.le_of_ble_eq_true rfl)⟩ (fun H locs hM => ?_)
    refine g_aload_n hx hb dX4_rowIn_5 rfl (lv_at hl 0 rfl) ?_
    refine lv_iload_n hx hb dX4_rowIn_6 rfl (lv_at hl 1 rfl) ?_
    have g := gckE h
    clear h
    obtain ⟨t5, h⟩ := g
    have t5 := eq_of_beq t5
    have g := gthE h
    clear h
    rcases g with ⟨v7, e6, h⟩ | ⟨y8, e6, z9⟩
    · refine g_callV (As := [.int x1]) (rest := []) hF hM (c_X4_needList e6) k_X4_needList u692 u694 u17 rfl rfl t5 rfl hl.1 rfl (Nat.le_of_ble_eq_true rfl) dX4_rowIn_7 ⟨(Nat.le_of_ble_eq_true rfl), (Nat.le_of_ble_eq_true rfl)⟩ ⟨(Nat.le_of_ble_eq_true rfl), (Nat.le_of_ble_eq_true rfl)⟩ (fun H locs hM => ?_)
      refine g_astore (i := 4) (lv' := [(0, va_rf (some a0)), (1, .int x1), (2, .int x2), (3, .int x3)]) hx hb dX4_rowIn_10 hl (by decide) (fun v => rfl) (fun ls hl => ?_)
      refine g_aload_n hx hb dX4_rowIn_12 rfl (lv_at hl 1 rfl) ?_
      refine lv_iload_n hx hb dX4_rowIn_13 rfl (lv_at hl 3 rfl) ?_
      have g := gckE h
      clear h
      obtain ⟨t10, h⟩ := g
      have t10 := eq_of_beq t10
      have g := gthE h
      clear h
      rcases g with ⟨v12, e11, h⟩ | ⟨y13, e11, z14⟩
      · refine g_callV (As := [.int x2]) (rest := []) hF hM (c_X4_needList e11) k_X4_needList u692 u694 u17 rfl rfl t10 rfl hl.1 rfl (Nat.le_of_ble_eq_true rfl) dX4_rowIn_14 ⟨(Nat.le_of_ble_eq_true rfl), (Nat.le_of_ble_eq_true rfl)⟩ ⟨(Nat.le_of_ble_eq_true rfl), (Nat.le_of_ble_eq_true rfl)⟩ (fun H locs hM => ?_)
        refine g_astore (i := 5) (lv' := [(4, va_rf v7), (0, va_rf (some a0)), (1, .int x1), (2, .int x2), (3, .int x3)]) hx hb dX4_rowIn_17 hl (by decide) (fun v => by simp [rf_cat, ic_cat, lc_cat]) (fun ls hl => ?_)
        refine g_aload hx hb dX4_rowIn_19 (lv_at hl 1 rfl) ?_
        have g := gbind h
        clear h
        obtain ⟨a15, e16, h⟩ := g
        have t17 := (gtk_of e16).2
        rw [(gtk_of e16).1]
        have g := gbind h
        clear h
        obtain ⟨v19, e18, h⟩ := g
        refine g_callV (As := []) (rest := []) hF hM (c_X1_count e18) k_X1_count u195 u196 u197 rfl rfl t17 rfl hl.1 rfl (Nat.le_of_ble_eq_true rfl) dX4_rowIn_21 ⟨(Nat.le_of_ble_eq_true rfl), (Nat.le_of_ble_eq_true rfl)⟩ ⟨(Nat.le_of_ble_eq_true rfl), (Nat.le_of_ble_eq_true rfl)⟩ (fun H locs hM => ?_)
        refine g_aload hx hb dX4_rowIn_24 (lv_at hl 0 rfl) ?_
        have g := gbind h
        clear h
        obtain ⟨a20, e21, h⟩ := g
        have t22 := (gtk_of e21).2
        rw [(gtk_of e21).1]
        have g := gbind h
        clear h
        obtain ⟨v24, e23, h⟩ := g
        refine g_callV (As := []) (rest := [.int v19]) hF hM (c_X1_count e23) k_X1_count u195 u196 u197 rfl rfl t22 rfl hl.1 rfl (Nat.le_of_ble_eq_true rfl) dX4_rowIn_26 ⟨(Nat.le_of_ble_eq_true rfl), (Nat.le_of_ble_eq_true rfl)⟩ ⟨(Nat.le_of_ble_eq_true rfl), (Nat.le_of_ble_eq_true rfl)⟩ (fun H locs hM => ?_)
        refine lv_isub hx hb dX4_rowIn_29 ?_
        refine lv_istore (i := 6) (lv' := [(6, .int (v19 - v24)), (5, va_rf v12), (4, va_rf v7), (0, va_rf (some a0)), (1, .int x1), (2, .int x2), (3, .int x3)]) hx hb dX4_rowIn_30 hl (by decide) (by simp [rf_cat, ic_cat, lc_cat]) (fun ls hl => ?_)
        refine lv_iconst (v := 0) hx hb dX4_rowIn_32 (by decide) ?_
        refine lv_istore (i := 7) (lv' := [(7, .int 0), (6, .int (v19 - v24)), (5, va_rf v12), (4, va_rf v7), (0, va_rf (some a0)), (1, .int x1), (2, .int x2), (3, .int x3)]) hx hb dX4_rowIn_33 hl (by decide) rfl (fun ls hl => ?_)
        refine W.widen (k := 0) (n := 0) (Nat.le_of_ble_eq_true rfl) (Nat.le_of_ble_eq_true rfl) ?_
        exact JL35 gN _ _ _ _ _ h _ _ _ hM (lv_sub hl [7, 3, 2, 1, 0] rfl)
      · exact g_callVt (As := [.int x2]) (rest := []) hF hM hout (cx_X4_needList hfl e11) k_X4_needList u692 u694 u17 rfl rfl t10 rfl hl.1 rfl (Nat.le_of_ble_eq_true rfl) dX4_rowIn_14 ⟨(Nat.le_of_ble_eq_true rfl), (Nat.le_of_ble_eq_true rfl)⟩ ⟨(Nat.le_of_ble_eq_true rfl), (Nat.le_of_ble_eq_true rfl)⟩ (Nat.le_of_ble_eq_true rfl) (Nat.le_of_ble_eq_true rfl) (congrArg Sum.inr (Sum.inr.inj z14))
    · exact g_callVt (As := [.int x1]) (rest := []) hF hM hout (cx_X4_needList hfl e6) k_X4_needList u692 u694 u17 rfl rfl t5 rfl hl.1 rfl (Nat.le_of_ble_eq_true rfl) dX4_rowIn_7 ⟨(Nat.le_of_ble_eq_true rfl), (Nat.le_of_ble_eq_true rfl)⟩ ⟨(Nat.le_of_ble_eq_true rfl), (Nat.le_of_ble_eq_true rfl)⟩ (Nat.le_of_ble_eq_true rfl) (Nat.le_of_ble_eq_true rfl) (congrArg Sum.inr (Sum.inr.inj z9))
  · exact g_callSt (As := [.int x1, .int x2]) (rest := []) hF hM hout (cx_X4_needSlots hfl e1) k_X4_needSlots u844 u845 rfl hl.1 rfl (Nat.le_of_ble_eq_true rfl) dX4_rowIn_2 ⟨(Nat.le_of_ble_eq_true rfl), (Nat.le_of_ble_eq_true rfl)⟩ ⟨(Nat.le_of_ble_eq_true rfl), (Nat.le_of_ble_eq_true rfl)⟩ (Nat.le_of_ble_eq_true rfl) (Nat.le_of_ble_eq_true rfl) (congrArg Sum.inr (Sum.inr.inj z4))
abbrev rm_X4_often : Room := { frames := 3, cells := 0, slots := 0, locals := 65 }
theorem k_X4_often : gKc yX4_often cX4_often 7 (some .int) 3 := ⟨u945, u63, by decide +kernel, by decide +kernel, by decide +kernel⟩
set_option maxHeartbeats 4000000 in
set_option maxRecDepth 100000 in
theorem c_X4_often {l : Launch} {D : va_G} {Y : Nat → ClassId} {S : GS} {hs : Nat} {a0 : Nat} {x1 : Int32} {x2 : Int32} {x3 : Int32} {r : Int32} (h : f_X4_often S a0 x1 x2 x3 = some (.inl r)) : gMet l yX4_often (gWs yX4_often cX4_often 7 (some .int)) rm_X4_often [va_rf (some a0), .int x1, .int x2, .int x3] D Y S hs (some (.int r)) S hs := by
  refine g_ofW (by decide +kernel) (Or.inl ⟨(Nat.le_of_ble_eq_true rfl), (List.forall_mem_cons.mpr ⟨rf_cat _, (List.forall_mem_cons.mpr ⟨rfl, (List.forall_mem_cons.mpr ⟨rfl, (List.forall_mem_cons.mpr ⟨rfl, (fun _ h => absurd h List.not_mem_nil)⟩)⟩)⟩)⟩)⟩) ?_
  intro p e s m args below meth c ls hsz hname hF hM hl
  have hl : lv_has ls 7 [(0, va_rf (some a0)), (1, .int x1), (2, .int x2), (3, .int x3)] := by rw [g_args [va_rf (some a0), .int x1, .int x2, .int x3] 0 (List.forall_mem_cons.mpr ⟨rf_cat _, (List.forall_mem_cons.mpr ⟨rfl, (List.forall_mem_cons.mpr ⟨rfl, (List.forall_mem_cons.mpr ⟨rfl, (fun _ h => absurd h List.not_mem_nil)⟩)⟩)⟩)⟩)] at hl; exact hl
  have hF : gF p s m args meth c RX4 cX4_often 7 (some .int) D Y (gA S hs) := hF
  have hx := hF.1
  have hb := hF.2.1
  have Jb38 : ∀ (k13 : Int32 → Int32 → Option Nat → Int32 → Int32 → Option (Int32 ⊕ Nat)) (hk13 : ∀ (x2 : Int32) (x3 : Int32) (x4 : Option Nat) (x5 : Int32) (x6 : Int32), k13 x2 x3 x4 x5 x6 = some (.inl r) → ∀ (H : Heap) (locs : List Loc) (ls : Array Slot), gM D Y (gA S hs) s.heap S hs H locs → lv_has ls 7 [(2, .int x2), (3, .int x3), (4, va_rf x4), (5, .int x5), (6, .int x6)] → W p l e rm_X4_often s m args below meth c H locs 0 0 (MQ below (gQ (some (.int r)) D Y S hs (gA S hs)) args s rm_X4_often.cells rm_X4_often.slots (gA S hs)) (F0 m 13 ls [])) (x2 : Int32) (x3 : Int32) (x4 : Option Nat) (x5 : Int32) (x6 : Int32), f_X4_often_b38 k13 S a0 x2 x3 x4 x5 x6 = some (.inl r) → ∀ (H : Heap) (locs : List Loc) (ls : Array Slot), gM D Y (gA S hs) s.heap S hs H locs → lv_has ls 7 [(2, .int x2), (3, .int x3), (4, va_rf x4), (5, .int x5), (6, .int x6)] → W p l e rm_X4_often s m args below meth c H locs 0 0 (MQ below (gQ (some (.int r)) D Y S hs (gA S hs)) args s rm_X4_often.cells rm_X4_often.slots (gA S hs)) (F0 m 38 ls []) := by
    intro k13 hk13 x2 x3 x4 x5 x6 h H locs ls hM hl
    unfold f_X4_often_b38 at h
    refine lv_iinc (v := (x6 + 1)) (lv' := [(6, .int (x6 + 1)), (2, .int x2), (3, .int x3), (4, va_rf x4), (5, .int x5)]) hx hb dX4_often_38 hl (k := 4) rfl rfl (by decide) rfl (fun ls hl => ?_)
    refine lv_goto (tgt := 13) hx hb dX4_often_41 (by decide) ?_
    refine W.widen (k := 0) (n := 0) (Nat.le_of_ble_eq_true rfl) (Nat.le_of_ble_eq_true rfl) ?_
    exact hk13 _ _ _ _ _ h _ _ _ hM (lv_sub hl [1, 2, 3, 4, 0] rfl)
  have JL13 : ∀ (n : Nat) (x2 : Int32) (x3 : Int32) (x4 : Option Nat) (x5 : Int32) (x6 : Int32), f_X4_often_L13 S a0 n x2 x3 x4 x5 x6 = some (.inl r) → ∀ (H : Heap) (locs : List Loc) (ls : Array Slot), gM D Y (gA S hs) s.heap S hs H locs → lv_has ls 7 [(2, .int x2), (3, .int x3), (4, va_rf x4), (5, .int x5), (6, .int x6)] → W p l e rm_X4_often s m args below meth c H locs 0 0 (MQ below (gQ (some (.int r)) D Y S hs (gA S hs)) args s rm_X4_often.cells rm_X4_often.slots (gA S hs)) (F0 m 13 ls []) := by
    intro n
    induction n with
    | zero => intro x2 x3 x4 x5 x6 h; unfold f_X4_often_L13 at h; exact nomatch h
    | succ n ih =>
      intro x2 x3 x4 x5 x6 h H locs ls hM hl
      unfold f_X4_often_L13 at h
      refine lv_iload hx hb dX4_often_13 (lv_at hl 4 rfl) ?_
      refine g_aload hx hb dX4_often_15 (lv_at hl 2 rfl) ?_
      have g := gbind h
      clear h
      obtain ⟨a6, e7, h⟩ := g
      have t8 := (gtk_of e7).2
      rw [(gtk_of e7).1]
      have g := gbind h
      clear h
      obtain ⟨v10, e9, h⟩ := g
      refine g_callV (As := []) (rest := [.int x6]) hF hM (c_X1_count e9) k_X1_count u195 u196 u197 rfl rfl t8 rfl hl.1 rfl (Nat.le_of_ble_eq_true rfl) dX4_often_17 ⟨(Nat.le_of_ble_eq_true rfl), (Nat.le_of_ble_eq_true rfl)⟩ ⟨(Nat.le_of_ble_eq_true rfl), (Nat.le_of_ble_eq_true rfl)⟩ (fun H locs hM => ?_)
      refine lv_icmp_ge (tgt := 44) hx hb dX4_often_20 (by decide) (fun c11 => ?_) (fun c11 => ?_)
      · replace h := (if_pos c11).symm.trans h
        refine lv_iload hx hb dX4_often_44 (lv_at hl 3 rfl) ?_
        rw [← (Sum.inl.inj (Option.some.inj h))]
        exact g_iret hF hM rfl rfl dX4_often_46 (Nat.le_of_ble_eq_true rfl) (Nat.le_of_ble_eq_true rfl)
      · replace h := (if_neg c11).symm.trans h
        refine g_aload hx hb dX4_often_23 (lv_at hl 2 rfl) ?_
        refine lv_iload hx hb dX4_often_25 (lv_at hl 4 rfl) ?_
        refine lv_iload_n hx hb dX4_often_27 rfl (lv_at hl 0 rfl) ?_
        refine lv_iload_n hx hb dX4_often_28 rfl (lv_at hl 1 rfl) ?_
        have g := gbind h
        clear h
        obtain ⟨a12, e13, h⟩ := g
        have t14 := (gtk_of e13).2
        rw [(gtk_of e13).1]
        have g := gbind h
        clear h
        obtain ⟨v16, e15, h⟩ := g
        refine g_callV (As := [.int x6, .int x2, .int x3]) (rest := []) hF hM (c_X1_isThing e15) k_X1_isThing u946 u720 u721 rfl rfl t14 rfl hl.1 rfl (Nat.le_of_ble_eq_true rfl) dX4_often_29 ⟨(Nat.le_of_ble_eq_true rfl), (Nat.le_of_ble_eq_true rfl)⟩ ⟨(Nat.le_of_ble_eq_true rfl), (Nat.le_of_ble_eq_true rfl)⟩ (fun H locs hM => ?_)
        refine lv_if_eq (tgt := 38) hx hb dX4_often_32 (by decide) (fun c17 => ?_) (fun c17 => ?_)
        · replace h := (if_pos c17).symm.trans h
          refine W.widen (k := 0) (n := 0) (Nat.le_of_ble_eq_true rfl) (Nat.le_of_ble_eq_true rfl) ?_
          exact Jb38 _ ih _ _ _ _ _ h _ _ _ hM (lv_sub hl [0, 1, 2, 3, 4] rfl)
        · replace h := (if_neg c17).symm.trans h
          refine lv_iinc (v := (x5 + 1)) (lv' := [(5, .int (x5 + 1)), (2, .int x2), (3, .int x3), (4, va_rf x4), (6, .int x6)]) hx hb dX4_often_35 hl (k := 3) rfl rfl (by decide) (by simp [rf_cat, ic_cat, lc_cat]) (fun ls hl => ?_)
          refine W.widen (k := 0) (n := 0) (Nat.le_of_ble_eq_true rfl) (Nat.le_of_ble_eq_true rfl) ?_
          exact Jb38 _ ih _ _ _ _ _ h _ _ _ hM (lv_sub hl [1, 2, 3, 0, 4] rfl)
  unfold f_X4_often at h
  refine g_aload_n hx hb dX4_often_0 rfl (lv_at hl 0 rfl) ?_
  refine lv_iload_n hx hb dX4_often_1 rfl (lv_at hl 1 rfl) ?_
  have g := gckE h
  clear h
  obtain ⟨t1, h⟩ := g
  have t1 := eq_of_beq t1
  have g := gthE h
  clear h
  rcases g with ⟨v3, e2, h⟩ | ⟨y4, e2, z5⟩
  · refine g_callV (As := [.int x1]) (rest := []) hF hM (c_X4_needRow e2) k_X4_needRow u807 u809 u20 rfl rfl t1 rfl hl.1 rfl (Nat.le_of_ble_eq_true rfl) dX4_often_2 ⟨(Nat.le_of_ble_eq_true rfl), (Nat.le_of_ble_eq_true rfl)⟩ ⟨(Nat.le_of_ble_eq_true rfl), (Nat.le_of_ble_eq_true rfl)⟩ (fun H locs hM => ?_)
    refine g_astore (i := 4) (lv' := [(0, va_rf (some a0)), (1, .int x1), (2, .int x2), (3, .int x3)]) hx hb dX4_often_5 hl (by decide) (fun v => rfl) (fun ls hl => ?_)
    refine lv_iconst (v := 0) hx hb dX4_often_7 (by decide) ?_
    refine lv_istore (i := 5) (lv' := [(5, .int 0), (4, va_rf v3), (0, va_rf (some a0)), (1, .int x1), (2, .int x2), (3, .int x3)]) hx hb dX4_often_8 hl (by decide) (by simp [rf_cat, ic_cat, lc_cat]) (fun ls hl => ?_)
    refine lv_iconst (v := 0) hx hb dX4_often_10 (by decide) ?_
    refine lv_istore (i := 6) (lv' := [(6, .int 0), (5, .int 0), (4, va_rf v3), (0, va_rf (some a0)), (1, .int x1), (2, .int x2), (3, .int x3)]) hx hb dX4_often_11 hl (by decide) rfl (fun ls hl => ?_)
    refine W.widen (k := 0) (n := 0) (Nat.le_of_ble_eq_true rfl) (Nat.le_of_ble_eq_true rfl) ?_
    exact JL13 gN _ _ _ _ _ h _ _ _ hM (lv_sub hl [5, 6, 2, 1, 0] rfl)
  · exact nomatch z5
abbrev rmx_X4_often : Room := { frames := 8, cells := 1, slots := 6, locals := 132 }
set_option maxHeartbeats 4000000 in
set_option maxRecDepth 100000 in
theorem cx_X4_often {l : Launch} {D : va_G} {Y : Nat → ClassId} {S : GS} {hs : Nat} {a0 : Nat} {x1 : Int32} {x2 : Int32} {x3 : Int32} {x : Nat} (hfl : l.stackTraces = false) (h : f_X4_often S a0 x1 x2 x3 = some (.inr x)) : gMx l yX4_often (gWs yX4_often cX4_often 7 (some .int)) rmx_X4_often [va_rf (some a0), .int x1, .int x2, .int x3] D Y S hs (.inr x) := by
  refine g_ofWx (by decide +kernel) (Or.inl ⟨(Nat.le_of_ble_eq_true rfl), (List.forall_mem_cons.mpr ⟨rf_cat _, (List.forall_mem_cons.mpr ⟨rfl, (List.forall_mem_cons.mpr ⟨rfl, (List.forall_mem_cons.mpr ⟨rfl, (fun _ h => absurd h List.not_mem_nil)⟩)⟩)⟩)⟩)⟩) ?_
  intro p e s m args below meth c ls hsz hout hF hM hl
  have hl : lv_has ls 7 [(0, va_rf (some a0)), (1, .int x1), (2, .int x2), (3, .int x3)] := by rw [g_args [va_rf (some a0), .int x1, .int x2, .int x3] 0 (List.forall_mem_cons.mpr ⟨rf_cat _, (List.forall_mem_cons.mpr ⟨rfl, (List.forall_mem_cons.mpr ⟨rfl, (List.forall_mem_cons.mpr ⟨rfl, (fun _ h => absurd h List.not_mem_nil)⟩)⟩)⟩)⟩)] at hl; exact hl
  have hF : gF p s m args meth c RX4 cX4_often 7 (some .int) D Y (gA S hs) := hF
  have hx := hF.1
  have hb := hF.2.1
  have Jb38 : ∀ (k13 : Int32 → Int32 → Option Nat → Int32 → Int32 → Option (Int32 ⊕ Nat)) (hk13 : ∀ (x2 : Int32) (x3 : Int32) (x4 : Option Nat) (x5 : Int32) (x6 : Int32), k13 x2 x3 x4 x5 x6 = some (.inr x) → ∀ (H : Heap) (locs : List Loc) (ls : Array Slot), gM D Y (gA S hs) s.heap S hs H locs → lv_has ls 7 [(2, .int x2), (3, .int x3), (4, va_rf x4), (5, .int x5), (6, .int x6)] → W p l e rmx_X4_often s m args below meth c H locs 0 0 (vx_MQ below (gQz (.inr x) D Y (gA S hs)) (gXz (.inr x) D Y S (gA S hs)) args s rmx_X4_often.cells rmx_X4_often.slots (gA S hs)) (F0 m 13 ls [])) (x2 : Int32) (x3 : Int32) (x4 : Option Nat) (x5 : Int32) (x6 : Int32), f_X4_often_b38 k13 S a0 x2 x3 x4 x5 x6 = some (.inr x) → ∀ (H : Heap) (locs : List Loc) (ls : Array Slot), gM D Y (gA S hs) s.heap S hs H locs → lv_has ls 7 [(2, .int x2), (3, .int x3), (4, va_rf x4), (5, .int x5), (6, .int x6)] → W p l e rmx_X4_often s m args below meth c H locs 0 0 (vx_MQ below (gQz (.inr x) D Y (gA S hs)) (gXz (.inr x) D Y S (gA S hs)) args s rmx_X4_often.cells rmx_X4_often.slots (gA S hs)) (F0 m 38 ls []) := by
    intro k13 hk13 x2 x3 x4 x5 x6 h H locs ls hM hl
    unfold f_X4_often_b38 at h
    refine lv_iinc (v := (x6 + 1)) (lv' := [(6, .int (x6 + 1)), (2, .int x2), (3, .int x3), (4, va_rf x4), (5, .int x5)]) hx hb dX4_often_38 hl (k := 4) rfl rfl (by decide) rfl (fun ls hl => ?_)
    refine lv_goto (tgt := 13) hx hb dX4_often_41 (by decide) ?_
    refine W.widen (k := 0) (n := 0) (Nat.le_of_ble_eq_true rfl) (Nat.le_of_ble_eq_true rfl) ?_
    exact hk13 _ _ _ _ _ h _ _ _ hM (lv_sub hl [1, 2, 3, 4, 0] rfl)
  have JL13 : ∀ (n : Nat) (x2 : Int32) (x3 : Int32) (x4 : Option Nat) (x5 : Int32) (x6 : Int32), f_X4_often_L13 S a0 n x2 x3 x4 x5 x6 = some (.inr x) → ∀ (H : Heap) (locs : List Loc) (ls : Array Slot), gM D Y (gA S hs) s.heap S hs H locs → lv_has ls 7 [(2, .int x2), (3, .int x3), (4, va_rf x4), (5, .int x5), (6, .int x6)] → W p l e rmx_X4_often s m args below meth c H locs 0 0 (vx_MQ below (gQz (.inr x) D Y (gA S hs)) (gXz (.inr x) D Y S (gA S hs)) args s rmx_X4_often.cells rmx_X4_often.slots (gA S hs)) (F0 m 13 ls []) := by
    intro n
    induction n with
    | zero => intro x2 x3 x4 x5 x6 h; unfold f_X4_often_L13 at h; exact nomatch h
    | succ n ih =>
      intro x2 x3 x4 x5 x6 h H locs ls hM hl
      unfold f_X4_often_L13 at h
      refine lv_iload hx hb dX4_often_13 (lv_at hl 4 rfl) ?_
      refine g_aload hx hb dX4_often_15 (lv_at hl 2 rfl) ?_
      have g := gbind h
      clear h
      obtain ⟨a6, e7, h⟩ := g
      have t8 := (gtk_of e7).2
      rw [(gtk_of e7).1]
      have g := gbind h
      clear h
      obtain ⟨v10, e9, h⟩ := g
      refine g_callV (As := []) (rest := [.int x6]) hF hM (c_X1_count e9) k_X1_count u195 u196 u197 rfl rfl t8 rfl hl.1 rfl (Nat.le_of_ble_eq_true rfl) dX4_often_17 ⟨(Nat.le_of_ble_eq_true rfl), (Nat.le_of_ble_eq_true rfl)⟩ ⟨(Nat.le_of_ble_eq_true rfl), (Nat.le_of_ble_eq_true rfl)⟩ (fun H locs hM => ?_)
      refine lv_icmp_ge (tgt := 44) hx hb dX4_often_20 (by decide) (fun c11 => ?_) (fun c11 => ?_)
      · replace h := (if_pos c11).symm.trans h
        refine lv_iload hx hb dX4_often_44 (lv_at hl 3 rfl) ?_
        exact nomatch (Option.some.inj h)
      · replace h := (if_neg c11).symm.trans h
        refine g_aload hx hb dX4_often_23 (lv_at hl 2 rfl) ?_
        refine lv_iload hx hb dX4_often_25 (lv_at hl 4 rfl) ?_
        refine lv_iload_n hx hb dX4_often_27 rfl (lv_at hl 0 rfl) ?_
        refine lv_iload_n hx hb dX4_often_28 rfl (lv_at hl 1 rfl) ?_
        have g := gbind h
        clear h
        obtain ⟨a12, e13, h⟩ := g
        have t14 := (gtk_of e13).2
        rw [(gtk_of e13).1]
        have g := gbind h
        clear h
        obtain ⟨v16, e15, h⟩ := g
        refine g_callV (As := [.int x6, .int x2, .int x3]) (rest := []) hF hM (c_X1_isThing e15) k_X1_isThing u946 u720 u721 rfl rfl t14 rfl hl.1 rfl (Nat.le_of_ble_eq_true rfl) dX4_often_29 ⟨(Nat.le_of_ble_eq_true rfl), (Nat.le_of_ble_eq_true rfl)⟩ ⟨(Nat.le_of_ble_eq_true rfl), (Nat.le_of_ble_eq_true rfl)⟩ (fun H locs hM => ?_)
        refine lv_if_eq (tgt := 38) hx hb dX4_often_32 (by decide) (fun c17 => ?_) (fun c17 => ?_)
        · replace h := (if_pos c17).symm.trans h
          refine W.widen (k := 0) (n := 0) (Nat.le_of_ble_eq_true rfl) (Nat.le_of_ble_eq_true rfl) ?_
          exact Jb38 _ ih _ _ _ _ _ h _ _ _ hM (lv_sub hl [0, 1, 2, 3, 4] rfl)
        · replace h := (if_neg c17).symm.trans h
          refine lv_iinc (v := (x5 + 1)) (lv' := [(5, .int (x5 + 1)), (2, .int x2), (3, .int x3), (4, va_rf x4), (6, .int x6)]) hx hb dX4_often_35 hl (k := 3) rfl rfl (by decide) (by simp [rf_cat, ic_cat, lc_cat]) (fun ls hl => ?_)
          refine W.widen (k := 0) (n := 0) (Nat.le_of_ble_eq_true rfl) (Nat.le_of_ble_eq_true rfl) ?_
          exact Jb38 _ ih _ _ _ _ _ h _ _ _ hM (lv_sub hl [1, 2, 3, 0, 4] rfl)
  unfold f_X4_often at h
  refine g_aload_n hx hb dX4_often_0 rfl (lv_at hl 0 rfl) ?_
  refine lv_iload_n hx hb dX4_often_1 rfl (lv_at hl 1 rfl) ?_
  have g := gckE h
  clear h
  obtain ⟨t1, h⟩ := g
  have t1 := eq_of_beq t1
  have g := gthE h
  clear h
  rcases g with ⟨v3, e2, h⟩ | ⟨y4, e2, z5⟩
  · refine g_callV (As := [.int x1]) (rest := []) hF hM (c_X4_needRow e2) k_X4_needRow u807 u809 u20 rfl rfl t1 rfl hl.1 rfl (Nat.le_of_ble_eq_true rfl) dX4_often_2 ⟨(Nat.le_of_ble_eq_true rfl), (Nat.le_of_ble_eq_true rfl)⟩ ⟨(Nat.le_of_ble_eq_true rfl), (Nat.le_of_ble_eq_true rfl)⟩ (fun H locs hM => ?_)
    refine g_astore (i := 4) (lv' := [(0, va_rf (some a0)), (1, .int x1), (2, .int x2), (3, .int x3)]) hx hb dX4_often_5 hl (by decide) (fun v => rfl) (fun ls hl => ?_)
    refine lv_iconst (v := 0) hx hb dX4_often_7 (by decide) ?_
    refine lv_istore (i := 5) (lv' := [(5, .int 0), (4, va_rf v3), (0, va_rf (some a0)), (1, .int x1), (2, .int x2), (3, .int x3)]) hx hb dX4_often_8 hl (by decide) (by simp [rf_cat, ic_cat, lc_cat]) (fun ls hl => ?_)
    refine lv_iconst (v := 0) hx hb dX4_often_10 (by decide) ?_
    refine lv_istore (i := 6) (lv' := [(6, .int 0), (5, .int 0), (4, va_rf v3), (0, va_rf (some a0)), (1, .int x1), (2, .int x2), (3, .int x3)]) hx hb dX4_often_11 hl (by decide) rfl (fun ls hl => ?_)
    refine W.widen (k := 0) (n := 0) (Nat.le_of_ble_eq_true rfl) (Nat.le_of_ble_eq_true rfl) ?_
    exact JL13 gN _ _ _ _ _ h _ _ _ hM (lv_sub hl [5, 6, 2, 1, 0] rfl)
  · exact g_callVt (As := [.int x1]) (rest := []) hF hM hout (cx_X4_needRow hfl e2) k_X4_needRow u807 u809 u20 rfl rfl t1 rfl hl.1 rfl (Nat.le_of_ble_eq_true rfl) dX4_often_2 ⟨(Nat.le_of_ble_eq_true rfl), (Nat.le_of_ble_eq_true rfl)⟩ ⟨(Nat.le_of_ble_eq_true rfl), (Nat.le_of_ble_eq_true rfl)⟩ (Nat.le_of_ble_eq_true rfl) (Nat.le_of_ble_eq_true rfl) (congrArg Sum.inr (Sum.inr.inj z5))
abbrev rm_X4_areApart : Room := { frames := 4, cells := 0, slots := 0, locals := 91 }
theorem k_X4_areApart : gKc yX4_areApart cX4_areApart 6 (some .boolean) 2 := ⟨u953, u63, by decide +kernel, by decide +kernel, by decide +kernel⟩
set_option maxHeartbeats 4000000 in
set_option maxRecDepth 100000 in
theorem c_X4_areApart {l : Launch} {D : va_G} {Y : Nat → ClassId} {S : GS} {hs : Nat} {a0 : Nat} {x1 : Int32} {x2 : Int32} {r : Int32} (h : f_X4_areApart S a0 x1 x2 = some (.inl r)) : gMet l yX4_areApart (gWs yX4_areApart cX4_areApart 6 (some .boolean)) rm_X4_areApart [va_rf (some a0), .int x1, .int x2] D Y S hs (some (.int r)) S hs := by
  refine g_ofW (by decide +kernel) (Or.inl ⟨(Nat.le_of_ble_eq_true rfl), (List.forall_mem_cons.mpr ⟨rf_cat _, (List.forall_mem_cons.mpr ⟨rfl, (List.forall_mem_cons.mpr ⟨rfl, (fun _ h => absurd h List.not_mem_nil)⟩)⟩)⟩)⟩) ?_
  intro p e s m args below meth c ls hsz hname hF hM hl
  have hl : lv_has ls 6 [(0, va_rf (some a0)), (1, .int x1), (2, .int x2)] := by rw [g_args [va_rf (some a0), .int x1, .int x2] 0 (List.forall_mem_cons.mpr ⟨rf_cat _, (List.forall_mem_cons.mpr ⟨rfl, (List.forall_mem_cons.mpr ⟨rfl, (fun _ h => absurd h List.not_mem_nil)⟩)⟩)⟩)] at hl; exact hl
  have hF : gF p s m args meth c RX4 cX4_areApart 6 (some .boolean) D Y (gA S hs) := hF
  have hx := hF.1
  have hb := hF.2.1
  have JL21 : ∀ (n : Nat) (x3 : Option Nat) (x4 : Option Nat) (x5 : Int32), f_X4_areApart_L21 S a0 n x3 x4 x5 = some (.inl r) → ∀ (H : Heap) (locs : List Loc) (ls : Array Slot), gM D Y (gA S hs) s.heap S hs H locs → lv_has ls 6 [(3, va_rf x3), (4, va_rf x4), (5, .int x5)] → W p l e rm_X4_areApart s m args below meth c H locs 0 0 (MQ below (gQ (some (.int r)) D Y S hs (gA S hs)) args s rm_X4_areApart.cells rm_X4_areApart.slots (gA S hs)) (F0 m 21 ls []) := by
    intro n
    induction n with
    | zero => intro x3 x4 x5 h; unfold f_X4_areApart_L21 at h; exact nomatch h
    | succ n ih =>
      intro x3 x4 x5 h H locs ls hM hl
      unfold f_X4_areApart_L21 at h
      refine lv_iload hx hb dX4_areApart_21 (lv_at hl 2 rfl) ?_
      refine g_aload_n hx hb dX4_areApart_23 rfl (lv_at hl 0 rfl) ?_
      have g := gbind h
      clear h
      obtain ⟨a15, e16, h⟩ := g
      have t17 := (gtk_of e16).2
      rw [(gtk_of e16).1]
      have g := gbind h
      clear h
      obtain ⟨v19, e18, h⟩ := g
      refine g_callV (As := []) (rest := [.int x5]) hF hM (c_X1_count e18) k_X1_count u195 u196 u197 rfl rfl t17 rfl hl.1 rfl (Nat.le_of_ble_eq_true rfl) dX4_areApart_24 ⟨(Nat.le_of_ble_eq_true rfl), (Nat.le_of_ble_eq_true rfl)⟩ ⟨(Nat.le_of_ble_eq_true rfl), (Nat.le_of_ble_eq_true rfl)⟩ (fun H locs hM => ?_)
      refine lv_icmp_ge (tgt := 59) hx hb dX4_areApart_27 (by decide) (fun c20 => ?_) (fun c20 => ?_)
      · replace h := (if_pos c20).symm.trans h
        refine lv_iconst (v := 1) hx hb dX4_areApart_59 (by decide) ?_
        rw [← (Sum.inl.inj (Option.some.inj h))]
        exact g_iret hF hM rfl rfl dX4_areApart_60 (Nat.le_of_ble_eq_true rfl) (Nat.le_of_ble_eq_true rfl)
      · replace h := (if_neg c20).symm.trans h
        refine g_aload hx hb dX4_areApart_30 (lv_at hl 1 rfl) ?_
        refine g_aload_n hx hb dX4_areApart_32 rfl (lv_at hl 0 rfl) ?_
        refine lv_iload hx hb dX4_areApart_33 (lv_at hl 2 rfl) ?_
        have g := gbind h
        clear h
        obtain ⟨a21, e22, h⟩ := g
        have t23 := (gtk_of e22).2
        rw [(gtk_of e22).1]
        have g := gbind h
        clear h
        obtain ⟨v25, e24, h⟩ := g
        refine g_callV (As := [.int x5]) (rest := [va_rf x4]) hF hM (c_X1_keyOf e24) k_X1_keyOf u699 u226 u227 rfl rfl t23 rfl hl.1 rfl (by simp [rf_cat, ic_cat, lc_cat]) dX4_areApart_35 ⟨(Nat.le_of_ble_eq_true rfl), (Nat.le_of_ble_eq_true rfl)⟩ ⟨(Nat.le_of_ble_eq_true rfl), (Nat.le_of_ble_eq_true rfl)⟩ (fun H locs hM => ?_)
        refine g_aload_n hx hb dX4_areApart_38 rfl (lv_at hl 0 rfl) ?_
        refine lv_iload hx hb dX4_areApart_39 (lv_at hl 2 rfl) ?_
        have g := gbind h
        clear h
        obtain ⟨a26, e27, h⟩ := g
        have t28 := (gtk_of e27).2
        rw [(gtk_of e27).1]
        have g := gbind h
        clear h
        obtain ⟨v30, e29, h⟩ := g
        refine g_callV (As := [.int x5]) (rest := [.int v25, va_rf x4]) hF hM (c_X1_markOf e29) k_X1_markOf u707 u234 u235 rfl rfl t28 rfl hl.1 rfl (by simp [rf_cat, ic_cat, lc_cat]) dX4_areApart_41 ⟨(Nat.le_of_ble_eq_true rfl), (Nat.le_of_ble_eq_true rfl)⟩ ⟨(Nat.le_of_ble_eq_true rfl), (Nat.le_of_ble_eq_true rfl)⟩ (fun H locs hM => ?_)
        refine lv_iconst (v := 0) hx hb dX4_areApart_44 (by decide) ?_
        have g := gbind h
        clear h
        obtain ⟨a31, e32, h⟩ := g
        have t33 := (gtk_of e32).2
        rw [(gtk_of e32).1]
        have g := gbind h
        clear h
        obtain ⟨v35, e34, h⟩ := g
        refine g_callV (As := [.int v25, .int v30, .int 0]) (rest := []) hF hM (c_X1_find e34) k_X1_find u715 u716 u717 rfl rfl t33 rfl hl.1 rfl (Nat.le_of_ble_eq_true rfl) dX4_areApart_45 ⟨(Nat.le_of_ble_eq_true rfl), (Nat.le_of_ble_eq_true rfl)⟩ ⟨(Nat.le_of_ble_eq_true rfl), (Nat.le_of_ble_eq_true rfl)⟩ (fun H locs hM => ?_)
        refine lv_if_lt (tgt := 53) hx hb dX4_areApart_48 (by decide) (fun c36 => ?_) (fun c36 => ?_)
        · replace h := (if_pos c36).symm.trans h
          refine lv_iinc (v := (x5 + 1)) (lv' := [(5, .int (x5 + 1)), (3, va_rf x3), (4, va_rf x4)]) hx hb dX4_areApart_53 hl (k := 2) rfl rfl (by decide) (by simp [rf_cat, ic_cat, lc_cat]) (fun ls hl => ?_)
          refine lv_goto (tgt := 21) hx hb dX4_areApart_56 (by decide) ?_
          refine W.widen (k := 0) (n := 0) (Nat.le_of_ble_eq_true rfl) (Nat.le_of_ble_eq_true rfl) ?_
          exact ih _ _ _ h _ _ _ hM (lv_sub hl [1, 2, 0] rfl)
        · replace h := (if_neg c36).symm.trans h
          refine lv_iconst (v := 0) hx hb dX4_areApart_51 (by decide) ?_
          rw [← (Sum.inl.inj (Option.some.inj h))]
          exact g_iret hF hM rfl rfl dX4_areApart_52 (Nat.le_of_ble_eq_true rfl) (Nat.le_of_ble_eq_true rfl)
  unfold f_X4_areApart at h
  refine lv_iload_n hx hb dX4_areApart_0 rfl (lv_at hl 1 rfl) ?_
  refine lv_iload_n hx hb dX4_areApart_1 rfl (lv_at hl 2 rfl) ?_
  have g := gthE h
  clear h
  rcases g with ⟨w2, e1, h⟩ | ⟨y3, e1, z4⟩
  · refine g_callS (As := [.int x1, .int x2]) (rest := []) hF hM (c_X4_needSlots e1) k_X4_needSlots u844 u845 rfl hl.1 rfl (Nat.le_of_ble_eq_true rfl) dX4_areApart_2 ⟨(Nat.le_of_ble_eq_true rfl), (Nat.le_of_ble_eq_true rfl)⟩ ⟨(Nat.le_of_ble_eq_true rfl), (Nat.le_of_ble_eq_true rfl)⟩ (fun H locs hM => ?_)
    refine g_aload_n hx hb dX4_areApart_5 rfl (lv_at hl 0 rfl) ?_
    refine lv_iload_n hx hb dX4_areApart_6 rfl (lv_at hl 1 rfl) ?_
    have g := gckE h
    clear h
    obtain ⟨t5, h⟩ := g
    have t5 := eq_of_beq t5
    have g := gthE h
    clear h
    rcases g with ⟨v7, e6, h⟩ | ⟨y8, e6, z9⟩
    · refine g_callV (As := [.int x1]) (rest := []) hF hM (c_X4_needRow e6) k_X4_needRow u807 u809 u20 rfl rfl t5 rfl hl.1 rfl (Nat.le_of_ble_eq_true rfl) dX4_areApart_7 ⟨(Nat.le_of_ble_eq_true rfl), (Nat.le_of_ble_eq_true rfl)⟩ ⟨(Nat.le_of_ble_eq_true rfl), (Nat.le_of_ble_eq_true rfl)⟩ (fun H locs hM => ?_)
      refine g_astore_n (i := 3) (lv' := [(0, va_rf (some a0)), (1, .int x1), (2, .int x2)]) hx hb dX4_areApart_10 rfl hl (by decide) (fun v => rfl) (fun ls hl => ?_)
      refine g_aload_n hx hb dX4_areApart_11 rfl (lv_at hl 1 rfl) ?_
      refine lv_iload_n hx hb dX4_areApart_12 rfl (lv_at hl 3 rfl) ?_
      have g := gckE h
      clear h
      obtain ⟨t10, h⟩ := g
      have t10 := eq_of_beq t10
      have g := gthE h
      clear h
      rcases g with ⟨v12, e11, h⟩ | ⟨y13, e11, z14⟩
      · refine g_callV (As := [.int x2]) (rest := []) hF hM (c_X4_needRow e11) k_X4_needRow u807 u809 u20 rfl rfl t10 rfl hl.1 rfl (Nat.le_of_ble_eq_true rfl) dX4_areApart_13 ⟨(Nat.le_of_ble_eq_true rfl), (Nat.le_of_ble_eq_true rfl)⟩ ⟨(Nat.le_of_ble_eq_true rfl), (Nat.le_of_ble_eq_true rfl)⟩ (fun H locs hM => ?_)
        refine g_astore (i := 4) (lv' := [(3, va_rf v7), (0, va_rf (some a0)), (1, .int x1), (2, .int x2)]) hx hb dX4_areApart_16 hl (by decide) (fun v => by simp [rf_cat, ic_cat, lc_cat]) (fun ls hl => ?_)
        refine lv_iconst (v := 0) hx hb dX4_areApart_18 (by decide) ?_
        refine lv_istore (i := 5) (lv' := [(5, .int 0), (4, va_rf v12), (3, va_rf v7), (0, va_rf (some a0)), (1, .int x1), (2, .int x2)]) hx hb dX4_areApart_19 hl (by decide) (by simp [rf_cat, ic_cat, lc_cat]) (fun ls hl => ?_)
        refine W.widen (k := 0) (n := 0) (Nat.le_of_ble_eq_true rfl) (Nat.le_of_ble_eq_true rfl) ?_
        exact JL21 gN _ _ _ h _ _ _ hM (lv_sub hl [2, 1, 0] rfl)
      · exact nomatch z14
    · exact nomatch z9
  · exact nomatch z4
abbrev rmx_X4_areApart : Room := { frames := 8, cells := 1, slots := 6, locals := 132 }
set_option maxHeartbeats 4000000 in
set_option maxRecDepth 100000 in
theorem cx_X4_areApart {l : Launch} {D : va_G} {Y : Nat → ClassId} {S : GS} {hs : Nat} {a0 : Nat} {x1 : Int32} {x2 : Int32} {x : Nat} (hfl : l.stackTraces = false) (h : f_X4_areApart S a0 x1 x2 = some (.inr x)) : gMx l yX4_areApart (gWs yX4_areApart cX4_areApart 6 (some .boolean)) rmx_X4_areApart [va_rf (some a0), .int x1, .int x2] D Y S hs (.inr x) := by
  refine g_ofWx (by decide +kernel) (Or.inl ⟨(Nat.le_of_ble_eq_true rfl), (List.forall_mem_cons.mpr ⟨rf_cat _, (List.forall_mem_cons.mpr ⟨rfl, (List.forall_mem_cons.mpr ⟨rfl, (fun _ h => absurd h List.not_mem_nil)⟩)⟩)⟩)⟩) ?_
  intro p e s m args below meth c ls hsz hout hF hM hl
  have hl : lv_has ls 6 [(0, va_rf (some a0)), (1, .int x1), (2, .int x2)] := by rw [g_args [va_rf (some a0), .int x1, .int x2] 0 (List.forall_mem_cons.mpr ⟨rf_cat _, (List.forall_mem_cons.mpr ⟨rfl, (List.forall_mem_cons.mpr ⟨rfl, (fun _ h => absurd h List.not_mem_nil)⟩)⟩)⟩)] at hl; exact hl
  have hF : gF p s m args meth c RX4 cX4_areApart 6 (some .boolean) D Y (gA S hs) := hF
  have hx := hF.1
  have hb := hF.2.1
  have JL21 : ∀ (n : Nat) (x3 : Option Nat) (x4 : Option Nat) (x5 : Int32), f_X4_areApart_L21 S a0 n x3 x4 x5 = some (.inr x) → ∀ (H : Heap) (locs : List Loc) (ls : Array Slot), gM D Y (gA S hs) s.heap S hs H locs → lv_has ls 6 [(3, va_rf x3), (4, va_rf x4), (5, .int x5)] → W p l e rmx_X4_areApart s m args below meth c H locs 0 0 (vx_MQ below (gQz (.inr x) D Y (gA S hs)) (gXz (.inr x) D Y S (gA S hs)) args s rmx_X4_areApart.cells rmx_X4_areApart.slots (gA S hs)) (F0 m 21 ls []) := by
    intro n
    induction n with
    | zero => intro x3 x4 x5 h; unfold f_X4_areApart_L21 at h; exact nomatch h
    | succ n ih =>
      intro x3 x4 x5 h H locs ls hM hl
      unfold f_X4_areApart_L21 at h
      refine lv_iload hx hb dX4_areApart_21 (lv_at hl 2 rfl) ?_
      refine g_aload_n hx hb dX4_areApart_23 rfl (lv_at hl 0 rfl) ?_
      have g := gbind h
      clear h
      obtain ⟨a15, e16, h⟩ := g
      have t17 := (gtk_of e16).2
      rw [(gtk_of e16).1]
      have g := gbind h
      clear h
      obtain ⟨v19, e18, h⟩ := g
      refine g_callV (As := []) (rest := [.int x5]) hF hM (c_X1_count e18) k_X1_count u195 u196 u197 rfl rfl t17 rfl hl.1 rfl (Nat.le_of_ble_eq_true rfl) dX4_areApart_24 ⟨(Nat.le_of_ble_eq_true rfl), (Nat.le_of_ble_eq_true rfl)⟩ ⟨(Nat.le_of_ble_eq_true rfl), (Nat.le_of_ble_eq_true rfl)⟩ (fun H locs hM => ?_)
      refine lv_icmp_ge (tgt := 59) hx hb dX4_areApart_27 (by decide) (fun c20 => ?_) (fun c20 => ?_)
      · replace h := (if_pos c20).symm.trans h
        refine lv_iconst (v := 1) hx hb dX4_areApart_59 (by decide) ?_
        exact nomatch (Option.some.inj h)
      · replace h := (if_neg c20).symm.trans h
        refine g_aload hx hb dX4_areApart_30 (lv_at hl 1 rfl) ?_
        refine g_aload_n hx hb dX4_areApart_32 rfl (lv_at hl 0 rfl) ?_
        refine lv_iload hx hb dX4_areApart_33 (lv_at hl 2 rfl) ?_
        have g := gbind h
        clear h
        obtain ⟨a21, e22, h⟩ := g
        have t23 := (gtk_of e22).2
        rw [(gtk_of e22).1]
        have g := gbind h
        clear h
        obtain ⟨v25, e24, h⟩ := g
        refine g_callV (As := [.int x5]) (rest := [va_rf x4]) hF hM (c_X1_keyOf e24) k_X1_keyOf u699 u226 u227 rfl rfl t23 rfl hl.1 rfl (by simp [rf_cat, ic_cat, lc_cat]) dX4_areApart_35 ⟨(Nat.le_of_ble_eq_true rfl), (Nat.le_of_ble_eq_true rfl)⟩ ⟨(Nat.le_of_ble_eq_true rfl), (Nat.le_of_ble_eq_true rfl)⟩ (fun H locs hM => ?_)
        refine g_aload_n hx hb dX4_areApart_38 rfl (lv_at hl 0 rfl) ?_
        refine lv_iload hx hb dX4_areApart_39 (lv_at hl 2 rfl) ?_
        have g := gbind h
        clear h
        obtain ⟨a26, e27, h⟩ := g
        have t28 := (gtk_of e27).2
        rw [(gtk_of e27).1]
        have g := gbind h
        clear h
        obtain ⟨v30, e29, h⟩ := g
        refine g_callV (As := [.int x5]) (rest := [.int v25, va_rf x4]) hF hM (c_X1_markOf e29) k_X1_markOf u707 u234 u235 rfl rfl t28 rfl hl.1 rfl (by simp [rf_cat, ic_cat, lc_cat]) dX4_areApart_41 ⟨(Nat.le_of_ble_eq_true rfl), (Nat.le_of_ble_eq_true rfl)⟩ ⟨(Nat.le_of_ble_eq_true rfl), (Nat.le_of_ble_eq_true rfl)⟩ (fun H locs hM => ?_)
        refine lv_iconst (v := 0) hx hb dX4_areApart_44 (by decide) ?_
        have g := gbind h
        clear h
        obtain ⟨a31, e32, h⟩ := g
        have t33 := (gtk_of e32).2
        rw [(gtk_of e32).1]
        have g := gbind h
        clear h
        obtain ⟨v35, e34, h⟩ := g
        refine g_callV (As := [.int v25, .int v30, .int 0]) (rest := []) hF hM (c_X1_find e34) k_X1_find u715 u716 u717 rfl rfl t33 rfl hl.1 rfl (Nat.le_of_ble_eq_true rfl) dX4_areApart_45 ⟨(Nat.le_of_ble_eq_true rfl), (Nat.le_of_ble_eq_true rfl)⟩ ⟨(Nat.le_of_ble_eq_true rfl), (Nat.le_of_ble_eq_true rfl)⟩ (fun H locs hM => ?_)
        refine lv_if_lt (tgt := 53) hx hb dX4_areApart_48 (by decide) (fun c36 => ?_) (fun c36 => ?_)
        · replace h := (if_pos c36).symm.trans h
          refine lv_iinc (v := (x5 + 1)) (lv' := [(5, .int (x5 + 1)), (3, va_rf x3), (4, va_rf x4)]) hx hb dX4_areApart_53 hl (k := 2) rfl rfl (by decide) (by simp [rf_cat, ic_cat, lc_cat]) (fun ls hl => ?_)
          refine lv_goto (tgt := 21) hx hb dX4_areApart_56 (by decide) ?_
          refine W.widen (k := 0) (n := 0) (Nat.le_of_ble_eq_true rfl) (Nat.le_of_ble_eq_true rfl) ?_
          exact ih _ _ _ h _ _ _ hM (lv_sub hl [1, 2, 0] rfl)
        · replace h := (if_neg c36).symm.trans h
          refine lv_iconst (v := 0) hx hb dX4_areApart_51 (by decide) ?_
          exact nomatch (Option.some.inj h)
  unfold f_X4_areApart at h
  refine lv_iload_n hx hb dX4_areApart_0 rfl (lv_at hl 1 rfl) ?_
  refine lv_iload_n hx hb dX4_areApart_1 rfl (lv_at hl 2 rfl) ?_
  have g := gthE h
  clear h
  rcases g with ⟨w2, e1, h⟩ | ⟨y3, e1, z4⟩
  · refine g_callS (As := [.int x1, .int x2]) (rest := []) hF hM (c_X4_needSlots e1) k_X4_needSlots u844 u845 rfl hl.1 rfl (Nat.le_of_ble_eq_true rfl) dX4_areApart_2 ⟨(Nat.le_of_ble_eq_true rfl), (Nat.le_of_ble_eq_true rfl)⟩ ⟨(Nat.le_of_ble_eq_true rfl), (Nat.le_of_ble_eq_true rfl)⟩ (fun H locs hM => ?_)
    refine g_aload_n hx hb dX4_areApart_5 rfl (lv_at hl 0 rfl) ?_
    refine lv_iload_n hx hb dX4_areApart_6 rfl (lv_at hl 1 rfl) ?_
    have g := gckE h
    clear h
    obtain ⟨t5, h⟩ := g
    have t5 := eq_of_beq t5
    have g := gthE h
    clear h
    rcases g with ⟨v7, e6, h⟩ | ⟨y8, e6, z9⟩
    · refine g_callV (As := [.int x1]) (rest := []) hF hM (c_X4_needRow e6) k_X4_needRow u807 u809 u20 rfl rfl t5 rfl hl.1 rfl (Nat.le_of_ble_eq_true rfl) dX4_areApart_7 ⟨(Nat.le_of_ble_eq_true rfl), (Nat.le_of_ble_eq_true rfl)⟩ ⟨(Nat.le_of_ble_eq_true rfl), (Nat.le_of_ble_eq_true rfl)⟩ (fun H locs hM => ?_)
      refine g_astore_n (i := 3) (lv' := [(0, va_rf (some a0)), (1, .int x1), (2, .int x2)]) hx hb dX4_areApart_10 rfl hl (by decide) (fun v => rfl) (fun ls hl => ?_)
      refine g_aload_n hx hb dX4_areApart_11 rfl (lv_at hl 1 rfl) ?_
      refine lv_iload_n hx hb dX4_areApart_12 rfl (lv_at hl 3 rfl) ?_
      have g := gckE h
      clear h
      obtain ⟨t10, h⟩ := g
      have t10 := eq_of_beq t10
      have g := gthE h
      clear h
      rcases g with ⟨v12, e11, h⟩ | ⟨y13, e11, z14⟩
      · refine g_callV (As := [.int x2]) (rest := []) hF hM (c_X4_needRow e11) k_X4_needRow u807 u809 u20 rfl rfl t10 rfl hl.1 rfl (Nat.le_of_ble_eq_true rfl) dX4_areApart_13 ⟨(Nat.le_of_ble_eq_true rfl), (Nat.le_of_ble_eq_true rfl)⟩ ⟨(Nat.le_of_ble_eq_true rfl), (Nat.le_of_ble_eq_true rfl)⟩ (fun H locs hM => ?_)
        refine g_astore (i := 4) (lv' := [(3, va_rf v7), (0, va_rf (some a0)), (1, .int x1), (2, .int x2)]) hx hb dX4_areApart_16 hl (by decide) (fun v => by simp [rf_cat, ic_cat, lc_cat]) (fun ls hl => ?_)
        refine lv_iconst (v := 0) hx hb dX4_areApart_18 (by decide) ?_
        refine lv_istore (i := 5) (lv' := [(5, .int 0), (4, va_rf v12), (3, va_rf v7), (0, va_rf (some a0)), (1, .int x1), (2, .int x2)]) hx hb dX4_areApart_19 hl (by decide) (by simp [rf_cat, ic_cat, lc_cat]) (fun ls hl => ?_)
        refine W.widen (k := 0) (n := 0) (Nat.le_of_ble_eq_true rfl) (Nat.le_of_ble_eq_true rfl) ?_
        exact JL21 gN _ _ _ h _ _ _ hM (lv_sub hl [2, 1, 0] rfl)
      · exact g_callVt (As := [.int x2]) (rest := []) hF hM hout (cx_X4_needRow hfl e11) k_X4_needRow u807 u809 u20 rfl rfl t10 rfl hl.1 rfl (Nat.le_of_ble_eq_true rfl) dX4_areApart_13 ⟨(Nat.le_of_ble_eq_true rfl), (Nat.le_of_ble_eq_true rfl)⟩ ⟨(Nat.le_of_ble_eq_true rfl), (Nat.le_of_ble_eq_true rfl)⟩ (Nat.le_of_ble_eq_true rfl) (Nat.le_of_ble_eq_true rfl) (congrArg Sum.inr (Sum.inr.inj z14))
    · exact g_callVt (As := [.int x1]) (rest := []) hF hM hout (cx_X4_needRow hfl e6) k_X4_needRow u807 u809 u20 rfl rfl t5 rfl hl.1 rfl (Nat.le_of_ble_eq_true rfl) dX4_areApart_7 ⟨(Nat.le_of_ble_eq_true rfl), (Nat.le_of_ble_eq_true rfl)⟩ ⟨(Nat.le_of_ble_eq_true rfl), (Nat.le_of_ble_eq_true rfl)⟩ (Nat.le_of_ble_eq_true rfl) (Nat.le_of_ble_eq_true rfl) (congrArg Sum.inr (Sum.inr.inj z9))
  · exact g_callSt (As := [.int x1, .int x2]) (rest := []) hF hM hout (cx_X4_needSlots hfl e1) k_X4_needSlots u844 u845 rfl hl.1 rfl (Nat.le_of_ble_eq_true rfl) dX4_areApart_2 ⟨(Nat.le_of_ble_eq_true rfl), (Nat.le_of_ble_eq_true rfl)⟩ ⟨(Nat.le_of_ble_eq_true rfl), (Nat.le_of_ble_eq_true rfl)⟩ (Nat.le_of_ble_eq_true rfl) (Nat.le_of_ble_eq_true rfl) (congrArg Sum.inr (Sum.inr.inj z4))
abbrev rm_X4_end : Room := { frames := 3, cells := 0, slots := 0, locals := 62 }
theorem k_X4_end : gKc yX4_end cX4_end 6 (some .int) 2 := ⟨u960, u63, by decide +kernel, by decide +kernel, by decide +kernel⟩
set_option maxHeartbeats 4000000 in
set_option maxRecDepth 100000 in
theorem c_X4_end {l : Launch} {D : va_G} {Y : Nat → ClassId} {S : GS} {hs : Nat} {a0 : Nat} {x1 : Int32} {x2 : Int32} {r : Int32} (h : f_X4_end S a0 x1 x2 = some (.inl r)) : gMet l yX4_end (gWs yX4_end cX4_end 6 (some .int)) rm_X4_end [va_rf (some a0), .int x1, .int x2] D Y S hs (some (.int r)) S hs := by
  refine g_ofW (by decide +kernel) (Or.inl ⟨(Nat.le_of_ble_eq_true rfl), (List.forall_mem_cons.mpr ⟨rf_cat _, (List.forall_mem_cons.mpr ⟨rfl, (List.forall_mem_cons.mpr ⟨rfl, (fun _ h => absurd h List.not_mem_nil)⟩)⟩)⟩)⟩) ?_
  intro p e s m args below meth c ls hsz hname hF hM hl
  have hl : lv_has ls 6 [(0, va_rf (some a0)), (1, .int x1), (2, .int x2)] := by rw [g_args [va_rf (some a0), .int x1, .int x2] 0 (List.forall_mem_cons.mpr ⟨rf_cat _, (List.forall_mem_cons.mpr ⟨rfl, (List.forall_mem_cons.mpr ⟨rfl, (fun _ h => absurd h List.not_mem_nil)⟩)⟩)⟩)] at hl; exact hl
  have hF : gF p s m args meth c RX4 cX4_end 6 (some .int) D Y (gA S hs) := hF
  have hx := hF.1
  have hb := hF.2.1
  have Jb69 : ∀ (k31 : Int32 → Option Nat → Int32 → Int32 → Option (Int32 ⊕ Nat)) (hk31 : ∀ (x2 : Int32) (x3 : Option Nat) (x4 : Int32) (x5 : Int32), k31 x2 x3 x4 x5 = some (.inl r) → ∀ (H : Heap) (locs : List Loc) (ls : Array Slot), gM D Y (gA S hs) s.heap S hs H locs → lv_has ls 6 [(2, .int x2), (3, va_rf x3), (4, .int x4), (5, .int x5)] → W p l e rm_X4_end s m args below meth c H locs 0 0 (MQ below (gQ (some (.int r)) D Y S hs (gA S hs)) args s rm_X4_end.cells rm_X4_end.slots (gA S hs)) (F0 m 31 ls [])) (x2 : Int32) (x3 : Option Nat) (x5 : Int32) (s0 : Int32), f_X4_end_b69 k31 S a0 x2 x3 x5 s0 = some (.inl r) → ∀ (H : Heap) (locs : List Loc) (ls : Array Slot), gM D Y (gA S hs) s.heap S hs H locs → lv_has ls 6 [(2, .int x2), (3, va_rf x3), (5, .int x5)] → W p l e rm_X4_end s m args below meth c H locs 0 0 (MQ below (gQ (some (.int r)) D Y S hs (gA S hs)) args s rm_X4_end.cells rm_X4_end.slots (gA S hs)) (F0 m 69 ls [.int s0]) := by
    intro k31 hk31 x2 x3 x5 s0 h H locs ls hM hl
    unfold f_X4_end_b69 at h
    refine lv_istore (i := 4) (lv' := [(4, .int s0), (2, .int x2), (3, va_rf x3), (5, .int x5)]) hx hb dX4_end_69 hl (by decide) (by simp [rf_cat, ic_cat, lc_cat]) (fun ls hl => ?_)
    refine lv_iinc (v := (x5 + 1)) (lv' := [(5, .int (x5 + 1)), (4, .int s0), (2, .int x2), (3, va_rf x3)]) hx hb dX4_end_71 hl (k := 3) rfl rfl (by decide) rfl (fun ls hl => ?_)
    refine lv_goto (tgt := 31) hx hb dX4_end_74 (by decide) ?_
    refine W.widen (k := 0) (n := 0) (Nat.le_of_ble_eq_true rfl) (Nat.le_of_ble_eq_true rfl) ?_
    exact hk31 _ _ _ _ h _ _ _ hM (lv_sub hl [2, 3, 1, 0] rfl)
  have JL31 : ∀ (n : Nat) (x2 : Int32) (x3 : Option Nat) (x4 : Int32) (x5 : Int32), f_X4_end_L31 S a0 n x2 x3 x4 x5 = some (.inl r) → ∀ (H : Heap) (locs : List Loc) (ls : Array Slot), gM D Y (gA S hs) s.heap S hs H locs → lv_has ls 6 [(2, .int x2), (3, va_rf x3), (4, .int x4), (5, .int x5)] → W p l e rm_X4_end s m args below meth c H locs 0 0 (MQ below (gQ (some (.int r)) D Y S hs (gA S hs)) args s rm_X4_end.cells rm_X4_end.slots (gA S hs)) (F0 m 31 ls []) := by
    intro n
    induction n with
    | zero => intro x2 x3 x4 x5 h; unfold f_X4_end_L31 at h; exact nomatch h
    | succ n ih =>
      intro x2 x3 x4 x5 h H locs ls hM hl
      unfold f_X4_end_L31 at h
      refine lv_iload hx hb dX4_end_31 (lv_at hl 3 rfl) ?_
      refine g_aload_n hx hb dX4_end_33 rfl (lv_at hl 1 rfl) ?_
      have g := gbind h
      clear h
      obtain ⟨a17, e18, h⟩ := g
      have t19 := (gtk_of e18).2
      rw [(gtk_of e18).1]
      have g := gbind h
      clear h
      obtain ⟨v21, e20, h⟩ := g
      refine g_callV (As := []) (rest := [.int x5]) hF hM (c_X1_count e20) k_X1_count u195 u196 u197 rfl rfl t19 rfl hl.1 rfl (Nat.le_of_ble_eq_true rfl) dX4_end_34 ⟨(Nat.le_of_ble_eq_true rfl), (Nat.le_of_ble_eq_true rfl)⟩ ⟨(Nat.le_of_ble_eq_true rfl), (Nat.le_of_ble_eq_true rfl)⟩ (fun H locs hM => ?_)
      refine lv_icmp_ge (tgt := 77) hx hb dX4_end_37 (by decide) (fun c22 => ?_) (fun c22 => ?_)
      · replace h := (if_pos c22).symm.trans h
        refine lv_iload hx hb dX4_end_77 (lv_at hl 2 rfl) ?_
        rw [← (Sum.inl.inj (Option.some.inj h))]
        exact g_iret hF hM rfl rfl dX4_end_79 (Nat.le_of_ble_eq_true rfl) (Nat.le_of_ble_eq_true rfl)
      · replace h := (if_neg c22).symm.trans h
        refine lv_iload_n hx hb dX4_end_40 rfl (lv_at hl 0 rfl) ?_
        refine lv_if_eq (tgt := 58) hx hb dX4_end_41 (by decide) (fun c23 => ?_) (fun c23 => ?_)
        · replace h := (if_pos c23).symm.trans h
          refine lv_iload hx hb dX4_end_58 (lv_at hl 2 rfl) ?_
          refine g_aload_n hx hb dX4_end_60 rfl (lv_at hl 1 rfl) ?_
          refine lv_iload hx hb dX4_end_61 (lv_at hl 3 rfl) ?_
          have g := gbind h
          clear h
          obtain ⟨a24, e25, h⟩ := g
          have t26 := (gtk_of e25).2
          rw [(gtk_of e25).1]
          have g := gbind h
          clear h
          obtain ⟨v28, e27, h⟩ := g
          refine g_callV (As := [.int x5]) (rest := [.int x4]) hF hM (c_X1_keyOf e27) k_X1_keyOf u699 u226 u227 rfl rfl t26 rfl hl.1 rfl (Nat.le_of_ble_eq_true rfl) dX4_end_63 ⟨(Nat.le_of_ble_eq_true rfl), (Nat.le_of_ble_eq_true rfl)⟩ ⟨(Nat.le_of_ble_eq_true rfl), (Nat.le_of_ble_eq_true rfl)⟩ (fun H locs hM => ?_)
          refine g_mmin hF u836 u388 u389 u78 hl.1 dX4_end_66 ⟨(Nat.le_of_ble_eq_true rfl), (Nat.le_of_ble_eq_true rfl)⟩ (Nat.le_of_ble_eq_true rfl) ⟨(Nat.le_of_ble_eq_true rfl), (Nat.le_of_ble_eq_true rfl)⟩ ?_
          refine W.widen (k := 0) (n := 0) (Nat.le_of_ble_eq_true rfl) (Nat.le_of_ble_eq_true rfl) ?_
          exact Jb69 _ ih _ _ _ _ h _ _ _ hM (lv_sub hl [0, 1, 3] rfl)
        · replace h := (if_neg c23).symm.trans h
          refine lv_iload hx hb dX4_end_44 (lv_at hl 2 rfl) ?_
          refine g_aload_n hx hb dX4_end_46 rfl (lv_at hl 1 rfl) ?_
          refine lv_iload hx hb dX4_end_47 (lv_at hl 3 rfl) ?_
          have g := gbind h
          clear h
          obtain ⟨a29, e30, h⟩ := g
          have t31 := (gtk_of e30).2
          rw [(gtk_of e30).1]
          have g := gbind h
          clear h
          obtain ⟨v33, e32, h⟩ := g
          refine g_callV (As := [.int x5]) (rest := [.int x4]) hF hM (c_X1_keyOf e32) k_X1_keyOf u699 u226 u227 rfl rfl t31 rfl hl.1 rfl (Nat.le_of_ble_eq_true rfl) dX4_end_49 ⟨(Nat.le_of_ble_eq_true rfl), (Nat.le_of_ble_eq_true rfl)⟩ ⟨(Nat.le_of_ble_eq_true rfl), (Nat.le_of_ble_eq_true rfl)⟩ (fun H locs hM => ?_)
          refine g_mmax hF u961 u962 u963 u78 hl.1 dX4_end_52 ⟨(Nat.le_of_ble_eq_true rfl), (Nat.le_of_ble_eq_true rfl)⟩ (Nat.le_of_ble_eq_true rfl) ⟨(Nat.le_of_ble_eq_true rfl), (Nat.le_of_ble_eq_true rfl)⟩ ?_
          refine lv_goto (tgt := 69) hx hb dX4_end_55 (by decide) ?_
          refine W.widen (k := 0) (n := 0) (Nat.le_of_ble_eq_true rfl) (Nat.le_of_ble_eq_true rfl) ?_
          exact Jb69 _ ih _ _ _ _ h _ _ _ hM (lv_sub hl [0, 1, 3] rfl)
  unfold f_X4_end at h
  refine g_aload_n hx hb dX4_end_0 rfl (lv_at hl 0 rfl) ?_
  refine lv_iload_n hx hb dX4_end_1 rfl (lv_at hl 1 rfl) ?_
  have g := gckE h
  clear h
  obtain ⟨t1, h⟩ := g
  have t1 := eq_of_beq t1
  have g := gthE h
  clear h
  rcases g with ⟨v3, e2, h⟩ | ⟨y4, e2, z5⟩
  · refine g_callV (As := [.int x1]) (rest := []) hF hM (c_X4_needRow e2) k_X4_needRow u807 u809 u20 rfl rfl t1 rfl hl.1 rfl (Nat.le_of_ble_eq_true rfl) dX4_end_2 ⟨(Nat.le_of_ble_eq_true rfl), (Nat.le_of_ble_eq_true rfl)⟩ ⟨(Nat.le_of_ble_eq_true rfl), (Nat.le_of_ble_eq_true rfl)⟩ (fun H locs hM => ?_)
    refine g_astore_n (i := 3) (lv' := [(0, va_rf (some a0)), (1, .int x1), (2, .int x2)]) hx hb dX4_end_5 rfl hl (by decide) (fun v => rfl) (fun ls hl => ?_)
    refine g_aload_n hx hb dX4_end_6 rfl (lv_at hl 0 rfl) ?_
    have g := gbind h
    clear h
    obtain ⟨a6, e7, h⟩ := g
    have t8 := (gtk_of e7).2
    rw [(gtk_of e7).1]
    have g := gbind h
    clear h
    obtain ⟨v10, e9, h⟩ := g
    refine g_callV (As := []) (rest := []) hF hM (c_X1_count e9) k_X1_count u195 u196 u197 rfl rfl t8 rfl hl.1 rfl (Nat.le_of_ble_eq_true rfl) dX4_end_7 ⟨(Nat.le_of_ble_eq_true rfl), (Nat.le_of_ble_eq_true rfl)⟩ ⟨(Nat.le_of_ble_eq_true rfl), (Nat.le_of_ble_eq_true rfl)⟩ (fun H locs hM => ?_)
    refine lv_if_ne (tgt := 21) hx hb dX4_end_10 (by decide) (fun c11 => ?_) (fun c11 => ?_)
    · replace h := (if_neg c11).symm.trans h
      refine g_aload_n hx hb dX4_end_21 rfl (lv_at hl 0 rfl) ?_
      refine lv_iconst (v := 0) hx hb dX4_end_22 (by decide) ?_
      have g := gbind h
      clear h
      obtain ⟨a12, e13, h⟩ := g
      have t14 := (gtk_of e13).2
      rw [(gtk_of e13).1]
      have g := gbind h
      clear h
      obtain ⟨v16, e15, h⟩ := g
      refine g_callV (As := [.int 0]) (rest := []) hF hM (c_X1_keyOf e15) k_X1_keyOf u699 u226 u227 rfl rfl t14 rfl hl.1 rfl (Nat.le_of_ble_eq_true rfl) dX4_end_23 ⟨(Nat.le_of_ble_eq_true rfl), (Nat.le_of_ble_eq_true rfl)⟩ ⟨(Nat.le_of_ble_eq_true rfl), (Nat.le_of_ble_eq_true rfl)⟩ (fun H locs hM => ?_)
      refine lv_istore (i := 4) (lv' := [(4, .int v16), (3, va_rf v3), (0, va_rf (some a0)), (1, .int x1), (2, .int x2)]) hx hb dX4_end_26 hl (by decide) (by simp [rf_cat, ic_cat, lc_cat]) (fun ls hl => ?_)
      refine lv_iconst (v := 1) hx hb dX4_end_28 (by decide) ?_
      refine lv_istore (i := 5) (lv' := [(5, .int 1), (4, .int v16), (3, va_rf v3), (0, va_rf (some a0)), (1, .int x1), (2, .int x2)]) hx hb dX4_end_29 hl (by decide) rfl (fun ls hl => ?_)
      refine W.widen (k := 0) (n := 0) (Nat.le_of_ble_eq_true rfl) (Nat.le_of_ble_eq_true rfl) ?_
      exact JL31 gN _ _ _ _ h _ _ _ hM (lv_sub hl [5, 2, 1, 0] rfl)
    · replace h := (if_pos c11).symm.trans h
      exact nomatch (Option.some.inj h)
  · exact nomatch z5
abbrev rmx_X4_end : Room := { frames := 8, cells := 1, slots := 6, locals := 132 }
set_option maxHeartbeats 4000000 in
set_option maxRecDepth 100000 in
theorem cx_X4_end {l : Launch} {D : va_G} {Y : Nat → ClassId} {S : GS} {hs : Nat} {a0 : Nat} {x1 : Int32} {x2 : Int32} {x : Nat} (hfl : l.stackTraces = false) (h : f_X4_end S a0 x1 x2 = some (.inr x)) : gMx l yX4_end (gWs yX4_end cX4_end 6 (some .int)) rmx_X4_end [va_rf (some a0), .int x1, .int x2] D Y S hs (.inr x) := by
  refine g_ofWx (by decide +kernel) (Or.inl ⟨(Nat.le_of_ble_eq_true rfl), (List.forall_mem_cons.mpr ⟨rf_cat _, (List.forall_mem_cons.mpr ⟨rfl, (List.forall_mem_cons.mpr ⟨rfl, (fun _ h => absurd h List.not_mem_nil)⟩)⟩)⟩)⟩) ?_
  intro p e s m args below meth c ls hsz hout hF hM hl
  have hl : lv_has ls 6 [(0, va_rf (some a0)), (1, .int x1), (2, .int x2)] := by rw [g_args [va_rf (some a0), .int x1, .int x2] 0 (List.forall_mem_cons.mpr ⟨rf_cat _, (List.forall_mem_cons.mpr ⟨rfl, (List.forall_mem_cons.mpr ⟨rfl, (fun _ h => absurd h List.not_mem_nil)⟩)⟩)⟩)] at hl; exact hl
  have hF : gF p s m args meth c RX4 cX4_end 6 (some .int) D Y (gA S hs) := hF
  have hx := hF.1
  have hb := hF.2.1
  have Jb69 : ∀ (k31 : Int32 → Option Nat → Int32 → Int32 → Option (Int32 ⊕ Nat)) (hk31 : ∀ (x2 : Int32) (x3 : Option Nat) (x4 : Int32) (x5 : Int32), k31 x2 x3 x4 x5 = some (.inr x) → ∀ (H : Heap) (locs : List Loc) (ls : Array Slot), gM D Y (gA S hs) s.heap S hs H locs → lv_has ls 6 [(2, .int x2), (3, va_rf x3), (4, .int x4), (5, .int x5)] → W p l e rmx_X4_end s m args below meth c H locs 0 0 (vx_MQ below (gQz (.inr x) D Y (gA S hs)) (gXz (.inr x) D Y S (gA S hs)) args s rmx_X4_end.cells rmx_X4_end.slots (gA S hs)) (F0 m 31 ls [])) (x2 : Int32) (x3 : Option Nat) (x5 : Int32) (s0 : Int32), f_X4_end_b69 k31 S a0 x2 x3 x5 s0 = some (.inr x) → ∀ (H : Heap) (locs : List Loc) (ls : Array Slot), gM D Y (gA S hs) s.heap S hs H locs → lv_has ls 6 [(2, .int x2), (3, va_rf x3), (5, .int x5)] → W p l e rmx_X4_end s m args below meth c H locs 0 0 (vx_MQ below (gQz (.inr x) D Y (gA S hs)) (gXz (.inr x) D Y S (gA S hs)) args s rmx_X4_end.cells rmx_X4_end.slots (gA S hs)) (F0 m 69 ls [.int s0]) := by
    intro k31 hk31 x2 x3 x5 s0 h H locs ls hM hl
    unfold f_X4_end_b69 at h
    refine lv_istore (i := 4) (lv' := [(4, .int s0), (2, .int x2), (3, va_rf x3), (5, .int x5)]) hx hb dX4_end_69 hl (by decide) (by simp [rf_cat, ic_cat, lc_cat]) (fun ls hl => ?_)
    refine lv_iinc (v := (x5 + 1)) (lv' := [(5, .int (x5 + 1)), (4, .int s0), (2, .int x2), (3, va_rf x3)]) hx hb dX4_end_71 hl (k := 3) rfl rfl (by decide) rfl (fun ls hl => ?_)
    refine lv_goto (tgt := 31) hx hb dX4_end_74 (by decide) ?_
    refine W.widen (k := 0) (n := 0) (Nat.le_of_ble_eq_true rfl) (Nat.le_of_ble_eq_true rfl) ?_
    exact hk31 _ _ _ _ h _ _ _ hM (lv_sub hl [2, 3, 1, 0] rfl)
  have JL31 : ∀ (n : Nat) (x2 : Int32) (x3 : Option Nat) (x4 : Int32) (x5 : Int32), f_X4_end_L31 S a0 n x2 x3 x4 x5 = some (.inr x) → ∀ (H : Heap) (locs : List Loc) (ls : Array Slot), gM D Y (gA S hs) s.heap S hs H locs → lv_has ls 6 [(2, .int x2), (3, va_rf x3), (4, .int x4), (5, .int x5)] → W p l e rmx_X4_end s m args below meth c H locs 0 0 (vx_MQ below (gQz (.inr x) D Y (gA S hs)) (gXz (.inr x) D Y S (gA S hs)) args s rmx_X4_end.cells rmx_X4_end.slots (gA S hs)) (F0 m 31 ls []) := by
    intro n
    induction n with
    | zero => intro x2 x3 x4 x5 h; unfold f_X4_end_L31 at h; exact nomatch h
    | succ n ih =>
      intro x2 x3 x4 x5 h H locs ls hM hl
      unfold f_X4_end_L31 at h
      refine lv_iload hx hb dX4_end_31 (lv_at hl 3 rfl) ?_
      refine g_aload_n hx hb dX4_end_33 rfl (lv_at hl 1 rfl) ?_
      have g := gbind h
      clear h
      obtain ⟨a17, e18, h⟩ := g
      have t19 := (gtk_of e18).2
      rw [(gtk_of e18).1]
      have g := gbind h
      clear h
      obtain ⟨v21, e20, h⟩ := g
      refine g_callV (As := []) (rest := [.int x5]) hF hM (c_X1_count e20) k_X1_count u195 u196 u197 rfl rfl t19 rfl hl.1 rfl (Nat.le_of_ble_eq_true rfl) dX4_end_34 ⟨(Nat.le_of_ble_eq_true rfl), (Nat.le_of_ble_eq_true rfl)⟩ ⟨(Nat.le_of_ble_eq_true rfl), (Nat.le_of_ble_eq_true rfl)⟩ (fun H locs hM => ?_)
      refine lv_icmp_ge (tgt := 77) hx hb dX4_end_37 (by decide) (fun c22 => ?_) (fun c22 => ?_)
      · replace h := (if_pos c22).symm.trans h
        refine lv_iload hx hb dX4_end_77 (lv_at hl 2 rfl) ?_
        exact nomatch (Option.some.inj h)
      · replace h := (if_neg c22).symm.trans h
        refine lv_iload_n hx hb dX4_end_40 rfl (lv_at hl 0 rfl) ?_
        refine lv_if_eq (tgt := 58) hx hb dX4_end_41 (by decide) (fun c23 => ?_) (fun c23 => ?_)
        · replace h := (if_pos c23).symm.trans h
          refine lv_iload hx hb dX4_end_58 (lv_at hl 2 rfl) ?_
          refine g_aload_n hx hb dX4_end_60 rfl (lv_at hl 1 rfl) ?_
          refine lv_iload hx hb dX4_end_61 (lv_at hl 3 rfl) ?_
          have g := gbind h
          clear h
          obtain ⟨a24, e25, h⟩ := g
          have t26 := (gtk_of e25).2
          rw [(gtk_of e25).1]
          have g := gbind h
          clear h
          obtain ⟨v28, e27, h⟩ := g
          refine g_callV (As := [.int x5]) (rest := [.int x4]) hF hM (c_X1_keyOf e27) k_X1_keyOf u699 u226 u227 rfl rfl t26 rfl hl.1 rfl (Nat.le_of_ble_eq_true rfl) dX4_end_63 ⟨(Nat.le_of_ble_eq_true rfl), (Nat.le_of_ble_eq_true rfl)⟩ ⟨(Nat.le_of_ble_eq_true rfl), (Nat.le_of_ble_eq_true rfl)⟩ (fun H locs hM => ?_)
          refine g_mmin hF u836 u388 u389 u78 hl.1 dX4_end_66 ⟨(Nat.le_of_ble_eq_true rfl), (Nat.le_of_ble_eq_true rfl)⟩ (Nat.le_of_ble_eq_true rfl) ⟨(Nat.le_of_ble_eq_true rfl), (Nat.le_of_ble_eq_true rfl)⟩ ?_
          refine W.widen (k := 0) (n := 0) (Nat.le_of_ble_eq_true rfl) (Nat.le_of_ble_eq_true rfl) ?_
          exact Jb69 _ ih _ _ _ _ h _ _ _ hM (lv_sub hl [0, 1, 3] rfl)
        · replace h := (if_neg c23).symm.trans h
          refine lv_iload hx hb dX4_end_44 (lv_at hl 2 rfl) ?_
          refine g_aload_n hx hb dX4_end_46 rfl (lv_at hl 1 rfl) ?_
          refine lv_iload hx hb dX4_end_47 (lv_at hl 3 rfl) ?_
          have g := gbind h
          clear h
          obtain ⟨a29, e30, h⟩ := g
          have t31 := (gtk_of e30).2
          rw [(gtk_of e30).1]
          have g := gbind h
          clear h
          obtain ⟨v33, e32, h⟩ := g
          refine g_callV (As := [.int x5]) (rest := [.int x4]) hF hM (c_X1_keyOf e32) k_X1_keyOf u699 u226 u227 rfl rfl t31 rfl hl.1 rfl (Nat.le_of_ble_eq_true rfl) dX4_end_49 ⟨(Nat.le_of_ble_eq_true rfl), (Nat.le_of_ble_eq_true rfl)⟩ ⟨(Nat.le_of_ble_eq_true rfl), (Nat.le_of_ble_eq_true rfl)⟩ (fun H locs hM => ?_)
          refine g_mmax hF u961 u962 u963 u78 hl.1 dX4_end_52 ⟨(Nat.le_of_ble_eq_true rfl), (Nat.le_of_ble_eq_true rfl)⟩ (Nat.le_of_ble_eq_true rfl) ⟨(Nat.le_of_ble_eq_true rfl), (Nat.le_of_ble_eq_true rfl)⟩ ?_
          refine lv_goto (tgt := 69) hx hb dX4_end_55 (by decide) ?_
          refine W.widen (k := 0) (n := 0) (Nat.le_of_ble_eq_true rfl) (Nat.le_of_ble_eq_true rfl) ?_
          exact Jb69 _ ih _ _ _ _ h _ _ _ hM (lv_sub hl [0, 1, 3] rfl)
  unfold f_X4_end at h
  refine g_aload_n hx hb dX4_end_0 rfl (lv_at hl 0 rfl) ?_
  refine lv_iload_n hx hb dX4_end_1 rfl (lv_at hl 1 rfl) ?_
  have g := gckE h
  clear h
  obtain ⟨t1, h⟩ := g
  have t1 := eq_of_beq t1
  have g := gthE h
  clear h
  rcases g with ⟨v3, e2, h⟩ | ⟨y4, e2, z5⟩
  · refine g_callV (As := [.int x1]) (rest := []) hF hM (c_X4_needRow e2) k_X4_needRow u807 u809 u20 rfl rfl t1 rfl hl.1 rfl (Nat.le_of_ble_eq_true rfl) dX4_end_2 ⟨(Nat.le_of_ble_eq_true rfl), (Nat.le_of_ble_eq_true rfl)⟩ ⟨(Nat.le_of_ble_eq_true rfl), (Nat.le_of_ble_eq_true rfl)⟩ (fun H locs hM => ?_)
    refine g_astore_n (i := 3) (lv' := [(0, va_rf (some a0)), (1, .int x1), (2, .int x2)]) hx hb dX4_end_5 rfl hl (by decide) (fun v => rfl) (fun ls hl => ?_)
    refine g_aload_n hx hb dX4_end_6 rfl (lv_at hl 0 rfl) ?_
    have g := gbind h
    clear h
    obtain ⟨a6, e7, h⟩ := g
    have t8 := (gtk_of e7).2
    rw [(gtk_of e7).1]
    have g := gbind h
    clear h
    obtain ⟨v10, e9, h⟩ := g
    refine g_callV (As := []) (rest := []) hF hM (c_X1_count e9) k_X1_count u195 u196 u197 rfl rfl t8 rfl hl.1 rfl (Nat.le_of_ble_eq_true rfl) dX4_end_7 ⟨(Nat.le_of_ble_eq_true rfl), (Nat.le_of_ble_eq_true rfl)⟩ ⟨(Nat.le_of_ble_eq_true rfl), (Nat.le_of_ble_eq_true rfl)⟩ (fun H locs hM => ?_)
    refine lv_if_ne (tgt := 21) hx hb dX4_end_10 (by decide) (fun c11 => ?_) (fun c11 => ?_)
    · replace h := (if_neg c11).symm.trans h
      refine g_aload_n hx hb dX4_end_21 rfl (lv_at hl 0 rfl) ?_
      refine lv_iconst (v := 0) hx hb dX4_end_22 (by decide) ?_
      have g := gbind h
      clear h
      obtain ⟨a12, e13, h⟩ := g
      have t14 := (gtk_of e13).2
      rw [(gtk_of e13).1]
      have g := gbind h
      clear h
      obtain ⟨v16, e15, h⟩ := g
      refine g_callV (As := [.int 0]) (rest := []) hF hM (c_X1_keyOf e15) k_X1_keyOf u699 u226 u227 rfl rfl t14 rfl hl.1 rfl (Nat.le_of_ble_eq_true rfl) dX4_end_23 ⟨(Nat.le_of_ble_eq_true rfl), (Nat.le_of_ble_eq_true rfl)⟩ ⟨(Nat.le_of_ble_eq_true rfl), (Nat.le_of_ble_eq_true rfl)⟩ (fun H locs hM => ?_)
      refine lv_istore (i := 4) (lv' := [(4, .int v16), (3, va_rf v3), (0, va_rf (some a0)), (1, .int x1), (2, .int x2)]) hx hb dX4_end_26 hl (by decide) (by simp [rf_cat, ic_cat, lc_cat]) (fun ls hl => ?_)
      refine lv_iconst (v := 1) hx hb dX4_end_28 (by decide) ?_
      refine lv_istore (i := 5) (lv' := [(5, .int 1), (4, .int v16), (3, va_rf v3), (0, va_rf (some a0)), (1, .int x1), (2, .int x2)]) hx hb dX4_end_29 hl (by decide) rfl (fun ls hl => ?_)
      refine W.widen (k := 0) (n := 0) (Nat.le_of_ble_eq_true rfl) (Nat.le_of_ble_eq_true rfl) ?_
      exact JL31 gN _ _ _ _ h _ _ _ hM (lv_sub hl [5, 2, 1, 0] rfl)
    · replace h := (if_pos c11).symm.trans h
      exact g_throw hF hM hfl hout ew_X4_180_182 (congrArg Sum.inr (Sum.inr.inj (Option.some.inj h)).symm) hl.1 dX4_end_13 dX4_end_16 dX4_end_17 dX4_end_20 (Nat.le_of_ble_eq_true rfl) (Nat.le_of_ble_eq_true rfl) (Nat.le_of_ble_eq_true rfl) (Nat.le_of_ble_eq_true rfl) (Nat.le_of_ble_eq_true rfl) (Nat.le_of_ble_eq_true rfl)
  · exact g_callVt (As := [.int x1]) (rest := []) hF hM hout (cx_X4_needRow hfl e2) k_X4_needRow u807 u809 u20 rfl rfl t1 rfl hl.1 rfl (Nat.le_of_ble_eq_true rfl) dX4_end_2 ⟨(Nat.le_of_ble_eq_true rfl), (Nat.le_of_ble_eq_true rfl)⟩ ⟨(Nat.le_of_ble_eq_true rfl), (Nat.le_of_ble_eq_true rfl)⟩ (Nat.le_of_ble_eq_true rfl) (Nat.le_of_ble_eq_true rfl) (congrArg Sum.inr (Sum.inr.inj z5))
abbrev rm_X4_enter : Room := { frames := 3, cells := 0, slots := 0, locals := 69 }
theorem k_X4_enter : gKc yX4_enter cX4_enter 7 (some .boolean) 4 := ⟨u970, u63, by decide +kernel, by decide +kernel, by decide +kernel⟩
set_option maxHeartbeats 4000000 in
set_option maxRecDepth 100000 in
theorem c_X4_enter {l : Launch} {D : va_G} {Y : Nat → ClassId} {S : GS} {hs : Nat} {a0 : Nat} {x1 : Int32} {x2 : Int32} {x3 : Int32} {x4 : Int32} {r : Int32} {S' : GS} (h : f_X4_enter S a0 x1 x2 x3 x4 = some (.inl (r, S'))) : gMet l yX4_enter (gWs yX4_enter cX4_enter 7 (some .boolean)) rm_X4_enter [va_rf (some a0), .int x1, .int x2, .int x3, .int x4] D Y S hs (some (.int r)) S' hs := by
  refine g_ofW (by decide +kernel) (Or.inl ⟨(Nat.le_of_ble_eq_true rfl), (List.forall_mem_cons.mpr ⟨rf_cat _, (List.forall_mem_cons.mpr ⟨rfl, (List.forall_mem_cons.mpr ⟨rfl, (List.forall_mem_cons.mpr ⟨rfl, (List.forall_mem_cons.mpr ⟨rfl, (fun _ h => absurd h List.not_mem_nil)⟩)⟩)⟩)⟩)⟩)⟩) ?_
  intro p e s m args below meth c ls hsz hname hF hM hl
  have hl : lv_has ls 7 [(0, va_rf (some a0)), (1, .int x1), (2, .int x2), (3, .int x3), (4, .int x4)] := by rw [g_args [va_rf (some a0), .int x1, .int x2, .int x3, .int x4] 0 (List.forall_mem_cons.mpr ⟨rf_cat _, (List.forall_mem_cons.mpr ⟨rfl, (List.forall_mem_cons.mpr ⟨rfl, (List.forall_mem_cons.mpr ⟨rfl, (List.forall_mem_cons.mpr ⟨rfl, (fun _ h => absurd h List.not_mem_nil)⟩)⟩)⟩)⟩)⟩)] at hl; exact hl
  have hF : gF p s m args meth c RX4 cX4_enter 7 (some .boolean) D Y (gA S hs) := hF
  have hx := hF.1
  have hb := hF.2.1
  unfold f_X4_enter at h
  refine g_aload_n hx hb dX4_enter_0 rfl (lv_at hl 0 rfl) ?_
  refine lv_iload_n hx hb dX4_enter_1 rfl (lv_at hl 1 rfl) ?_
  have g := gckE h
  clear h
  obtain ⟨t1, h⟩ := g
  have t1 := eq_of_beq t1
  have g := gthE h
  clear h
  rcases g with ⟨v3, e2, h⟩ | ⟨y4, e2, z5⟩
  · refine g_callV (As := [.int x1]) (rest := []) hF hM (c_X4_needMap e2) k_X4_needMap u622 u624 u15 rfl rfl t1 rfl hl.1 rfl (Nat.le_of_ble_eq_true rfl) dX4_enter_2 ⟨(Nat.le_of_ble_eq_true rfl), (Nat.le_of_ble_eq_true rfl)⟩ ⟨(Nat.le_of_ble_eq_true rfl), (Nat.le_of_ble_eq_true rfl)⟩ (fun H locs hM => ?_)
    have g := gthE h
    clear h
    rcases g with ⟨v7, e6, h⟩ | ⟨y8, e6, z9⟩
    · refine g_callS (As := [va_rf v3]) (rest := []) hF hM (c_X4_openStore e6) k_X4_openStore u732 u733 rfl hl.1 rfl (Nat.le_of_ble_eq_true rfl) dX4_enter_5 ⟨(Nat.le_of_ble_eq_true rfl), (Nat.le_of_ble_eq_true rfl)⟩ ⟨(Nat.le_of_ble_eq_true rfl), (Nat.le_of_ble_eq_true rfl)⟩ (fun H locs hM => ?_)
      refine g_astore (i := 5) (lv' := [(0, va_rf (some a0)), (1, .int x1), (2, .int x2), (3, .int x3), (4, .int x4)]) hx hb dX4_enter_8 hl (by decide) (fun v => rfl) (fun ls hl => ?_)
      refine lv_iload_n hx hb dX4_enter_10 rfl (lv_at hl 4 rfl) ?_
      refine lv_iload hx hb dX4_enter_11 (lv_at hl 5 rfl) ?_
      have g := gthE h
      clear h
      rcases g with ⟨w11, e10, h⟩ | ⟨y12, e10, z13⟩
      · refine g_callS (As := [.int x3, .int x4]) (rest := []) hF hM (c_X4_needThing e10) k_X4_needThing u590 u591 rfl hl.1 rfl (Nat.le_of_ble_eq_true rfl) dX4_enter_13 ⟨(Nat.le_of_ble_eq_true rfl), (Nat.le_of_ble_eq_true rfl)⟩ ⟨(Nat.le_of_ble_eq_true rfl), (Nat.le_of_ble_eq_true rfl)⟩ (fun H locs hM => ?_)
        refine g_aload hx hb dX4_enter_16 (lv_at hl 0 rfl) ?_
        refine lv_iload_n hx hb dX4_enter_18 rfl (lv_at hl 3 rfl) ?_
        have g := gbind h
        clear h
        obtain ⟨a14, e15, h⟩ := g
        have t16 := (gtk_of e15).2
        rw [(gtk_of e15).1]
        have g := gbind h
        clear h
        obtain ⟨v18, e17, h⟩ := g
        refine g_callV (As := [.int x2]) (rest := []) hF hM (c_X3_placeOfNumber e17) k_X3_placeOfNumber u971 u264 u265 rfl rfl t16 rfl hl.1 rfl (Nat.le_of_ble_eq_true rfl) dX4_enter_19 ⟨(Nat.le_of_ble_eq_true rfl), (Nat.le_of_ble_eq_true rfl)⟩ ⟨(Nat.le_of_ble_eq_true rfl), (Nat.le_of_ble_eq_true rfl)⟩ (fun H locs hM => ?_)
        refine lv_istore (i := 6) (lv' := [(6, .int v18), (5, va_rf v7), (0, va_rf (some a0)), (1, .int x1), (2, .int x2), (3, .int x3), (4, .int x4)]) hx hb dX4_enter_22 hl (by decide) (by simp [rf_cat, ic_cat, lc_cat]) (fun ls hl => ?_)
        refine lv_iload hx hb dX4_enter_24 (lv_at hl 0 rfl) ?_
        refine lv_if_lt (tgt := 41) hx hb dX4_enter_26 (by decide) (fun c19 => ?_) (fun c19 => ?_)
        · replace h := (if_pos c19).symm.trans h
          refine g_aload hx hb dX4_enter_41 (lv_at hl 1 rfl) ?_
          refine lv_iconst (v := 1) hx hb dX4_enter_43 (by decide) ?_
          have g := gthE h
          clear h
          rcases g with ⟨w21, e20, h⟩ | ⟨y22, e20, z23⟩
          · refine g_callS (As := [va_rf v7, .int 1]) (rest := []) hF hM (c_X4_needRoom e20) k_X4_needRoom u753 u754 rfl hl.1 rfl (Nat.le_of_ble_eq_true rfl) dX4_enter_44 ⟨(Nat.le_of_ble_eq_true rfl), (Nat.le_of_ble_eq_true rfl)⟩ ⟨(Nat.le_of_ble_eq_true rfl), (Nat.le_of_ble_eq_true rfl)⟩ (fun H locs hM => ?_)
            refine g_aload hx hb dX4_enter_47 (lv_at hl 1 rfl) ?_
            refine g_aload hx hb dX4_enter_49 (lv_at hl 1 rfl) ?_
            refine lv_iload_n hx hb dX4_enter_51 rfl (lv_at hl 4 rfl) ?_
            have g := gbind h
            clear h
            obtain ⟨a24, e25, h⟩ := g
            have t26 := (gtk_of e25).2
            rw [(gtk_of e25).1]
            have g := gbind h
            clear h
            obtain ⟨v28, e27, h⟩ := g
            refine g_callV (As := [.int x2]) (rest := [va_rf (some a24)]) hF hM (c_X3_placeToEnter e27) k_X3_placeToEnter u972 u973 u974 rfl rfl t26 rfl hl.1 rfl (Nat.le_of_ble_eq_true rfl) dX4_enter_52 ⟨(Nat.le_of_ble_eq_true rfl), (Nat.le_of_ble_eq_true rfl)⟩ ⟨(Nat.le_of_ble_eq_true rfl), (Nat.le_of_ble_eq_true rfl)⟩ (fun H locs hM => ?_)
            refine lv_iload_n hx hb dX4_enter_55 rfl (lv_at hl 4 rfl) ?_
            refine lv_iload_n hx hb dX4_enter_56 rfl (lv_at hl 5 rfl) ?_
            refine lv_iload hx hb dX4_enter_57 (lv_at hl 6 rfl) ?_
            have g := gckE h
            clear h
            obtain ⟨t29, h⟩ := g
            have t29 := eq_of_beq t29
            have g := gbind h
            clear h
            obtain ⟨S31, e30, h⟩ := g
            refine g_callV (As := [.int v28, .int x2, .int x3, .int x4]) (rest := []) hF hM (c_X3_insert e30) k_X3_insert u771 u280 u281 rfl rfl t29 rfl hl.1 rfl (Nat.le_of_ble_eq_true rfl) dX4_enter_59 ⟨(Nat.le_of_ble_eq_true rfl), (Nat.le_of_ble_eq_true rfl)⟩ ⟨(Nat.le_of_ble_eq_true rfl), (Nat.le_of_ble_eq_true rfl)⟩ (fun H locs hM => ?_)
            refine lv_iconst (v := 0) hx hb dX4_enter_62 (by decide) ?_
            obtain ⟨q1, q2⟩ := Prod.mk.inj (Sum.inl.inj (Option.some.inj h))
            rw [← q1, ← q2]
            exact g_iret hF hM rfl rfl dX4_enter_63 (Nat.le_of_ble_eq_true rfl) (Nat.le_of_ble_eq_true rfl)
          · exact nomatch z23
        · replace h := (if_neg c19).symm.trans h
          refine g_aload hx hb dX4_enter_29 (lv_at hl 1 rfl) ?_
          refine lv_iload hx hb dX4_enter_31 (lv_at hl 0 rfl) ?_
          refine lv_iload_n hx hb dX4_enter_33 rfl (lv_at hl 5 rfl) ?_
          refine lv_iload hx hb dX4_enter_34 (lv_at hl 6 rfl) ?_
          have g := gbind h
          clear h
          obtain ⟨a32, e33, h⟩ := g
          have t34 := (gtk_of e33).2
          rw [(gtk_of e33).1]
          have g := gbind h
          clear h
          obtain ⟨S36, e35, h⟩ := g
          refine g_callV (As := [.int v18, .int x3, .int x4]) (rest := []) hF hM (c_X3_lay e35) k_X3_lay u788 u292 u293 rfl rfl t34 rfl hl.1 rfl (Nat.le_of_ble_eq_true rfl) dX4_enter_36 ⟨(Nat.le_of_ble_eq_true rfl), (Nat.le_of_ble_eq_true rfl)⟩ ⟨(Nat.le_of_ble_eq_true rfl), (Nat.le_of_ble_eq_true rfl)⟩ (fun H locs hM => ?_)
          refine lv_iconst (v := 1) hx hb dX4_enter_39 (by decide) ?_
          obtain ⟨q1, q2⟩ := Prod.mk.inj (Sum.inl.inj (Option.some.inj h))
          rw [← q1, ← q2]
          exact g_iret hF hM rfl rfl dX4_enter_40 (Nat.le_of_ble_eq_true rfl) (Nat.le_of_ble_eq_true rfl)
      · exact nomatch z13
    · exact nomatch z9
  · exact nomatch z5
abbrev rmx_X4_enter : Room := { frames := 8, cells := 1, slots := 6, locals := 132 }
set_option maxHeartbeats 4000000 in
set_option maxRecDepth 100000 in
theorem cx_X4_enter {l : Launch} {D : va_G} {Y : Nat → ClassId} {S : GS} {hs : Nat} {a0 : Nat} {x1 : Int32} {x2 : Int32} {x3 : Int32} {x4 : Int32} {x : Nat} (hfl : l.stackTraces = false) (h : f_X4_enter S a0 x1 x2 x3 x4 = some (.inr x)) : gMx l yX4_enter (gWs yX4_enter cX4_enter 7 (some .boolean)) rmx_X4_enter [va_rf (some a0), .int x1, .int x2, .int x3, .int x4] D Y S hs (.inr x) := by
  refine g_ofWx (by decide +kernel) (Or.inl ⟨(Nat.le_of_ble_eq_true rfl), (List.forall_mem_cons.mpr ⟨rf_cat _, (List.forall_mem_cons.mpr ⟨rfl, (List.forall_mem_cons.mpr ⟨rfl, (List.forall_mem_cons.mpr ⟨rfl, (List.forall_mem_cons.mpr ⟨rfl, (fun _ h => absurd h List.not_mem_nil)⟩)⟩)⟩)⟩)⟩)⟩) ?_
  intro p e s m args below meth c ls hsz hout hF hM hl
  have hl : lv_has ls 7 [(0, va_rf (some a0)), (1, .int x1), (2, .int x2), (3, .int x3), (4, .int x4)] := by rw [g_args [va_rf (some a0), .int x1, .int x2, .int x3, .int x4] 0 (List.forall_mem_cons.mpr ⟨rf_cat _, (List.forall_mem_cons.mpr ⟨rfl, (List.forall_mem_cons.mpr ⟨rfl, (List.forall_mem_cons.mpr ⟨rfl, (List.forall_mem_cons.mpr ⟨rfl, (fun _ h => absurd h List.not_mem_nil)⟩)⟩)⟩)⟩)⟩)] at hl; exact hl
  have hF : gF p s m args meth c RX4 cX4_enter 7 (some .boolean) D Y (gA S hs) := hF
  have hx := hF.1
  have hb := hF.2.1
  unfold f_X4_enter at h
  refine g_aload_n hx hb dX4_enter_0 rfl (lv_at hl 0 rfl) ?_
  refine lv_iload_n hx hb dX4_enter_1 rfl (lv_at hl 1 rfl) ?_
  have g := gckE h
  clear h
  obtain ⟨t1, h⟩ := g
  have t1 := eq_of_beq t1
  have g := gthE h
  clear h
  rcases g with ⟨v3, e2, h⟩ | ⟨y4, e2, z5⟩
  · refine g_callV (As := [.int x1]) (rest := []) hF hM (c_X4_needMap e2) k_X4_needMap u622 u624 u15 rfl rfl t1 rfl hl.1 rfl (Nat.le_of_ble_eq_true rfl) dX4_enter_2 ⟨(Nat.le_of_ble_eq_true rfl), (Nat.le_of_ble_eq_true rfl)⟩ ⟨(Nat.le_of_ble_eq_true rfl), (Nat.le_of_ble_eq_true rfl)⟩ (fun H locs hM => ?_)
    have g := gthE h
    clear h
    rcases g with ⟨v7, e6, h⟩ | ⟨y8, e6, z9⟩
    · refine g_callS (As := [va_rf v3]) (rest := []) hF hM (c_X4_openStore e6) k_X4_openStore u732 u733 rfl hl.1 rfl (Nat.le_of_ble_eq_true rfl) dX4_enter_5 ⟨(Nat.le_of_ble_eq_true rfl), (Nat.le_of_ble_eq_true rfl)⟩ ⟨(Nat.le_of_ble_eq_true rfl), (Nat.le_of_ble_eq_true rfl)⟩ (fun H locs hM => ?_)
      refine g_astore (i := 5) (lv' := [(0, va_rf (some a0)), (1, .int x1), (2, .int x2), (3, .int x3), (4, .int x4)]) hx hb dX4_enter_8 hl (by decide) (fun v => rfl) (fun ls hl => ?_)
      refine lv_iload_n hx hb dX4_enter_10 rfl (lv_at hl 4 rfl) ?_
      refine lv_iload hx hb dX4_enter_11 (lv_at hl 5 rfl) ?_
      have g := gthE h
      clear h
      rcases g with ⟨w11, e10, h⟩ | ⟨y12, e10, z13⟩
      · refine g_callS (As := [.int x3, .int x4]) (rest := []) hF hM (c_X4_needThing e10) k_X4_needThing u590 u591 rfl hl.1 rfl (Nat.le_of_ble_eq_true rfl) dX4_enter_13 ⟨(Nat.le_of_ble_eq_true rfl), (Nat.le_of_ble_eq_true rfl)⟩ ⟨(Nat.le_of_ble_eq_true rfl), (Nat.le_of_ble_eq_true rfl)⟩ (fun H locs hM => ?_)
        refine g_aload hx hb dX4_enter_16 (lv_at hl 0 rfl) ?_
        refine lv_iload_n hx hb dX4_enter_18 rfl (lv_at hl 3 rfl) ?_
        have g := gbind h
        clear h
        obtain ⟨a14, e15, h⟩ := g
        have t16 := (gtk_of e15).2
        rw [(gtk_of e15).1]
        have g := gbind h
        clear h
        obtain ⟨v18, e17, h⟩ := g
        refine g_callV (As := [.int x2]) (rest := []) hF hM (c_X3_placeOfNumber e17) k_X3_placeOfNumber u971 u264 u265 rfl rfl t16 rfl hl.1 rfl (Nat.le_of_ble_eq_true rfl) dX4_enter_19 ⟨(Nat.le_of_ble_eq_true rfl), (Nat.le_of_ble_eq_true rfl)⟩ ⟨(Nat.le_of_ble_eq_true rfl), (Nat.le_of_ble_eq_true rfl)⟩ (fun H locs hM => ?_)
        refine lv_istore (i := 6) (lv' := [(6, .int v18), (5, va_rf v7), (0, va_rf (some a0)), (1, .int x1), (2, .int x2), (3, .int x3), (4, .int x4)]) hx hb dX4_enter_22 hl (by decide) (by simp [rf_cat, ic_cat, lc_cat]) (fun ls hl => ?_)
        refine lv_iload hx hb dX4_enter_24 (lv_at hl 0 rfl) ?_
        refine lv_if_lt (tgt := 41) hx hb dX4_enter_26 (by decide) (fun c19 => ?_) (fun c19 => ?_)
        · replace h := (if_pos c19).symm.trans h
          refine g_aload hx hb dX4_enter_41 (lv_at hl 1 rfl) ?_
          refine lv_iconst (v := 1) hx hb dX4_enter_43 (by decide) ?_
          have g := gthE h
          clear h
          rcases g with ⟨w21, e20, h⟩ | ⟨y22, e20, z23⟩
          · refine g_callS (As := [va_rf v7, .int 1]) (rest := []) hF hM (c_X4_needRoom e20) k_X4_needRoom u753 u754 rfl hl.1 rfl (Nat.le_of_ble_eq_true rfl) dX4_enter_44 ⟨(Nat.le_of_ble_eq_true rfl), (Nat.le_of_ble_eq_true rfl)⟩ ⟨(Nat.le_of_ble_eq_true rfl), (Nat.le_of_ble_eq_true rfl)⟩ (fun H locs hM => ?_)
            refine g_aload hx hb dX4_enter_47 (lv_at hl 1 rfl) ?_
            refine g_aload hx hb dX4_enter_49 (lv_at hl 1 rfl) ?_
            refine lv_iload_n hx hb dX4_enter_51 rfl (lv_at hl 4 rfl) ?_
            have g := gbind h
            clear h
            obtain ⟨a24, e25, h⟩ := g
            have t26 := (gtk_of e25).2
            rw [(gtk_of e25).1]
            have g := gbind h
            clear h
            obtain ⟨v28, e27, h⟩ := g
            refine g_callV (As := [.int x2]) (rest := [va_rf (some a24)]) hF hM (c_X3_placeToEnter e27) k_X3_placeToEnter u972 u973 u974 rfl rfl t26 rfl hl.1 rfl (Nat.le_of_ble_eq_true rfl) dX4_enter_52 ⟨(Nat.le_of_ble_eq_true rfl), (Nat.le_of_ble_eq_true rfl)⟩ ⟨(Nat.le_of_ble_eq_true rfl), (Nat.le_of_ble_eq_true rfl)⟩ (fun H locs hM => ?_)
            refine lv_iload_n hx hb dX4_enter_55 rfl (lv_at hl 4 rfl) ?_
            refine lv_iload_n hx hb dX4_enter_56 rfl (lv_at hl 5 rfl) ?_
            refine lv_iload hx hb dX4_enter_57 (lv_at hl 6 rfl) ?_
            have g := gckE h
            clear h
            obtain ⟨t29, h⟩ := g
            have t29 := eq_of_beq t29
            have g := gbind h
            clear h
            obtain ⟨S31, e30, h⟩ := g
            refine g_callV (As := [.int v28, .int x2, .int x3, .int x4]) (rest := []) hF hM (c_X3_insert e30) k_X3_insert u771 u280 u281 rfl rfl t29 rfl hl.1 rfl (Nat.le_of_ble_eq_true rfl) dX4_enter_59 ⟨(Nat.le_of_ble_eq_true rfl), (Nat.le_of_ble_eq_true rfl)⟩ ⟨(Nat.le_of_ble_eq_true rfl), (Nat.le_of_ble_eq_true rfl)⟩ (fun H locs hM => ?_)
            refine lv_iconst (v := 0) hx hb dX4_enter_62 (by decide) ?_
            exact nomatch (Option.some.inj h)
          · exact g_callSt (As := [va_rf v7, .int 1]) (rest := []) hF hM hout (cx_X4_needRoom hfl e20) k_X4_needRoom u753 u754 rfl hl.1 rfl (Nat.le_of_ble_eq_true rfl) dX4_enter_44 ⟨(Nat.le_of_ble_eq_true rfl), (Nat.le_of_ble_eq_true rfl)⟩ ⟨(Nat.le_of_ble_eq_true rfl), (Nat.le_of_ble_eq_true rfl)⟩ (Nat.le_of_ble_eq_true rfl) (Nat.le_of_ble_eq_true rfl) (congrArg Sum.inr (Sum.inr.inj z23))
        · replace h := (if_neg c19).symm.trans h
          refine g_aload hx hb dX4_enter_29 (lv_at hl 1 rfl) ?_
          refine lv_iload hx hb dX4_enter_31 (lv_at hl 0 rfl) ?_
          refine lv_iload_n hx hb dX4_enter_33 rfl (lv_at hl 5 rfl) ?_
          refine lv_iload hx hb dX4_enter_34 (lv_at hl 6 rfl) ?_
          have g := gbind h
          clear h
          obtain ⟨a32, e33, h⟩ := g
          have t34 := (gtk_of e33).2
          rw [(gtk_of e33).1]
          have g := gbind h
          clear h
          obtain ⟨S36, e35, h⟩ := g
          refine g_callV (As := [.int v18, .int x3, .int x4]) (rest := []) hF hM (c_X3_lay e35) k_X3_lay u788 u292 u293 rfl rfl t34 rfl hl.1 rfl (Nat.le_of_ble_eq_true rfl) dX4_enter_36 ⟨(Nat.le_of_ble_eq_true rfl), (Nat.le_of_ble_eq_true rfl)⟩ ⟨(Nat.le_of_ble_eq_true rfl), (Nat.le_of_ble_eq_true rfl)⟩ (fun H locs hM => ?_)
          refine lv_iconst (v := 1) hx hb dX4_enter_39 (by decide) ?_
          exact nomatch (Option.some.inj h)
      · exact g_callSt (As := [.int x3, .int x4]) (rest := []) hF hM hout (cx_X4_needThing hfl e10) k_X4_needThing u590 u591 rfl hl.1 rfl (Nat.le_of_ble_eq_true rfl) dX4_enter_13 ⟨(Nat.le_of_ble_eq_true rfl), (Nat.le_of_ble_eq_true rfl)⟩ ⟨(Nat.le_of_ble_eq_true rfl), (Nat.le_of_ble_eq_true rfl)⟩ (Nat.le_of_ble_eq_true rfl) (Nat.le_of_ble_eq_true rfl) (congrArg Sum.inr (Sum.inr.inj z13))
    · exact g_callSt (As := [va_rf v3]) (rest := []) hF hM hout (cx_X4_openStore hfl e6) k_X4_openStore u732 u733 rfl hl.1 rfl (Nat.le_of_ble_eq_true rfl) dX4_enter_5 ⟨(Nat.le_of_ble_eq_true rfl), (Nat.le_of_ble_eq_true rfl)⟩ ⟨(Nat.le_of_ble_eq_true rfl), (Nat.le_of_ble_eq_true rfl)⟩ (Nat.le_of_ble_eq_true rfl) (Nat.le_of_ble_eq_true rfl) (congrArg Sum.inr (Sum.inr.inj z9))
  · exact g_callVt (As := [.int x1]) (rest := []) hF hM hout (cx_X4_needMap hfl e2) k_X4_needMap u622 u624 u15 rfl rfl t1 rfl hl.1 rfl (Nat.le_of_ble_eq_true rfl) dX4_enter_2 ⟨(Nat.le_of_ble_eq_true rfl), (Nat.le_of_ble_eq_true rfl)⟩ ⟨(Nat.le_of_ble_eq_true rfl), (Nat.le_of_ble_eq_true rfl)⟩ (Nat.le_of_ble_eq_true rfl) (Nat.le_of_ble_eq_true rfl) (congrArg Sum.inr (Sum.inr.inj z5))
abbrev rm_X4_needNumbers : Room := { frames := 1, cells := 0, slots := 0, locals := 21 }
theorem k_X4_needNumbers : gKc yX4_needNumbers cX4_needNumbers 3 (some (.object "Viewhouse$Pane")) 1 := ⟨u986, u63, by decide +kernel, by decide +kernel, by decide +kernel⟩
set_option maxHeartbeats 4000000 in
set_option maxRecDepth 100000 in
theorem c_X4_needNumbers {l : Launch} {D : va_G} {Y : Nat → ClassId} {S : GS} {hs : Nat} {a0 : Nat} {x1 : Int32} {r : Option Nat} (h : f_X4_needNumbers S a0 x1 = some (.inl r)) : gMet l yX4_needNumbers (gWs yX4_needNumbers cX4_needNumbers 3 (some (.object "Viewhouse$Pane"))) rm_X4_needNumbers [va_rf (some a0), .int x1] D Y S hs (some (va_rf r)) S hs := by
  refine g_ofW (by decide +kernel) (Or.inl ⟨(Nat.le_of_ble_eq_true rfl), (List.forall_mem_cons.mpr ⟨rf_cat _, (List.forall_mem_cons.mpr ⟨rfl, (fun _ h => absurd h List.not_mem_nil)⟩)⟩)⟩) ?_
  intro p e s m args below meth c ls hsz hname hF hM hl
  have hl : lv_has ls 3 [(0, va_rf (some a0)), (1, .int x1)] := by rw [g_args [va_rf (some a0), .int x1] 0 (List.forall_mem_cons.mpr ⟨rf_cat _, (List.forall_mem_cons.mpr ⟨rfl, (fun _ h => absurd h List.not_mem_nil)⟩)⟩)] at hl; exact hl
  have hF : gF p s m args meth c RX4 cX4_needNumbers 3 (some (.object "Viewhouse$Pane")) D Y (gA S hs) := hF
  have hx := hF.1
  have hb := hF.2.1
  have Jb34 : ∀ (x2 : Option Nat), f_X4_needNumbers_b34 S a0 x2 = some (.inl r) → ∀ (H : Heap) (locs : List Loc) (ls : Array Slot), gM D Y (gA S hs) s.heap S hs H locs → lv_has ls 3 [(2, va_rf x2)] → W p l e rm_X4_needNumbers s m args below meth c H locs 0 0 (MQ below (gQ (some (va_rf r)) D Y S hs (gA S hs)) args s rm_X4_needNumbers.cells rm_X4_needNumbers.slots (gA S hs)) (F0 m 34 ls []) := by
    intro x2 h H locs ls hM hl
    unfold f_X4_needNumbers_b34 at h
    refine g_aload_n hx hb dX4_needNumbers_34 rfl (lv_at hl 0 rfl) ?_
    rw [← (Sum.inl.inj (Option.some.inj h))]
    exact g_aret hF hM rfl (Or.inl ⟨_, rfl⟩) dX4_needNumbers_35 (Nat.le_of_ble_eq_true rfl) (Nat.le_of_ble_eq_true rfl)
  unfold f_X4_needNumbers at h
  refine g_aload_n hx hb dX4_needNumbers_0 rfl (lv_at hl 0 rfl) ?_
  refine lv_iload_n hx hb dX4_needNumbers_1 rfl (lv_at hl 1 rfl) ?_
  have g := gckE h
  clear h
  obtain ⟨t1, h⟩ := g
  have t1 := eq_of_beq t1
  have g := gthE h
  clear h
  rcases g with ⟨v3, e2, h⟩ | ⟨y4, e2, z5⟩
  · refine g_callV (As := [.int x1]) (rest := []) hF hM (c_X4_held e2) k_X4_held u517 u519 u13 rfl rfl t1 rfl hl.1 rfl (Nat.le_of_ble_eq_true rfl) dX4_needNumbers_2 ⟨(Nat.le_of_ble_eq_true rfl), (Nat.le_of_ble_eq_true rfl)⟩ ⟨(Nat.le_of_ble_eq_true rfl), (Nat.le_of_ble_eq_true rfl)⟩ (fun H locs hM => ?_)
    refine g_astore_n (i := 2) (lv' := [(0, va_rf (some a0)), (1, .int x1)]) hx hb dX4_needNumbers_5 rfl hl (by decide) (fun v => rfl) (fun ls hl => ?_)
    refine g_aload_n hx hb dX4_needNumbers_6 rfl (lv_at hl 0 rfl) ?_
    refine g_ifnull (tgt := 26) hx hb dX4_needNumbers_7 (by decide) (fun c6 => ?_) (fun c6 => ?_)
    · replace h := (if_pos c6).symm.trans h
      exact nomatch (Option.some.inj h)
    · replace h := (if_neg c6).symm.trans h
      refine g_aload_n hx hb dX4_needNumbers_10 rfl (lv_at hl 0 rfl) ?_
      have g := gbind h
      clear h
      obtain ⟨a7, e8, h⟩ := g
      have t9 := (gtk_of e8).2
      rw [(gtk_of e8).1]
      have g := gbind h
      clear h
      obtain ⟨v11, e10, h⟩ := g
      refine g_callV (As := []) (rest := []) hF hM (c_X1_isMap e10) k_X1_isMap u626 u205 u206 rfl rfl t9 rfl hl.1 rfl (Nat.le_of_ble_eq_true rfl) dX4_needNumbers_11 ⟨(Nat.le_of_ble_eq_true rfl), (Nat.le_of_ble_eq_true rfl)⟩ ⟨(Nat.le_of_ble_eq_true rfl), (Nat.le_of_ble_eq_true rfl)⟩ (fun H locs hM => ?_)
      refine lv_if_ne (tgt := 34) hx hb dX4_needNumbers_14 (by decide) (fun c12 => ?_) (fun c12 => ?_)
      · replace h := (if_neg c12).symm.trans h
        refine W.widen (k := 0) (n := 0) (Nat.le_of_ble_eq_true rfl) (Nat.le_of_ble_eq_true rfl) ?_
        exact Jb34 _ h _ _ _ hM (lv_sub hl [0] rfl)
      · replace h := (if_pos c12).symm.trans h
        refine g_aload_n hx hb dX4_needNumbers_17 rfl (lv_at hl 0 rfl) ?_
        have g := gbind h
        clear h
        obtain ⟨v13, e14, h⟩ := g
        refine g_getI hF hM fdX1 e14 (by decide) rfl u131 dX4_needNumbers_18 ?_
        refine lv_bipush (v := 107) hx hb dX4_needNumbers_21 (by decide) ?_
        refine lv_icmp_eq (tgt := 34) hx hb dX4_needNumbers_23 (by decide) (fun c15 => ?_) (fun c15 => ?_)
        · replace h := (if_pos c15).symm.trans h
          refine W.widen (k := 0) (n := 0) (Nat.le_of_ble_eq_true rfl) (Nat.le_of_ble_eq_true rfl) ?_
          exact Jb34 _ h _ _ _ hM (lv_sub hl [0] rfl)
        · replace h := (if_neg c15).symm.trans h
          exact nomatch (Option.some.inj h)
  · exact nomatch z5
abbrev rmx_X4_needNumbers : Room := { frames := 7, cells := 1, slots := 6, locals := 110 }
set_option maxHeartbeats 4000000 in
set_option maxRecDepth 100000 in
theorem cx_X4_needNumbers {l : Launch} {D : va_G} {Y : Nat → ClassId} {S : GS} {hs : Nat} {a0 : Nat} {x1 : Int32} {x : Nat} (hfl : l.stackTraces = false) (h : f_X4_needNumbers S a0 x1 = some (.inr x)) : gMx l yX4_needNumbers (gWs yX4_needNumbers cX4_needNumbers 3 (some (.object "Viewhouse$Pane"))) rmx_X4_needNumbers [va_rf (some a0), .int x1] D Y S hs (.inr x) := by
  refine g_ofWx (by decide +kernel) (Or.inl ⟨(Nat.le_of_ble_eq_true rfl), (List.forall_mem_cons.mpr ⟨rf_cat _, (List.forall_mem_cons.mpr ⟨rfl, (fun _ h => absurd h List.not_mem_nil)⟩)⟩)⟩) ?_
  intro p e s m args below meth c ls hsz hout hF hM hl
  have hl : lv_has ls 3 [(0, va_rf (some a0)), (1, .int x1)] := by rw [g_args [va_rf (some a0), .int x1] 0 (List.forall_mem_cons.mpr ⟨rf_cat _, (List.forall_mem_cons.mpr ⟨rfl, (fun _ h => absurd h List.not_mem_nil)⟩)⟩)] at hl; exact hl
  have hF : gF p s m args meth c RX4 cX4_needNumbers 3 (some (.object "Viewhouse$Pane")) D Y (gA S hs) := hF
  have hx := hF.1
  have hb := hF.2.1
  have Jb34 : ∀ (x2 : Option Nat), f_X4_needNumbers_b34 S a0 x2 = some (.inr x) → ∀ (H : Heap) (locs : List Loc) (ls : Array Slot), gM D Y (gA S hs) s.heap S hs H locs → lv_has ls 3 [(2, va_rf x2)] → W p l e rmx_X4_needNumbers s m args below meth c H locs 0 0 (vx_MQ below (gQz (.inr x) D Y (gA S hs)) (gXz (.inr x) D Y S (gA S hs)) args s rmx_X4_needNumbers.cells rmx_X4_needNumbers.slots (gA S hs)) (F0 m 34 ls []) := by
    intro x2 h H locs ls hM hl
    unfold f_X4_needNumbers_b34 at h
    refine g_aload_n hx hb dX4_needNumbers_34 rfl (lv_at hl 0 rfl) ?_
    exact nomatch (Option.some.inj h)
  unfold f_X4_needNumbers at h
  refine g_aload_n hx hb dX4_needNumbers_0 rfl (lv_at hl 0 rfl) ?_
  refine lv_iload_n hx hb dX4_needNumbers_1 rfl (lv_at hl 1 rfl) ?_
  have g := gckE h
  clear h
  obtain ⟨t1, h⟩ := g
  have t1 := eq_of_beq t1
  have g := gthE h
  clear h
  rcases g with ⟨v3, e2, h⟩ | ⟨y4, e2, z5⟩
  · refine g_callV (As := [.int x1]) (rest := []) hF hM (c_X4_held e2) k_X4_held u517 u519 u13 rfl rfl t1 rfl hl.1 rfl (Nat.le_of_ble_eq_true rfl) dX4_needNumbers_2 ⟨(Nat.le_of_ble_eq_true rfl), (Nat.le_of_ble_eq_true rfl)⟩ ⟨(Nat.le_of_ble_eq_true rfl), (Nat.le_of_ble_eq_true rfl)⟩ (fun H locs hM => ?_)
    refine g_astore_n (i := 2) (lv' := [(0, va_rf (some a0)), (1, .int x1)]) hx hb dX4_needNumbers_5 rfl hl (by decide) (fun v => rfl) (fun ls hl => ?_)
    refine g_aload_n hx hb dX4_needNumbers_6 rfl (lv_at hl 0 rfl) ?_
    refine g_ifnull (tgt := 26) hx hb dX4_needNumbers_7 (by decide) (fun c6 => ?_) (fun c6 => ?_)
    · replace h := (if_pos c6).symm.trans h
      exact g_throw hF hM hfl hout ew_X4_50_52 (congrArg Sum.inr (Sum.inr.inj (Option.some.inj h)).symm) hl.1 dX4_needNumbers_26 dX4_needNumbers_29 dX4_needNumbers_30 dX4_needNumbers_33 (Nat.le_of_ble_eq_true rfl) (Nat.le_of_ble_eq_true rfl) (Nat.le_of_ble_eq_true rfl) (Nat.le_of_ble_eq_true rfl) (Nat.le_of_ble_eq_true rfl) (Nat.le_of_ble_eq_true rfl)
    · replace h := (if_neg c6).symm.trans h
      refine g_aload_n hx hb dX4_needNumbers_10 rfl (lv_at hl 0 rfl) ?_
      have g := gbind h
      clear h
      obtain ⟨a7, e8, h⟩ := g
      have t9 := (gtk_of e8).2
      rw [(gtk_of e8).1]
      have g := gbind h
      clear h
      obtain ⟨v11, e10, h⟩ := g
      refine g_callV (As := []) (rest := []) hF hM (c_X1_isMap e10) k_X1_isMap u626 u205 u206 rfl rfl t9 rfl hl.1 rfl (Nat.le_of_ble_eq_true rfl) dX4_needNumbers_11 ⟨(Nat.le_of_ble_eq_true rfl), (Nat.le_of_ble_eq_true rfl)⟩ ⟨(Nat.le_of_ble_eq_true rfl), (Nat.le_of_ble_eq_true rfl)⟩ (fun H locs hM => ?_)
      refine lv_if_ne (tgt := 34) hx hb dX4_needNumbers_14 (by decide) (fun c12 => ?_) (fun c12 => ?_)
      · replace h := (if_neg c12).symm.trans h
        refine W.widen (k := 0) (n := 0) (Nat.le_of_ble_eq_true rfl) (Nat.le_of_ble_eq_true rfl) ?_
        exact Jb34 _ h _ _ _ hM (lv_sub hl [0] rfl)
      · replace h := (if_pos c12).symm.trans h
        refine g_aload_n hx hb dX4_needNumbers_17 rfl (lv_at hl 0 rfl) ?_
        have g := gbind h
        clear h
        obtain ⟨v13, e14, h⟩ := g
        refine g_getI hF hM fdX1 e14 (by decide) rfl u131 dX4_needNumbers_18 ?_
        refine lv_bipush (v := 107) hx hb dX4_needNumbers_21 (by decide) ?_
        refine lv_icmp_eq (tgt := 34) hx hb dX4_needNumbers_23 (by decide) (fun c15 => ?_) (fun c15 => ?_)
        · replace h := (if_pos c15).symm.trans h
          refine W.widen (k := 0) (n := 0) (Nat.le_of_ble_eq_true rfl) (Nat.le_of_ble_eq_true rfl) ?_
          exact Jb34 _ h _ _ _ hM (lv_sub hl [0] rfl)
        · replace h := (if_neg c15).symm.trans h
          exact g_throw hF hM hfl hout ew_X4_50_52 (congrArg Sum.inr (Sum.inr.inj (Option.some.inj h)).symm) hl.1 dX4_needNumbers_26 dX4_needNumbers_29 dX4_needNumbers_30 dX4_needNumbers_33 (Nat.le_of_ble_eq_true rfl) (Nat.le_of_ble_eq_true rfl) (Nat.le_of_ble_eq_true rfl) (Nat.le_of_ble_eq_true rfl) (Nat.le_of_ble_eq_true rfl) (Nat.le_of_ble_eq_true rfl)
  · exact g_callVt (As := [.int x1]) (rest := []) hF hM hout (cx_X4_held hfl e2) k_X4_held u517 u519 u13 rfl rfl t1 rfl hl.1 rfl (Nat.le_of_ble_eq_true rfl) dX4_needNumbers_2 ⟨(Nat.le_of_ble_eq_true rfl), (Nat.le_of_ble_eq_true rfl)⟩ ⟨(Nat.le_of_ble_eq_true rfl), (Nat.le_of_ble_eq_true rfl)⟩ (Nat.le_of_ble_eq_true rfl) (Nat.le_of_ble_eq_true rfl) (congrArg Sum.inr (Sum.inr.inj z5))
abbrev rm_X4_strike : Room := { frames := 3, cells := 0, slots := 0, locals := 65 }
theorem k_X4_strike : gKc yX4_strike cX4_strike 5 (some .boolean) 2 := ⟨u982, u63, by decide +kernel, by decide +kernel, by decide +kernel⟩
set_option maxHeartbeats 4000000 in
set_option maxRecDepth 100000 in
theorem c_X4_strike {l : Launch} {D : va_G} {Y : Nat → ClassId} {S : GS} {hs : Nat} {a0 : Nat} {x1 : Int32} {x2 : Int32} {r : Int32} {S' : GS} (h : f_X4_strike S a0 x1 x2 = some (.inl (r, S'))) : gMet l yX4_strike (gWs yX4_strike cX4_strike 5 (some .boolean)) rm_X4_strike [va_rf (some a0), .int x1, .int x2] D Y S hs (some (.int r)) S' hs := by
  refine g_ofW (by decide +kernel) (Or.inl ⟨(Nat.le_of_ble_eq_true rfl), (List.forall_mem_cons.mpr ⟨rf_cat _, (List.forall_mem_cons.mpr ⟨rfl, (List.forall_mem_cons.mpr ⟨rfl, (fun _ h => absurd h List.not_mem_nil)⟩)⟩)⟩)⟩) ?_
  intro p e s m args below meth c ls hsz hname hF hM hl
  have hl : lv_has ls 5 [(0, va_rf (some a0)), (1, .int x1), (2, .int x2)] := by rw [g_args [va_rf (some a0), .int x1, .int x2] 0 (List.forall_mem_cons.mpr ⟨rf_cat _, (List.forall_mem_cons.mpr ⟨rfl, (List.forall_mem_cons.mpr ⟨rfl, (fun _ h => absurd h List.not_mem_nil)⟩)⟩)⟩)] at hl; exact hl
  have hF : gF p s m args meth c RX4 cX4_strike 5 (some .boolean) D Y (gA S hs) := hF
  have hx := hF.1
  have hb := hF.2.1
  unfold f_X4_strike at h
  refine g_aload_n hx hb dX4_strike_0 rfl (lv_at hl 0 rfl) ?_
  refine lv_iload_n hx hb dX4_strike_1 rfl (lv_at hl 1 rfl) ?_
  have g := gckE h
  clear h
  obtain ⟨t1, h⟩ := g
  have t1 := eq_of_beq t1
  have g := gthE h
  clear h
  rcases g with ⟨v3, e2, h⟩ | ⟨y4, e2, z5⟩
  · refine g_callV (As := [.int x1]) (rest := []) hF hM (c_X4_needNumbers e2) k_X4_needNumbers u983 u985 u23 rfl rfl t1 rfl hl.1 rfl (Nat.le_of_ble_eq_true rfl) dX4_strike_2 ⟨(Nat.le_of_ble_eq_true rfl), (Nat.le_of_ble_eq_true rfl)⟩ ⟨(Nat.le_of_ble_eq_true rfl), (Nat.le_of_ble_eq_true rfl)⟩ (fun H locs hM => ?_)
    have g := gthE h
    clear h
    rcases g with ⟨v7, e6, h⟩ | ⟨y8, e6, z9⟩
    · refine g_callS (As := [va_rf v3]) (rest := []) hF hM (c_X4_openStore e6) k_X4_openStore u732 u733 rfl hl.1 rfl (Nat.le_of_ble_eq_true rfl) dX4_strike_5 ⟨(Nat.le_of_ble_eq_true rfl), (Nat.le_of_ble_eq_true rfl)⟩ ⟨(Nat.le_of_ble_eq_true rfl), (Nat.le_of_ble_eq_true rfl)⟩ (fun H locs hM => ?_)
      refine g_astore_n (i := 3) (lv' := [(0, va_rf (some a0)), (1, .int x1), (2, .int x2)]) hx hb dX4_strike_8 rfl hl (by decide) (fun v => rfl) (fun ls hl => ?_)
      refine g_aload_n hx hb dX4_strike_9 rfl (lv_at hl 0 rfl) ?_
      refine lv_iload_n hx hb dX4_strike_10 rfl (lv_at hl 3 rfl) ?_
      have g := gbind h
      clear h
      obtain ⟨a10, e11, h⟩ := g
      have t12 := (gtk_of e11).2
      rw [(gtk_of e11).1]
      have g := gbind h
      clear h
      obtain ⟨v14, e13, h⟩ := g
      refine g_callV (As := [.int x2]) (rest := []) hF hM (c_X3_placeOfNumber e13) k_X3_placeOfNumber u971 u264 u265 rfl rfl t12 rfl hl.1 rfl (Nat.le_of_ble_eq_true rfl) dX4_strike_11 ⟨(Nat.le_of_ble_eq_true rfl), (Nat.le_of_ble_eq_true rfl)⟩ ⟨(Nat.le_of_ble_eq_true rfl), (Nat.le_of_ble_eq_true rfl)⟩ (fun H locs hM => ?_)
      refine lv_istore (i := 4) (lv' := [(4, .int v14), (3, va_rf v7), (0, va_rf (some a0)), (1, .int x1), (2, .int x2)]) hx hb dX4_strike_14 hl (by decide) (by simp [rf_cat, ic_cat, lc_cat]) (fun ls hl => ?_)
      refine g_aload_n hx hb dX4_strike_16 rfl (lv_at hl 1 rfl) ?_
      refine lv_iload hx hb dX4_strike_17 (lv_at hl 0 rfl) ?_
      have g := gbind h
      clear h
      obtain ⟨a15, e16, h⟩ := g
      have t17 := (gtk_of e16).2
      rw [(gtk_of e16).1]
      have g := gbind h
      clear h
      obtain ⟨S19, e18, h⟩ := g
      refine g_callV (As := [.int v14]) (rest := []) hF hM (c_X3_remove e18) k_X3_remove u796 u797 u798 rfl rfl t17 rfl hl.1 rfl (Nat.le_of_ble_eq_true rfl) dX4_strike_19 ⟨(Nat.le_of_ble_eq_true rfl), (Nat.le_of_ble_eq_true rfl)⟩ ⟨(Nat.le_of_ble_eq_true rfl), (Nat.le_of_ble_eq_true rfl)⟩ (fun H locs hM => ?_)
      refine lv_iload hx hb dX4_strike_22 (lv_at hl 0 rfl) ?_
      refine lv_if_lt (tgt := 31) hx hb dX4_strike_24 (by decide) (fun c20 => ?_) (fun c20 => ?_)
      · replace h := (if_pos c20).symm.trans h
        refine lv_iconst (v := 0) hx hb dX4_strike_31 (by decide) ?_
        obtain ⟨q1, q2⟩ := Prod.mk.inj (Sum.inl.inj (Option.some.inj h))
        rw [← q1, ← q2]
        exact g_iret hF hM rfl rfl dX4_strike_32 (Nat.le_of_ble_eq_true rfl) (Nat.le_of_ble_eq_true rfl)
      · replace h := (if_neg c20).symm.trans h
        refine lv_iconst (v := 1) hx hb dX4_strike_27 (by decide) ?_
        refine lv_goto (tgt := 32) hx hb dX4_strike_28 (by decide) ?_
        obtain ⟨q1, q2⟩ := Prod.mk.inj (Sum.inl.inj (Option.some.inj h))
        rw [← q1, ← q2]
        exact g_iret hF hM rfl rfl dX4_strike_32 (Nat.le_of_ble_eq_true rfl) (Nat.le_of_ble_eq_true rfl)
    · exact nomatch z9
  · exact nomatch z5
abbrev rmx_X4_strike : Room := { frames := 8, cells := 1, slots := 6, locals := 132 }
set_option maxHeartbeats 4000000 in
set_option maxRecDepth 100000 in
theorem cx_X4_strike {l : Launch} {D : va_G} {Y : Nat → ClassId} {S : GS} {hs : Nat} {a0 : Nat} {x1 : Int32} {x2 : Int32} {x : Nat} (hfl : l.stackTraces = false) (h : f_X4_strike S a0 x1 x2 = some (.inr x)) : gMx l yX4_strike (gWs yX4_strike cX4_strike 5 (some .boolean)) rmx_X4_strike [va_rf (some a0), .int x1, .int x2] D Y S hs (.inr x) := by
  refine g_ofWx (by decide +kernel) (Or.inl ⟨(Nat.le_of_ble_eq_true rfl), (List.forall_mem_cons.mpr ⟨rf_cat _, (List.forall_mem_cons.mpr ⟨rfl, (List.forall_mem_cons.mpr ⟨rfl, (fun _ h => absurd h List.not_mem_nil)⟩)⟩)⟩)⟩) ?_
  intro p e s m args below meth c ls hsz hout hF hM hl
  have hl : lv_has ls 5 [(0, va_rf (some a0)), (1, .int x1), (2, .int x2)] := by rw [g_args [va_rf (some a0), .int x1, .int x2] 0 (List.forall_mem_cons.mpr ⟨rf_cat _, (List.forall_mem_cons.mpr ⟨rfl, (List.forall_mem_cons.mpr ⟨rfl, (fun _ h => absurd h List.not_mem_nil)⟩)⟩)⟩)] at hl; exact hl
  have hF : gF p s m args meth c RX4 cX4_strike 5 (some .boolean) D Y (gA S hs) := hF
  have hx := hF.1
  have hb := hF.2.1
  unfold f_X4_strike at h
  refine g_aload_n hx hb dX4_strike_0 rfl (lv_at hl 0 rfl) ?_
  refine lv_iload_n hx hb dX4_strike_1 rfl (lv_at hl 1 rfl) ?_
  have g := gckE h
  clear h
  obtain ⟨t1, h⟩ := g
  have t1 := eq_of_beq t1
  have g := gthE h
  clear h
  rcases g with ⟨v3, e2, h⟩ | ⟨y4, e2, z5⟩
  · refine g_callV (As := [.int x1]) (rest := []) hF hM (c_X4_needNumbers e2) k_X4_needNumbers u983 u985 u23 rfl rfl t1 rfl hl.1 rfl (Nat.le_of_ble_eq_true rfl) dX4_strike_2 ⟨(Nat.le_of_ble_eq_true rfl), (Nat.le_of_ble_eq_true rfl)⟩ ⟨(Nat.le_of_ble_eq_true rfl), (Nat.le_of_ble_eq_true rfl)⟩ (fun H locs hM => ?_)
    have g := gthE h
    clear h
    rcases g with ⟨v7, e6, h⟩ | ⟨y8, e6, z9⟩
    · refine g_callS (As := [va_rf v3]) (rest := []) hF hM (c_X4_openStore e6) k_X4_openStore u732 u733 rfl hl.1 rfl (Nat.le_of_ble_eq_true rfl) dX4_strike_5 ⟨(Nat.le_of_ble_eq_true rfl), (Nat.le_of_ble_eq_true rfl)⟩ ⟨(Nat.le_of_ble_eq_true rfl), (Nat.le_of_ble_eq_true rfl)⟩ (fun H locs hM => ?_)
      refine g_astore_n (i := 3) (lv' := [(0, va_rf (some a0)), (1, .int x1), (2, .int x2)]) hx hb dX4_strike_8 rfl hl (by decide) (fun v => rfl) (fun ls hl => ?_)
      refine g_aload_n hx hb dX4_strike_9 rfl (lv_at hl 0 rfl) ?_
      refine lv_iload_n hx hb dX4_strike_10 rfl (lv_at hl 3 rfl) ?_
      have g := gbind h
      clear h
      obtain ⟨a10, e11, h⟩ := g
      have t12 := (gtk_of e11).2
      rw [(gtk_of e11).1]
      have g := gbind h
      clear h
      obtain ⟨v14, e13, h⟩ := g
      refine g_callV (As := [.int x2]) (rest := []) hF hM (c_X3_placeOfNumber e13) k_X3_placeOfNumber u971 u264 u265 rfl rfl t12 rfl hl.1 rfl (Nat.le_of_ble_eq_true rfl) dX4_strike_11 ⟨(Nat.le_of_ble_eq_true rfl), (Nat.le_of_ble_eq_true rfl)⟩ ⟨(Nat.le_of_ble_eq_true rfl), (Nat.le_of_ble_eq_true rfl)⟩ (fun H locs hM => ?_)
      refine lv_istore (i := 4) (lv' := [(4, .int v14), (3, va_rf v7), (0, va_rf (some a0)), (1, .int x1), (2, .int x2)]) hx hb dX4_strike_14 hl (by decide) (by simp [rf_cat, ic_cat, lc_cat]) (fun ls hl => ?_)
      refine g_aload_n hx hb dX4_strike_16 rfl (lv_at hl 1 rfl) ?_
      refine lv_iload hx hb dX4_strike_17 (lv_at hl 0 rfl) ?_
      have g := gbind h
      clear h
      obtain ⟨a15, e16, h⟩ := g
      have t17 := (gtk_of e16).2
      rw [(gtk_of e16).1]
      have g := gbind h
      clear h
      obtain ⟨S19, e18, h⟩ := g
      refine g_callV (As := [.int v14]) (rest := []) hF hM (c_X3_remove e18) k_X3_remove u796 u797 u798 rfl rfl t17 rfl hl.1 rfl (Nat.le_of_ble_eq_true rfl) dX4_strike_19 ⟨(Nat.le_of_ble_eq_true rfl), (Nat.le_of_ble_eq_true rfl)⟩ ⟨(Nat.le_of_ble_eq_true rfl), (Nat.le_of_ble_eq_true rfl)⟩ (fun H locs hM => ?_)
      refine lv_iload hx hb dX4_strike_22 (lv_at hl 0 rfl) ?_
      refine lv_if_lt (tgt := 31) hx hb dX4_strike_24 (by decide) (fun c20 => ?_) (fun c20 => ?_)
      · replace h := (if_pos c20).symm.trans h
        refine lv_iconst (v := 0) hx hb dX4_strike_31 (by decide) ?_
        exact nomatch (Option.some.inj h)
      · replace h := (if_neg c20).symm.trans h
        refine lv_iconst (v := 1) hx hb dX4_strike_27 (by decide) ?_
        refine lv_goto (tgt := 32) hx hb dX4_strike_28 (by decide) ?_
        exact nomatch (Option.some.inj h)
    · exact g_callSt (As := [va_rf v3]) (rest := []) hF hM hout (cx_X4_openStore hfl e6) k_X4_openStore u732 u733 rfl hl.1 rfl (Nat.le_of_ble_eq_true rfl) dX4_strike_5 ⟨(Nat.le_of_ble_eq_true rfl), (Nat.le_of_ble_eq_true rfl)⟩ ⟨(Nat.le_of_ble_eq_true rfl), (Nat.le_of_ble_eq_true rfl)⟩ (Nat.le_of_ble_eq_true rfl) (Nat.le_of_ble_eq_true rfl) (congrArg Sum.inr (Sum.inr.inj z9))
  · exact g_callVt (As := [.int x1]) (rest := []) hF hM hout (cx_X4_needNumbers hfl e2) k_X4_needNumbers u983 u985 u23 rfl rfl t1 rfl hl.1 rfl (Nat.le_of_ble_eq_true rfl) dX4_strike_2 ⟨(Nat.le_of_ble_eq_true rfl), (Nat.le_of_ble_eq_true rfl)⟩ ⟨(Nat.le_of_ble_eq_true rfl), (Nat.le_of_ble_eq_true rfl)⟩ (Nat.le_of_ble_eq_true rfl) (Nat.le_of_ble_eq_true rfl) (congrArg Sum.inr (Sum.inr.inj z5))
abbrev rm_X4_hasNumber : Room := { frames := 3, cells := 0, slots := 0, locals := 64 }
theorem k_X4_hasNumber : gKc yX4_hasNumber cX4_hasNumber 3 (some .boolean) 2 := ⟨u993, u63, by decide +kernel, by decide +kernel, by decide +kernel⟩
set_option maxHeartbeats 4000000 in
set_option maxRecDepth 100000 in
theorem c_X4_hasNumber {l : Launch} {D : va_G} {Y : Nat → ClassId} {S : GS} {hs : Nat} {a0 : Nat} {x1 : Int32} {x2 : Int32} {r : Int32} (h : f_X4_hasNumber S a0 x1 x2 = some (.inl r)) : gMet l yX4_hasNumber (gWs yX4_hasNumber cX4_hasNumber 3 (some .boolean)) rm_X4_hasNumber [va_rf (some a0), .int x1, .int x2] D Y S hs (some (.int r)) S hs := by
  refine g_ofW (by decide +kernel) (Or.inl ⟨(Nat.le_of_ble_eq_true rfl), (List.forall_mem_cons.mpr ⟨rf_cat _, (List.forall_mem_cons.mpr ⟨rfl, (List.forall_mem_cons.mpr ⟨rfl, (fun _ h => absurd h List.not_mem_nil)⟩)⟩)⟩)⟩) ?_
  intro p e s m args below meth c ls hsz hname hF hM hl
  have hl : lv_has ls 3 [(0, va_rf (some a0)), (1, .int x1), (2, .int x2)] := by rw [g_args [va_rf (some a0), .int x1, .int x2] 0 (List.forall_mem_cons.mpr ⟨rf_cat _, (List.forall_mem_cons.mpr ⟨rfl, (List.forall_mem_cons.mpr ⟨rfl, (fun _ h => absurd h List.not_mem_nil)⟩)⟩)⟩)] at hl; exact hl
  have hF : gF p s m args meth c RX4 cX4_hasNumber 3 (some .boolean) D Y (gA S hs) := hF
  have hx := hF.1
  have hb := hF.2.1
  unfold f_X4_hasNumber at h
  refine g_aload_n hx hb dX4_hasNumber_0 rfl (lv_at hl 0 rfl) ?_
  refine lv_iload_n hx hb dX4_hasNumber_1 rfl (lv_at hl 1 rfl) ?_
  have g := gckE h
  clear h
  obtain ⟨t1, h⟩ := g
  have t1 := eq_of_beq t1
  have g := gthE h
  clear h
  rcases g with ⟨v3, e2, h⟩ | ⟨y4, e2, z5⟩
  · refine g_callV (As := [.int x1]) (rest := []) hF hM (c_X4_needNumbers e2) k_X4_needNumbers u983 u985 u23 rfl rfl t1 rfl hl.1 rfl (Nat.le_of_ble_eq_true rfl) dX4_hasNumber_2 ⟨(Nat.le_of_ble_eq_true rfl), (Nat.le_of_ble_eq_true rfl)⟩ ⟨(Nat.le_of_ble_eq_true rfl), (Nat.le_of_ble_eq_true rfl)⟩ (fun H locs hM => ?_)
    refine lv_iload_n hx hb dX4_hasNumber_5 rfl (lv_at hl 2 rfl) ?_
    have g := gbind h
    clear h
    obtain ⟨a6, e7, h⟩ := g
    have t8 := (gtk_of e7).2
    rw [(gtk_of e7).1]
    have g := gbind h
    clear h
    obtain ⟨v10, e9, h⟩ := g
    refine g_callV (As := [.int x2]) (rest := []) hF hM (c_X1_findNumber e9) k_X1_findNumber u994 u260 u261 rfl rfl t8 rfl hl.1 rfl (Nat.le_of_ble_eq_true rfl) dX4_hasNumber_6 ⟨(Nat.le_of_ble_eq_true rfl), (Nat.le_of_ble_eq_true rfl)⟩ ⟨(Nat.le_of_ble_eq_true rfl), (Nat.le_of_ble_eq_true rfl)⟩ (fun H locs hM => ?_)
    refine lv_if_lt (tgt := 16) hx hb dX4_hasNumber_9 (by decide) (fun c11 => ?_) (fun c11 => ?_)
    · replace h := (if_pos c11).symm.trans h
      refine lv_iconst (v := 0) hx hb dX4_hasNumber_16 (by decide) ?_
      rw [← (Sum.inl.inj (Option.some.inj h))]
      exact g_iret hF hM rfl rfl dX4_hasNumber_17 (Nat.le_of_ble_eq_true rfl) (Nat.le_of_ble_eq_true rfl)
    · replace h := (if_neg c11).symm.trans h
      refine lv_iconst (v := 1) hx hb dX4_hasNumber_12 (by decide) ?_
      refine lv_goto (tgt := 17) hx hb dX4_hasNumber_13 (by decide) ?_
      rw [← (Sum.inl.inj (Option.some.inj h))]
      exact g_iret hF hM rfl rfl dX4_hasNumber_17 (Nat.le_of_ble_eq_true rfl) (Nat.le_of_ble_eq_true rfl)
  · exact nomatch z5
abbrev rmx_X4_hasNumber : Room := { frames := 8, cells := 1, slots := 6, locals := 132 }
set_option maxHeartbeats 4000000 in
set_option maxRecDepth 100000 in
theorem cx_X4_hasNumber {l : Launch} {D : va_G} {Y : Nat → ClassId} {S : GS} {hs : Nat} {a0 : Nat} {x1 : Int32} {x2 : Int32} {x : Nat} (hfl : l.stackTraces = false) (h : f_X4_hasNumber S a0 x1 x2 = some (.inr x)) : gMx l yX4_hasNumber (gWs yX4_hasNumber cX4_hasNumber 3 (some .boolean)) rmx_X4_hasNumber [va_rf (some a0), .int x1, .int x2] D Y S hs (.inr x) := by
  refine g_ofWx (by decide +kernel) (Or.inl ⟨(Nat.le_of_ble_eq_true rfl), (List.forall_mem_cons.mpr ⟨rf_cat _, (List.forall_mem_cons.mpr ⟨rfl, (List.forall_mem_cons.mpr ⟨rfl, (fun _ h => absurd h List.not_mem_nil)⟩)⟩)⟩)⟩) ?_
  intro p e s m args below meth c ls hsz hout hF hM hl
  have hl : lv_has ls 3 [(0, va_rf (some a0)), (1, .int x1), (2, .int x2)] := by rw [g_args [va_rf (some a0), .int x1, .int x2] 0 (List.forall_mem_cons.mpr ⟨rf_cat _, (List.forall_mem_cons.mpr ⟨rfl, (List.forall_mem_cons.mpr ⟨rfl, (fun _ h => absurd h List.not_mem_nil)⟩)⟩)⟩)] at hl; exact hl
  have hF : gF p s m args meth c RX4 cX4_hasNumber 3 (some .boolean) D Y (gA S hs) := hF
  have hx := hF.1
  have hb := hF.2.1
  unfold f_X4_hasNumber at h
  refine g_aload_n hx hb dX4_hasNumber_0 rfl (lv_at hl 0 rfl) ?_
  refine lv_iload_n hx hb dX4_hasNumber_1 rfl (lv_at hl 1 rfl) ?_
  have g := gckE h
  clear h
  obtain ⟨t1, h⟩ := g
  have t1 := eq_of_beq t1
  have g := gthE h
  clear h
  rcases g with ⟨v3, e2, h⟩ | ⟨y4, e2, z5⟩
  · refine g_callV (As := [.int x1]) (rest := []) hF hM (c_X4_needNumbers e2) k_X4_needNumbers u983 u985 u23 rfl rfl t1 rfl hl.1 rfl (Nat.le_of_ble_eq_true rfl) dX4_hasNumber_2 ⟨(Nat.le_of_ble_eq_true rfl), (Nat.le_of_ble_eq_true rfl)⟩ ⟨(Nat.le_of_ble_eq_true rfl), (Nat.le_of_ble_eq_true rfl)⟩ (fun H locs hM => ?_)
    refine lv_iload_n hx hb dX4_hasNumber_5 rfl (lv_at hl 2 rfl) ?_
    have g := gbind h
    clear h
    obtain ⟨a6, e7, h⟩ := g
    have t8 := (gtk_of e7).2
    rw [(gtk_of e7).1]
    have g := gbind h
    clear h
    obtain ⟨v10, e9, h⟩ := g
    refine g_callV (As := [.int x2]) (rest := []) hF hM (c_X1_findNumber e9) k_X1_findNumber u994 u260 u261 rfl rfl t8 rfl hl.1 rfl (Nat.le_of_ble_eq_true rfl) dX4_hasNumber_6 ⟨(Nat.le_of_ble_eq_true rfl), (Nat.le_of_ble_eq_true rfl)⟩ ⟨(Nat.le_of_ble_eq_true rfl), (Nat.le_of_ble_eq_true rfl)⟩ (fun H locs hM => ?_)
    refine lv_if_lt (tgt := 16) hx hb dX4_hasNumber_9 (by decide) (fun c11 => ?_) (fun c11 => ?_)
    · replace h := (if_pos c11).symm.trans h
      refine lv_iconst (v := 0) hx hb dX4_hasNumber_16 (by decide) ?_
      exact nomatch (Option.some.inj h)
    · replace h := (if_neg c11).symm.trans h
      refine lv_iconst (v := 1) hx hb dX4_hasNumber_12 (by decide) ?_
      refine lv_goto (tgt := 17) hx hb dX4_hasNumber_13 (by decide) ?_
      exact nomatch (Option.some.inj h)
  · exact g_callVt (As := [.int x1]) (rest := []) hF hM hout (cx_X4_needNumbers hfl e2) k_X4_needNumbers u983 u985 u23 rfl rfl t1 rfl hl.1 rfl (Nat.le_of_ble_eq_true rfl) dX4_hasNumber_2 ⟨(Nat.le_of_ble_eq_true rfl), (Nat.le_of_ble_eq_true rfl)⟩ ⟨(Nat.le_of_ble_eq_true rfl), (Nat.le_of_ble_eq_true rfl)⟩ (Nat.le_of_ble_eq_true rfl) (Nat.le_of_ble_eq_true rfl) (congrArg Sum.inr (Sum.inr.inj z5))
abbrev rm_X4_thingOf : Room := { frames := 3, cells := 0, slots := 0, locals := 64 }
theorem k_X4_thingOf : gKc yX4_thingOf cX4_thingOf 5 (some .int) 2 := ⟨u1001, u63, by decide +kernel, by decide +kernel, by decide +kernel⟩
set_option maxHeartbeats 4000000 in
set_option maxRecDepth 100000 in
theorem c_X4_thingOf {l : Launch} {D : va_G} {Y : Nat → ClassId} {S : GS} {hs : Nat} {a0 : Nat} {x1 : Int32} {x2 : Int32} {r : Int32} (h : f_X4_thingOf S a0 x1 x2 = some (.inl r)) : gMet l yX4_thingOf (gWs yX4_thingOf cX4_thingOf 5 (some .int)) rm_X4_thingOf [va_rf (some a0), .int x1, .int x2] D Y S hs (some (.int r)) S hs := by
  refine g_ofW (by decide +kernel) (Or.inl ⟨(Nat.le_of_ble_eq_true rfl), (List.forall_mem_cons.mpr ⟨rf_cat _, (List.forall_mem_cons.mpr ⟨rfl, (List.forall_mem_cons.mpr ⟨rfl, (fun _ h => absurd h List.not_mem_nil)⟩)⟩)⟩)⟩) ?_
  intro p e s m args below meth c ls hsz hname hF hM hl
  have hl : lv_has ls 5 [(0, va_rf (some a0)), (1, .int x1), (2, .int x2)] := by rw [g_args [va_rf (some a0), .int x1, .int x2] 0 (List.forall_mem_cons.mpr ⟨rf_cat _, (List.forall_mem_cons.mpr ⟨rfl, (List.forall_mem_cons.mpr ⟨rfl, (fun _ h => absurd h List.not_mem_nil)⟩)⟩)⟩)] at hl; exact hl
  have hF : gF p s m args meth c RX4 cX4_thingOf 5 (some .int) D Y (gA S hs) := hF
  have hx := hF.1
  have hb := hF.2.1
  unfold f_X4_thingOf at h
  refine g_aload_n hx hb dX4_thingOf_0 rfl (lv_at hl 0 rfl) ?_
  refine lv_iload_n hx hb dX4_thingOf_1 rfl (lv_at hl 1 rfl) ?_
  have g := gckE h
  clear h
  obtain ⟨t1, h⟩ := g
  have t1 := eq_of_beq t1
  have g := gthE h
  clear h
  rcases g with ⟨v3, e2, h⟩ | ⟨y4, e2, z5⟩
  · refine g_callV (As := [.int x1]) (rest := []) hF hM (c_X4_needMap e2) k_X4_needMap u622 u624 u15 rfl rfl t1 rfl hl.1 rfl (Nat.le_of_ble_eq_true rfl) dX4_thingOf_2 ⟨(Nat.le_of_ble_eq_true rfl), (Nat.le_of_ble_eq_true rfl)⟩ ⟨(Nat.le_of_ble_eq_true rfl), (Nat.le_of_ble_eq_true rfl)⟩ (fun H locs hM => ?_)
    refine g_astore_n (i := 3) (lv' := [(0, va_rf (some a0)), (1, .int x1), (2, .int x2)]) hx hb dX4_thingOf_5 rfl hl (by decide) (fun v => rfl) (fun ls hl => ?_)
    refine g_aload_n hx hb dX4_thingOf_6 rfl (lv_at hl 0 rfl) ?_
    refine lv_iload_n hx hb dX4_thingOf_7 rfl (lv_at hl 3 rfl) ?_
    have g := gbind h
    clear h
    obtain ⟨a6, e7, h⟩ := g
    have t8 := (gtk_of e7).2
    rw [(gtk_of e7).1]
    have g := gbind h
    clear h
    obtain ⟨v10, e9, h⟩ := g
    refine g_callV (As := [.int x2]) (rest := []) hF hM (c_X1_findNumber e9) k_X1_findNumber u994 u260 u261 rfl rfl t8 rfl hl.1 rfl (Nat.le_of_ble_eq_true rfl) dX4_thingOf_8 ⟨(Nat.le_of_ble_eq_true rfl), (Nat.le_of_ble_eq_true rfl)⟩ ⟨(Nat.le_of_ble_eq_true rfl), (Nat.le_of_ble_eq_true rfl)⟩ (fun H locs hM => ?_)
    refine lv_istore (i := 4) (lv' := [(4, .int v10), (3, va_rf v3), (0, va_rf (some a0)), (1, .int x1), (2, .int x2)]) hx hb dX4_thingOf_11 hl (by decide) (by simp [rf_cat, ic_cat, lc_cat]) (fun ls hl => ?_)
    refine lv_iload hx hb dX4_thingOf_13 (lv_at hl 0 rfl) ?_
    refine lv_if_ge (tgt := 26) hx hb dX4_thingOf_15 (by decide) (fun c11 => ?_) (fun c11 => ?_)
    · replace h := (if_pos c11).symm.trans h
      refine g_aload_n hx hb dX4_thingOf_26 rfl (lv_at hl 1 rfl) ?_
      refine lv_iload hx hb dX4_thingOf_27 (lv_at hl 0 rfl) ?_
      have g := gbind h
      clear h
      obtain ⟨a12, e13, h⟩ := g
      have t14 := (gtk_of e13).2
      rw [(gtk_of e13).1]
      have g := gbind h
      clear h
      obtain ⟨v16, e15, h⟩ := g
      refine g_callV (As := [.int v10]) (rest := []) hF hM (c_X1_hashOf e15) k_X1_hashOf u787 u222 u223 rfl rfl t14 rfl hl.1 rfl (Nat.le_of_ble_eq_true rfl) dX4_thingOf_29 ⟨(Nat.le_of_ble_eq_true rfl), (Nat.le_of_ble_eq_true rfl)⟩ ⟨(Nat.le_of_ble_eq_true rfl), (Nat.le_of_ble_eq_true rfl)⟩ (fun H locs hM => ?_)
      rw [← (Sum.inl.inj (Option.some.inj h))]
      exact g_iret hF hM rfl rfl dX4_thingOf_32 (Nat.le_of_ble_eq_true rfl) (Nat.le_of_ble_eq_true rfl)
    · replace h := (if_neg c11).symm.trans h
      exact nomatch (Option.some.inj h)
  · exact nomatch z5
abbrev rmx_X4_thingOf : Room := { frames := 8, cells := 1, slots := 6, locals := 132 }
set_option maxHeartbeats 4000000 in
set_option maxRecDepth 100000 in
theorem cx_X4_thingOf {l : Launch} {D : va_G} {Y : Nat → ClassId} {S : GS} {hs : Nat} {a0 : Nat} {x1 : Int32} {x2 : Int32} {x : Nat} (hfl : l.stackTraces = false) (h : f_X4_thingOf S a0 x1 x2 = some (.inr x)) : gMx l yX4_thingOf (gWs yX4_thingOf cX4_thingOf 5 (some .int)) rmx_X4_thingOf [va_rf (some a0), .int x1, .int x2] D Y S hs (.inr x) := by
  refine g_ofWx (by decide +kernel) (Or.inl ⟨(Nat.le_of_ble_eq_true rfl), (List.forall_mem_cons.mpr ⟨rf_cat _, (List.forall_mem_cons.mpr ⟨rfl, (List.forall_mem_cons.mpr ⟨rfl, (fun _ h => absurd h List.not_mem_nil)⟩)⟩)⟩)⟩) ?_
  intro p e s m args below meth c ls hsz hout hF hM hl
  have hl : lv_has ls 5 [(0, va_rf (some a0)), (1, .int x1), (2, .int x2)] := by rw [g_args [va_rf (some a0), .int x1, .int x2] 0 (List.forall_mem_cons.mpr ⟨rf_cat _, (List.forall_mem_cons.mpr ⟨rfl, (List.forall_mem_cons.mpr ⟨rfl, (fun _ h => absurd h List.not_mem_nil)⟩)⟩)⟩)] at hl; exact hl
  have hF : gF p s m args meth c RX4 cX4_thingOf 5 (some .int) D Y (gA S hs) := hF
  have hx := hF.1
  have hb := hF.2.1
  unfold f_X4_thingOf at h
  refine g_aload_n hx hb dX4_thingOf_0 rfl (lv_at hl 0 rfl) ?_
  refine lv_iload_n hx hb dX4_thingOf_1 rfl (lv_at hl 1 rfl) ?_
  have g := gckE h
  clear h
  obtain ⟨t1, h⟩ := g
  have t1 := eq_of_beq t1
  have g := gthE h
  clear h
  rcases g with ⟨v3, e2, h⟩ | ⟨y4, e2, z5⟩
  · refine g_callV (As := [.int x1]) (rest := []) hF hM (c_X4_needMap e2) k_X4_needMap u622 u624 u15 rfl rfl t1 rfl hl.1 rfl (Nat.le_of_ble_eq_true rfl) dX4_thingOf_2 ⟨(Nat.le_of_ble_eq_true rfl), (Nat.le_of_ble_eq_true rfl)⟩ ⟨(Nat.le_of_ble_eq_true rfl), (Nat.le_of_ble_eq_true rfl)⟩ (fun H locs hM => ?_)
    refine g_astore_n (i := 3) (lv' := [(0, va_rf (some a0)), (1, .int x1), (2, .int x2)]) hx hb dX4_thingOf_5 rfl hl (by decide) (fun v => rfl) (fun ls hl => ?_)
    refine g_aload_n hx hb dX4_thingOf_6 rfl (lv_at hl 0 rfl) ?_
    refine lv_iload_n hx hb dX4_thingOf_7 rfl (lv_at hl 3 rfl) ?_
    have g := gbind h
    clear h
    obtain ⟨a6, e7, h⟩ := g
    have t8 := (gtk_of e7).2
    rw [(gtk_of e7).1]
    have g := gbind h
    clear h
    obtain ⟨v10, e9, h⟩ := g
    refine g_callV (As := [.int x2]) (rest := []) hF hM (c_X1_findNumber e9) k_X1_findNumber u994 u260 u261 rfl rfl t8 rfl hl.1 rfl (Nat.le_of_ble_eq_true rfl) dX4_thingOf_8 ⟨(Nat.le_of_ble_eq_true rfl), (Nat.le_of_ble_eq_true rfl)⟩ ⟨(Nat.le_of_ble_eq_true rfl), (Nat.le_of_ble_eq_true rfl)⟩ (fun H locs hM => ?_)
    refine lv_istore (i := 4) (lv' := [(4, .int v10), (3, va_rf v3), (0, va_rf (some a0)), (1, .int x1), (2, .int x2)]) hx hb dX4_thingOf_11 hl (by decide) (by simp [rf_cat, ic_cat, lc_cat]) (fun ls hl => ?_)
    refine lv_iload hx hb dX4_thingOf_13 (lv_at hl 0 rfl) ?_
    refine lv_if_ge (tgt := 26) hx hb dX4_thingOf_15 (by decide) (fun c11 => ?_) (fun c11 => ?_)
    · replace h := (if_pos c11).symm.trans h
      refine g_aload_n hx hb dX4_thingOf_26 rfl (lv_at hl 1 rfl) ?_
      refine lv_iload hx hb dX4_thingOf_27 (lv_at hl 0 rfl) ?_
      have g := gbind h
      clear h
      obtain ⟨a12, e13, h⟩ := g
      have t14 := (gtk_of e13).2
      rw [(gtk_of e13).1]
      have g := gbind h
      clear h
      obtain ⟨v16, e15, h⟩ := g
      refine g_callV (As := [.int v10]) (rest := []) hF hM (c_X1_hashOf e15) k_X1_hashOf u787 u222 u223 rfl rfl t14 rfl hl.1 rfl (Nat.le_of_ble_eq_true rfl) dX4_thingOf_29 ⟨(Nat.le_of_ble_eq_true rfl), (Nat.le_of_ble_eq_true rfl)⟩ ⟨(Nat.le_of_ble_eq_true rfl), (Nat.le_of_ble_eq_true rfl)⟩ (fun H locs hM => ?_)
      exact nomatch (Option.some.inj h)
    · replace h := (if_neg c11).symm.trans h
      exact g_throw hF hM hfl hout ew_X4_57_59 (congrArg Sum.inr (Sum.inr.inj (Option.some.inj h)).symm) hl.1 dX4_thingOf_18 dX4_thingOf_21 dX4_thingOf_22 dX4_thingOf_25 (Nat.le_of_ble_eq_true rfl) (Nat.le_of_ble_eq_true rfl) (Nat.le_of_ble_eq_true rfl) (Nat.le_of_ble_eq_true rfl) (Nat.le_of_ble_eq_true rfl) (Nat.le_of_ble_eq_true rfl)
  · exact g_callVt (As := [.int x1]) (rest := []) hF hM hout (cx_X4_needMap hfl e2) k_X4_needMap u622 u624 u15 rfl rfl t1 rfl hl.1 rfl (Nat.le_of_ble_eq_true rfl) dX4_thingOf_2 ⟨(Nat.le_of_ble_eq_true rfl), (Nat.le_of_ble_eq_true rfl)⟩ ⟨(Nat.le_of_ble_eq_true rfl), (Nat.le_of_ble_eq_true rfl)⟩ (Nat.le_of_ble_eq_true rfl) (Nat.le_of_ble_eq_true rfl) (congrArg Sum.inr (Sum.inr.inj z5))
abbrev rm_X4_numberAt : Room := { frames := 2, cells := 0, slots := 0, locals := 43 }
theorem k_X4_numberAt : gKc yX4_numberAt cX4_numberAt 4 (some .int) 2 := ⟨u1008, u63, by decide +kernel, by decide +kernel, by decide +kernel⟩
set_option maxHeartbeats 4000000 in
set_option maxRecDepth 100000 in
theorem c_X4_numberAt {l : Launch} {D : va_G} {Y : Nat → ClassId} {S : GS} {hs : Nat} {a0 : Nat} {x1 : Int32} {x2 : Int32} {r : Int32} (h : f_X4_numberAt S a0 x1 x2 = some (.inl r)) : gMet l yX4_numberAt (gWs yX4_numberAt cX4_numberAt 4 (some .int)) rm_X4_numberAt [va_rf (some a0), .int x1, .int x2] D Y S hs (some (.int r)) S hs := by
  refine g_ofW (by decide +kernel) (Or.inl ⟨(Nat.le_of_ble_eq_true rfl), (List.forall_mem_cons.mpr ⟨rf_cat _, (List.forall_mem_cons.mpr ⟨rfl, (List.forall_mem_cons.mpr ⟨rfl, (fun _ h => absurd h List.not_mem_nil)⟩)⟩)⟩)⟩) ?_
  intro p e s m args below meth c ls hsz hname hF hM hl
  have hl : lv_has ls 4 [(0, va_rf (some a0)), (1, .int x1), (2, .int x2)] := by rw [g_args [va_rf (some a0), .int x1, .int x2] 0 (List.forall_mem_cons.mpr ⟨rf_cat _, (List.forall_mem_cons.mpr ⟨rfl, (List.forall_mem_cons.mpr ⟨rfl, (fun _ h => absurd h List.not_mem_nil)⟩)⟩)⟩)] at hl; exact hl
  have hF : gF p s m args meth c RX4 cX4_numberAt 4 (some .int) D Y (gA S hs) := hF
  have hx := hF.1
  have hb := hF.2.1
  unfold f_X4_numberAt at h
  refine g_aload_n hx hb dX4_numberAt_0 rfl (lv_at hl 0 rfl) ?_
  refine lv_iload_n hx hb dX4_numberAt_1 rfl (lv_at hl 1 rfl) ?_
  have g := gckE h
  clear h
  obtain ⟨t1, h⟩ := g
  have t1 := eq_of_beq t1
  have g := gthE h
  clear h
  rcases g with ⟨v3, e2, h⟩ | ⟨y4, e2, z5⟩
  · refine g_callV (As := [.int x1]) (rest := []) hF hM (c_X4_needNumbers e2) k_X4_needNumbers u983 u985 u23 rfl rfl t1 rfl hl.1 rfl (Nat.le_of_ble_eq_true rfl) dX4_numberAt_2 ⟨(Nat.le_of_ble_eq_true rfl), (Nat.le_of_ble_eq_true rfl)⟩ ⟨(Nat.le_of_ble_eq_true rfl), (Nat.le_of_ble_eq_true rfl)⟩ (fun H locs hM => ?_)
    refine g_astore_n (i := 3) (lv' := [(0, va_rf (some a0)), (1, .int x1), (2, .int x2)]) hx hb dX4_numberAt_5 rfl hl (by decide) (fun v => rfl) (fun ls hl => ?_)
    refine g_aload_n hx hb dX4_numberAt_6 rfl (lv_at hl 0 rfl) ?_
    refine lv_iload_n hx hb dX4_numberAt_7 rfl (lv_at hl 3 rfl) ?_
    have g := gthE h
    clear h
    rcases g with ⟨w7, e6, h⟩ | ⟨y8, e6, z9⟩
    · refine g_callS (As := [va_rf v3, .int x2]) (rest := []) hF hM (c_X4_needPlace e6) k_X4_needPlace u696 u697 rfl hl.1 rfl (Nat.le_of_ble_eq_true rfl) dX4_numberAt_8 ⟨(Nat.le_of_ble_eq_true rfl), (Nat.le_of_ble_eq_true rfl)⟩ ⟨(Nat.le_of_ble_eq_true rfl), (Nat.le_of_ble_eq_true rfl)⟩ (fun H locs hM => ?_)
      refine g_aload_n hx hb dX4_numberAt_11 rfl (lv_at hl 0 rfl) ?_
      refine lv_iload_n hx hb dX4_numberAt_12 rfl (lv_at hl 3 rfl) ?_
      have g := gbind h
      clear h
      obtain ⟨a10, e11, h⟩ := g
      have t12 := (gtk_of e11).2
      rw [(gtk_of e11).1]
      have g := gbind h
      clear h
      obtain ⟨v14, e13, h⟩ := g
      refine g_callV (As := [.int x2]) (rest := []) hF hM (c_X1_numberOf e13) k_X1_numberOf u864 u210 u211 rfl rfl t12 rfl hl.1 rfl (Nat.le_of_ble_eq_true rfl) dX4_numberAt_13 ⟨(Nat.le_of_ble_eq_true rfl), (Nat.le_of_ble_eq_true rfl)⟩ ⟨(Nat.le_of_ble_eq_true rfl), (Nat.le_of_ble_eq_true rfl)⟩ (fun H locs hM => ?_)
      rw [← (Sum.inl.inj (Option.some.inj h))]
      exact g_iret hF hM rfl rfl dX4_numberAt_16 (Nat.le_of_ble_eq_true rfl) (Nat.le_of_ble_eq_true rfl)
    · exact nomatch z9
  · exact nomatch z5
abbrev rmx_X4_numberAt : Room := { frames := 8, cells := 1, slots := 6, locals := 132 }
set_option maxHeartbeats 4000000 in
set_option maxRecDepth 100000 in
theorem cx_X4_numberAt {l : Launch} {D : va_G} {Y : Nat → ClassId} {S : GS} {hs : Nat} {a0 : Nat} {x1 : Int32} {x2 : Int32} {x : Nat} (hfl : l.stackTraces = false) (h : f_X4_numberAt S a0 x1 x2 = some (.inr x)) : gMx l yX4_numberAt (gWs yX4_numberAt cX4_numberAt 4 (some .int)) rmx_X4_numberAt [va_rf (some a0), .int x1, .int x2] D Y S hs (.inr x) := by
  refine g_ofWx (by decide +kernel) (Or.inl ⟨(Nat.le_of_ble_eq_true rfl), (List.forall_mem_cons.mpr ⟨rf_cat _, (List.forall_mem_cons.mpr ⟨rfl, (List.forall_mem_cons.mpr ⟨rfl, (fun _ h => absurd h List.not_mem_nil)⟩)⟩)⟩)⟩) ?_
  intro p e s m args below meth c ls hsz hout hF hM hl
  have hl : lv_has ls 4 [(0, va_rf (some a0)), (1, .int x1), (2, .int x2)] := by rw [g_args [va_rf (some a0), .int x1, .int x2] 0 (List.forall_mem_cons.mpr ⟨rf_cat _, (List.forall_mem_cons.mpr ⟨rfl, (List.forall_mem_cons.mpr ⟨rfl, (fun _ h => absurd h List.not_mem_nil)⟩)⟩)⟩)] at hl; exact hl
  have hF : gF p s m args meth c RX4 cX4_numberAt 4 (some .int) D Y (gA S hs) := hF
  have hx := hF.1
  have hb := hF.2.1
  unfold f_X4_numberAt at h
  refine g_aload_n hx hb dX4_numberAt_0 rfl (lv_at hl 0 rfl) ?_
  refine lv_iload_n hx hb dX4_numberAt_1 rfl (lv_at hl 1 rfl) ?_
  have g := gckE h
  clear h
  obtain ⟨t1, h⟩ := g
  have t1 := eq_of_beq t1
  have g := gthE h
  clear h
  rcases g with ⟨v3, e2, h⟩ | ⟨y4, e2, z5⟩
  · refine g_callV (As := [.int x1]) (rest := []) hF hM (c_X4_needNumbers e2) k_X4_needNumbers u983 u985 u23 rfl rfl t1 rfl hl.1 rfl (Nat.le_of_ble_eq_true rfl) dX4_numberAt_2 ⟨(Nat.le_of_ble_eq_true rfl), (Nat.le_of_ble_eq_true rfl)⟩ ⟨(Nat.le_of_ble_eq_true rfl), (Nat.le_of_ble_eq_true rfl)⟩ (fun H locs hM => ?_)
    refine g_astore_n (i := 3) (lv' := [(0, va_rf (some a0)), (1, .int x1), (2, .int x2)]) hx hb dX4_numberAt_5 rfl hl (by decide) (fun v => rfl) (fun ls hl => ?_)
    refine g_aload_n hx hb dX4_numberAt_6 rfl (lv_at hl 0 rfl) ?_
    refine lv_iload_n hx hb dX4_numberAt_7 rfl (lv_at hl 3 rfl) ?_
    have g := gthE h
    clear h
    rcases g with ⟨w7, e6, h⟩ | ⟨y8, e6, z9⟩
    · refine g_callS (As := [va_rf v3, .int x2]) (rest := []) hF hM (c_X4_needPlace e6) k_X4_needPlace u696 u697 rfl hl.1 rfl (Nat.le_of_ble_eq_true rfl) dX4_numberAt_8 ⟨(Nat.le_of_ble_eq_true rfl), (Nat.le_of_ble_eq_true rfl)⟩ ⟨(Nat.le_of_ble_eq_true rfl), (Nat.le_of_ble_eq_true rfl)⟩ (fun H locs hM => ?_)
      refine g_aload_n hx hb dX4_numberAt_11 rfl (lv_at hl 0 rfl) ?_
      refine lv_iload_n hx hb dX4_numberAt_12 rfl (lv_at hl 3 rfl) ?_
      have g := gbind h
      clear h
      obtain ⟨a10, e11, h⟩ := g
      have t12 := (gtk_of e11).2
      rw [(gtk_of e11).1]
      have g := gbind h
      clear h
      obtain ⟨v14, e13, h⟩ := g
      refine g_callV (As := [.int x2]) (rest := []) hF hM (c_X1_numberOf e13) k_X1_numberOf u864 u210 u211 rfl rfl t12 rfl hl.1 rfl (Nat.le_of_ble_eq_true rfl) dX4_numberAt_13 ⟨(Nat.le_of_ble_eq_true rfl), (Nat.le_of_ble_eq_true rfl)⟩ ⟨(Nat.le_of_ble_eq_true rfl), (Nat.le_of_ble_eq_true rfl)⟩ (fun H locs hM => ?_)
      exact nomatch (Option.some.inj h)
    · exact g_callSt (As := [va_rf v3, .int x2]) (rest := []) hF hM hout (cx_X4_needPlace hfl e6) k_X4_needPlace u696 u697 rfl hl.1 rfl (Nat.le_of_ble_eq_true rfl) dX4_numberAt_8 ⟨(Nat.le_of_ble_eq_true rfl), (Nat.le_of_ble_eq_true rfl)⟩ ⟨(Nat.le_of_ble_eq_true rfl), (Nat.le_of_ble_eq_true rfl)⟩ (Nat.le_of_ble_eq_true rfl) (Nat.le_of_ble_eq_true rfl) (congrArg Sum.inr (Sum.inr.inj z9))
  · exact g_callVt (As := [.int x1]) (rest := []) hF hM hout (cx_X4_needNumbers hfl e2) k_X4_needNumbers u983 u985 u23 rfl rfl t1 rfl hl.1 rfl (Nat.le_of_ble_eq_true rfl) dX4_numberAt_2 ⟨(Nat.le_of_ble_eq_true rfl), (Nat.le_of_ble_eq_true rfl)⟩ ⟨(Nat.le_of_ble_eq_true rfl), (Nat.le_of_ble_eq_true rfl)⟩ (Nat.le_of_ble_eq_true rfl) (Nat.le_of_ble_eq_true rfl) (congrArg Sum.inr (Sum.inr.inj z5))
abbrev rm_X4_needKeys : Room := { frames := 1, cells := 0, slots := 0, locals := 21 }
theorem k_X4_needKeys : gKc yX4_needKeys cX4_needKeys 3 (some (.object "Viewhouse$Pane")) 1 := ⟨u1019, u63, by decide +kernel, by decide +kernel, by decide +kernel⟩
set_option maxHeartbeats 4000000 in
set_option maxRecDepth 100000 in
theorem c_X4_needKeys {l : Launch} {D : va_G} {Y : Nat → ClassId} {S : GS} {hs : Nat} {a0 : Nat} {x1 : Int32} {r : Option Nat} (h : f_X4_needKeys S a0 x1 = some (.inl r)) : gMet l yX4_needKeys (gWs yX4_needKeys cX4_needKeys 3 (some (.object "Viewhouse$Pane"))) rm_X4_needKeys [va_rf (some a0), .int x1] D Y S hs (some (va_rf r)) S hs := by
  refine g_ofW (by decide +kernel) (Or.inl ⟨(Nat.le_of_ble_eq_true rfl), (List.forall_mem_cons.mpr ⟨rf_cat _, (List.forall_mem_cons.mpr ⟨rfl, (fun _ h => absurd h List.not_mem_nil)⟩)⟩)⟩) ?_
  intro p e s m args below meth c ls hsz hname hF hM hl
  have hl : lv_has ls 3 [(0, va_rf (some a0)), (1, .int x1)] := by rw [g_args [va_rf (some a0), .int x1] 0 (List.forall_mem_cons.mpr ⟨rf_cat _, (List.forall_mem_cons.mpr ⟨rfl, (fun _ h => absurd h List.not_mem_nil)⟩)⟩)] at hl; exact hl
  have hF : gF p s m args meth c RX4 cX4_needKeys 3 (some (.object "Viewhouse$Pane")) D Y (gA S hs) := hF
  have hx := hF.1
  have hb := hF.2.1
  unfold f_X4_needKeys at h
  refine g_aload_n hx hb dX4_needKeys_0 rfl (lv_at hl 0 rfl) ?_
  refine lv_iload_n hx hb dX4_needKeys_1 rfl (lv_at hl 1 rfl) ?_
  have g := gckE h
  clear h
  obtain ⟨t1, h⟩ := g
  have t1 := eq_of_beq t1
  have g := gthE h
  clear h
  rcases g with ⟨v3, e2, h⟩ | ⟨y4, e2, z5⟩
  · refine g_callV (As := [.int x1]) (rest := []) hF hM (c_X4_held e2) k_X4_held u517 u519 u13 rfl rfl t1 rfl hl.1 rfl (Nat.le_of_ble_eq_true rfl) dX4_needKeys_2 ⟨(Nat.le_of_ble_eq_true rfl), (Nat.le_of_ble_eq_true rfl)⟩ ⟨(Nat.le_of_ble_eq_true rfl), (Nat.le_of_ble_eq_true rfl)⟩ (fun H locs hM => ?_)
    refine g_astore_n (i := 2) (lv' := [(0, va_rf (some a0)), (1, .int x1)]) hx hb dX4_needKeys_5 rfl hl (by decide) (fun v => rfl) (fun ls hl => ?_)
    refine g_aload_n hx hb dX4_needKeys_6 rfl (lv_at hl 0 rfl) ?_
    refine g_ifnull (tgt := 19) hx hb dX4_needKeys_7 (by decide) (fun c6 => ?_) (fun c6 => ?_)
    · replace h := (if_pos c6).symm.trans h
      exact nomatch (Option.some.inj h)
    · replace h := (if_neg c6).symm.trans h
      refine g_aload_n hx hb dX4_needKeys_10 rfl (lv_at hl 0 rfl) ?_
      have g := gbind h
      clear h
      obtain ⟨v7, e8, h⟩ := g
      refine g_getI hF hM fdX1 e8 (by decide) rfl u131 dX4_needKeys_11 ?_
      refine lv_bipush (v := 107) hx hb dX4_needKeys_14 (by decide) ?_
      refine lv_icmp_eq (tgt := 27) hx hb dX4_needKeys_16 (by decide) (fun c9 => ?_) (fun c9 => ?_)
      · replace h := (if_pos c9).symm.trans h
        refine g_aload_n hx hb dX4_needKeys_27 rfl (lv_at hl 0 rfl) ?_
        rw [← (Sum.inl.inj (Option.some.inj h))]
        exact g_aret hF hM rfl (Or.inl ⟨_, rfl⟩) dX4_needKeys_28 (Nat.le_of_ble_eq_true rfl) (Nat.le_of_ble_eq_true rfl)
      · replace h := (if_neg c9).symm.trans h
        exact nomatch (Option.some.inj h)
  · exact nomatch z5
abbrev rmx_X4_needKeys : Room := { frames := 7, cells := 1, slots := 6, locals := 110 }
set_option maxHeartbeats 4000000 in
set_option maxRecDepth 100000 in
theorem cx_X4_needKeys {l : Launch} {D : va_G} {Y : Nat → ClassId} {S : GS} {hs : Nat} {a0 : Nat} {x1 : Int32} {x : Nat} (hfl : l.stackTraces = false) (h : f_X4_needKeys S a0 x1 = some (.inr x)) : gMx l yX4_needKeys (gWs yX4_needKeys cX4_needKeys 3 (some (.object "Viewhouse$Pane"))) rmx_X4_needKeys [va_rf (some a0), .int x1] D Y S hs (.inr x) := by
  refine g_ofWx (by decide +kernel) (Or.inl ⟨(Nat.le_of_ble_eq_true rfl), (List.forall_mem_cons.mpr ⟨rf_cat _, (List.forall_mem_cons.mpr ⟨rfl, (fun _ h => absurd h List.not_mem_nil)⟩)⟩)⟩) ?_
  intro p e s m args below meth c ls hsz hout hF hM hl
  have hl : lv_has ls 3 [(0, va_rf (some a0)), (1, .int x1)] := by rw [g_args [va_rf (some a0), .int x1] 0 (List.forall_mem_cons.mpr ⟨rf_cat _, (List.forall_mem_cons.mpr ⟨rfl, (fun _ h => absurd h List.not_mem_nil)⟩)⟩)] at hl; exact hl
  have hF : gF p s m args meth c RX4 cX4_needKeys 3 (some (.object "Viewhouse$Pane")) D Y (gA S hs) := hF
  have hx := hF.1
  have hb := hF.2.1
  unfold f_X4_needKeys at h
  refine g_aload_n hx hb dX4_needKeys_0 rfl (lv_at hl 0 rfl) ?_
  refine lv_iload_n hx hb dX4_needKeys_1 rfl (lv_at hl 1 rfl) ?_
  have g := gckE h
  clear h
  obtain ⟨t1, h⟩ := g
  have t1 := eq_of_beq t1
  have g := gthE h
  clear h
  rcases g with ⟨v3, e2, h⟩ | ⟨y4, e2, z5⟩
  · refine g_callV (As := [.int x1]) (rest := []) hF hM (c_X4_held e2) k_X4_held u517 u519 u13 rfl rfl t1 rfl hl.1 rfl (Nat.le_of_ble_eq_true rfl) dX4_needKeys_2 ⟨(Nat.le_of_ble_eq_true rfl), (Nat.le_of_ble_eq_true rfl)⟩ ⟨(Nat.le_of_ble_eq_true rfl), (Nat.le_of_ble_eq_true rfl)⟩ (fun H locs hM => ?_)
    refine g_astore_n (i := 2) (lv' := [(0, va_rf (some a0)), (1, .int x1)]) hx hb dX4_needKeys_5 rfl hl (by decide) (fun v => rfl) (fun ls hl => ?_)
    refine g_aload_n hx hb dX4_needKeys_6 rfl (lv_at hl 0 rfl) ?_
    refine g_ifnull (tgt := 19) hx hb dX4_needKeys_7 (by decide) (fun c6 => ?_) (fun c6 => ?_)
    · replace h := (if_pos c6).symm.trans h
      exact g_throw hF hM hfl hout ew_X4_50_52 (congrArg Sum.inr (Sum.inr.inj (Option.some.inj h)).symm) hl.1 dX4_needKeys_19 dX4_needKeys_22 dX4_needKeys_23 dX4_needKeys_26 (Nat.le_of_ble_eq_true rfl) (Nat.le_of_ble_eq_true rfl) (Nat.le_of_ble_eq_true rfl) (Nat.le_of_ble_eq_true rfl) (Nat.le_of_ble_eq_true rfl) (Nat.le_of_ble_eq_true rfl)
    · replace h := (if_neg c6).symm.trans h
      refine g_aload_n hx hb dX4_needKeys_10 rfl (lv_at hl 0 rfl) ?_
      have g := gbind h
      clear h
      obtain ⟨v7, e8, h⟩ := g
      refine g_getI hF hM fdX1 e8 (by decide) rfl u131 dX4_needKeys_11 ?_
      refine lv_bipush (v := 107) hx hb dX4_needKeys_14 (by decide) ?_
      refine lv_icmp_eq (tgt := 27) hx hb dX4_needKeys_16 (by decide) (fun c9 => ?_) (fun c9 => ?_)
      · replace h := (if_pos c9).symm.trans h
        refine g_aload_n hx hb dX4_needKeys_27 rfl (lv_at hl 0 rfl) ?_
        exact nomatch (Option.some.inj h)
      · replace h := (if_neg c9).symm.trans h
        exact g_throw hF hM hfl hout ew_X4_50_52 (congrArg Sum.inr (Sum.inr.inj (Option.some.inj h)).symm) hl.1 dX4_needKeys_19 dX4_needKeys_22 dX4_needKeys_23 dX4_needKeys_26 (Nat.le_of_ble_eq_true rfl) (Nat.le_of_ble_eq_true rfl) (Nat.le_of_ble_eq_true rfl) (Nat.le_of_ble_eq_true rfl) (Nat.le_of_ble_eq_true rfl) (Nat.le_of_ble_eq_true rfl)
  · exact g_callVt (As := [.int x1]) (rest := []) hF hM hout (cx_X4_held hfl e2) k_X4_held u517 u519 u13 rfl rfl t1 rfl hl.1 rfl (Nat.le_of_ble_eq_true rfl) dX4_needKeys_2 ⟨(Nat.le_of_ble_eq_true rfl), (Nat.le_of_ble_eq_true rfl)⟩ ⟨(Nat.le_of_ble_eq_true rfl), (Nat.le_of_ble_eq_true rfl)⟩ (Nat.le_of_ble_eq_true rfl) (Nat.le_of_ble_eq_true rfl) (congrArg Sum.inr (Sum.inr.inj z5))
abbrev rm_X4_keepKeys : Room := { frames := 4, cells := 0, slots := 0, locals := 89 }
theorem k_X4_keepKeys : gKc yX4_keepKeys cX4_keepKeys 9 (some .int) 3 := ⟨u1015, u63, by decide +kernel, by decide +kernel, by decide +kernel⟩
set_option maxHeartbeats 4000000 in
set_option maxRecDepth 100000 in
theorem c_X4_keepKeys {l : Launch} {D : va_G} {Y : Nat → ClassId} {S : GS} {hs : Nat} {a0 : Nat} {x1 : Int32} {x2 : Int32} {x3 : Int32} {r : Int32} {S' : GS} (h : f_X4_keepKeys S a0 x1 x2 x3 = some (.inl (r, S'))) : gMet l yX4_keepKeys (gWs yX4_keepKeys cX4_keepKeys 9 (some .int)) rm_X4_keepKeys [va_rf (some a0), .int x1, .int x2, .int x3] D Y S hs (some (.int r)) S' hs := by
  refine g_ofW (by decide +kernel) (Or.inl ⟨(Nat.le_of_ble_eq_true rfl), (List.forall_mem_cons.mpr ⟨rf_cat _, (List.forall_mem_cons.mpr ⟨rfl, (List.forall_mem_cons.mpr ⟨rfl, (List.forall_mem_cons.mpr ⟨rfl, (fun _ h => absurd h List.not_mem_nil)⟩)⟩)⟩)⟩)⟩) ?_
  intro p e s m args below meth c ls hsz hname hF hM hl
  have hl : lv_has ls 9 [(0, va_rf (some a0)), (1, .int x1), (2, .int x2), (3, .int x3)] := by rw [g_args [va_rf (some a0), .int x1, .int x2, .int x3] 0 (List.forall_mem_cons.mpr ⟨rf_cat _, (List.forall_mem_cons.mpr ⟨rfl, (List.forall_mem_cons.mpr ⟨rfl, (List.forall_mem_cons.mpr ⟨rfl, (fun _ h => absurd h List.not_mem_nil)⟩)⟩)⟩)⟩)] at hl; exact hl
  have hF : gF p s m args meth c RX4 cX4_keepKeys 9 (some .int) D Y (gA S hs) := hF
  have hx := hF.1
  have hb := hF.2.1
  have Jb75 : ∀ (k29 : GS → Int32 → Option Nat → Option Nat → Option Nat → Int32 → Option ((Int32 × GS) ⊕ Nat)) (hk29 : ∀ (T29 : GS) (x3 : Int32) (x4 : Option Nat) (x5 : Option Nat) (x6 : Option Nat) (x7 : Int32), k29 T29 x3 x4 x5 x6 x7 = some (.inl (r, S')) → ∀ (H : Heap) (locs : List Loc) (ls : Array Slot), gM D Y (gA S hs) s.heap T29 hs H locs → lv_has ls 9 [(0, va_rf (some a0)), (3, .int x3), (4, va_rf x4), (5, va_rf x5), (6, va_rf x6), (7, .int x7)] → W p l e rm_X4_keepKeys s m args below meth c H locs 0 0 (MQ below (gQ (some (.int r)) D Y S' hs (gA S hs)) args s rm_X4_keepKeys.cells rm_X4_keepKeys.slots (gA S hs)) (F0 m 29 ls [])) (T75 : GS) (x3 : Int32) (x4 : Option Nat) (x5 : Option Nat) (x6 : Option Nat) (x7 : Int32) (s0 : Option Nat) (s1 : Int32) (s2 : Int32), f_X4_keepKeys_b75 k29 a0 T75 x3 x4 x5 x6 x7 s0 s1 s2 = some (.inl (r, S')) → ∀ (H : Heap) (locs : List Loc) (ls : Array Slot), gM D Y (gA S hs) s.heap T75 hs H locs → lv_has ls 9 [(0, va_rf (some a0)), (3, .int x3), (4, va_rf x4), (5, va_rf x5), (6, va_rf x6), (7, .int x7)] → W p l e rm_X4_keepKeys s m args below meth c H locs 0 0 (MQ below (gQ (some (.int r)) D Y S' hs (gA S hs)) args s rm_X4_keepKeys.cells rm_X4_keepKeys.slots (gA S hs)) (F0 m 75 ls [.int s2, .int s1, va_rf s0]) := by
    intro k29 hk29 T75 x3 x4 x5 x6 x7 s0 s1 s2 h H locs ls hM hl
    unfold f_X4_keepKeys_b75 at h
    have g := gbind h
    clear h
    obtain ⟨a41, e42, h⟩ := g
    have t43 := (gtk_of e42).2
    rw [(gtk_of e42).1]
    have g := gbind h
    clear h
    obtain ⟨S45, e44, h⟩ := g
    refine g_callV (As := [.int s1, .int s2]) (rest := []) hF hM (c_X4_markGoing e44) k_X4_markGoing u828 u830 u21 rfl rfl t43 rfl hl.1 rfl (Nat.le_of_ble_eq_true rfl) dX4_keepKeys_75 ⟨(Nat.le_of_ble_eq_true rfl), (Nat.le_of_ble_eq_true rfl)⟩ ⟨(Nat.le_of_ble_eq_true rfl), (Nat.le_of_ble_eq_true rfl)⟩ (fun H locs hM => ?_)
    refine lv_iinc (v := (x7 + 1)) (lv' := [(7, .int (x7 + 1)), (0, va_rf (some a0)), (3, .int x3), (4, va_rf x4), (5, va_rf x5), (6, va_rf x6)]) hx hb dX4_keepKeys_78 hl (k := 5) rfl rfl (by decide) (by simp [rf_cat, ic_cat, lc_cat]) (fun ls hl => ?_)
    refine lv_goto (tgt := 29) hx hb dX4_keepKeys_81 (by decide) ?_
    refine W.widen (k := 0) (n := 0) (Nat.le_of_ble_eq_true rfl) (Nat.le_of_ble_eq_true rfl) ?_
    exact hk29 _ _ _ _ _ _ h _ _ _ hM (lv_sub hl [1, 2, 3, 4, 5, 0] rfl)
  have Jb59 : ∀ (k29 : GS → Int32 → Option Nat → Option Nat → Option Nat → Int32 → Option ((Int32 × GS) ⊕ Nat)) (hk29 : ∀ (T29 : GS) (x3 : Int32) (x4 : Option Nat) (x5 : Option Nat) (x6 : Option Nat) (x7 : Int32), k29 T29 x3 x4 x5 x6 x7 = some (.inl (r, S')) → ∀ (H : Heap) (locs : List Loc) (ls : Array Slot), gM D Y (gA S hs) s.heap T29 hs H locs → lv_has ls 9 [(0, va_rf (some a0)), (3, .int x3), (4, va_rf x4), (5, va_rf x5), (6, va_rf x6), (7, .int x7)] → W p l e rm_X4_keepKeys s m args below meth c H locs 0 0 (MQ below (gQ (some (.int r)) D Y S' hs (gA S hs)) args s rm_X4_keepKeys.cells rm_X4_keepKeys.slots (gA S hs)) (F0 m 29 ls [])) (T59 : GS) (x3 : Int32) (x4 : Option Nat) (x5 : Option Nat) (x6 : Option Nat) (x7 : Int32) (s0 : Int32), f_X4_keepKeys_b59 k29 a0 T59 x3 x4 x5 x6 x7 s0 = some (.inl (r, S')) → ∀ (H : Heap) (locs : List Loc) (ls : Array Slot), gM D Y (gA S hs) s.heap T59 hs H locs → lv_has ls 9 [(0, va_rf (some a0)), (3, .int x3), (4, va_rf x4), (5, va_rf x5), (6, va_rf x6), (7, .int x7)] → W p l e rm_X4_keepKeys s m args below meth c H locs 0 0 (MQ below (gQ (some (.int r)) D Y S' hs (gA S hs)) args s rm_X4_keepKeys.cells rm_X4_keepKeys.slots (gA S hs)) (F0 m 59 ls [.int s0]) := by
    intro k29 hk29 T59 x3 x4 x5 x6 x7 s0 h H locs ls hM hl
    unfold f_X4_keepKeys_b59 at h
    refine lv_istore (i := 8) (lv' := [(8, .int s0), (0, va_rf (some a0)), (3, .int x3), (4, va_rf x4), (5, va_rf x5), (6, va_rf x6), (7, .int x7)]) hx hb dX4_keepKeys_59 hl (by decide) rfl (fun ls hl => ?_)
    refine g_aload_n hx hb dX4_keepKeys_61 rfl (lv_at hl 1 rfl) ?_
    refine lv_iload hx hb dX4_keepKeys_62 (lv_at hl 6 rfl) ?_
    refine lv_iload hx hb dX4_keepKeys_64 (lv_at hl 0 rfl) ?_
    refine lv_iload_n hx hb dX4_keepKeys_66 rfl (lv_at hl 2 rfl) ?_
    refine lv_icmp_eq (tgt := 74) hx hb dX4_keepKeys_67 (by decide) (fun c40 => ?_) (fun c40 => ?_)
    · replace h := (if_pos c40).symm.trans h
      refine lv_iconst (v := 0) hx hb dX4_keepKeys_74 (by decide) ?_
      refine W.widen (k := 0) (n := 0) (Nat.le_of_ble_eq_true rfl) (Nat.le_of_ble_eq_true rfl) ?_
      exact Jb75 _ hk29 _ _ _ _ _ _ _ _ _ h _ _ _ hM (lv_sub hl [1, 2, 3, 4, 5, 6] rfl)
    · replace h := (if_neg c40).symm.trans h
      refine lv_iconst (v := 1) hx hb dX4_keepKeys_70 (by decide) ?_
      refine lv_goto (tgt := 75) hx hb dX4_keepKeys_71 (by decide) ?_
      refine W.widen (k := 0) (n := 0) (Nat.le_of_ble_eq_true rfl) (Nat.le_of_ble_eq_true rfl) ?_
      exact Jb75 _ hk29 _ _ _ _ _ _ _ _ _ h _ _ _ hM (lv_sub hl [1, 2, 3, 4, 5, 6] rfl)
  have JL29 : ∀ (n : Nat) (T29 : GS) (x3 : Int32) (x4 : Option Nat) (x5 : Option Nat) (x6 : Option Nat) (x7 : Int32), f_X4_keepKeys_L29 a0 n T29 x3 x4 x5 x6 x7 = some (.inl (r, S')) → ∀ (H : Heap) (locs : List Loc) (ls : Array Slot), gM D Y (gA S hs) s.heap T29 hs H locs → lv_has ls 9 [(0, va_rf (some a0)), (3, .int x3), (4, va_rf x4), (5, va_rf x5), (6, va_rf x6), (7, .int x7)] → W p l e rm_X4_keepKeys s m args below meth c H locs 0 0 (MQ below (gQ (some (.int r)) D Y S' hs (gA S hs)) args s rm_X4_keepKeys.cells rm_X4_keepKeys.slots (gA S hs)) (F0 m 29 ls []) := by
    intro n
    induction n with
    | zero => intro T29 x3 x4 x5 x6 x7 h; unfold f_X4_keepKeys_L29 at h; exact nomatch h
    | succ n ih =>
      intro T29 x3 x4 x5 x6 x7 h H locs ls hM hl
      unfold f_X4_keepKeys_L29 at h
      refine lv_iload hx hb dX4_keepKeys_29 (lv_at hl 5 rfl) ?_
      refine g_aload hx hb dX4_keepKeys_31 (lv_at hl 2 rfl) ?_
      have g := gbind h
      clear h
      obtain ⟨a19, e20, h⟩ := g
      have t21 := (gtk_of e20).2
      rw [(gtk_of e20).1]
      have g := gbind h
      clear h
      obtain ⟨v23, e22, h⟩ := g
      refine g_callV (As := []) (rest := [.int x7]) hF hM (c_X1_count e22) k_X1_count u195 u196 u197 rfl rfl t21 rfl hl.1 rfl (Nat.le_of_ble_eq_true rfl) dX4_keepKeys_33 ⟨(Nat.le_of_ble_eq_true rfl), (Nat.le_of_ble_eq_true rfl)⟩ ⟨(Nat.le_of_ble_eq_true rfl), (Nat.le_of_ble_eq_true rfl)⟩ (fun H locs hM => ?_)
      refine lv_icmp_ge (tgt := 84) hx hb dX4_keepKeys_36 (by decide) (fun c24 => ?_) (fun c24 => ?_)
      · replace h := (if_pos c24).symm.trans h
        refine g_aload_n hx hb dX4_keepKeys_84 rfl (lv_at hl 0 rfl) ?_
        refine g_aload hx hb dX4_keepKeys_85 (lv_at hl 2 rfl) ?_
        refine g_aload hx hb dX4_keepKeys_87 (lv_at hl 4 rfl) ?_
        have g := gckE h
        clear h
        obtain ⟨t25, h⟩ := g
        have t25 := eq_of_beq t25
        have g := gb2E h
        clear h
        obtain ⟨v27, S28, e26, h⟩ := g
        refine g_callV (As := [va_rf x4, va_rf x6]) (rest := []) hF hM (c_X4_removeGoing e26) k_X4_removeGoing u832 u834 u22 rfl rfl t25 rfl hl.1 rfl (Nat.le_of_ble_eq_true rfl) dX4_keepKeys_89 ⟨(Nat.le_of_ble_eq_true rfl), (Nat.le_of_ble_eq_true rfl)⟩ ⟨(Nat.le_of_ble_eq_true rfl), (Nat.le_of_ble_eq_true rfl)⟩ (fun H locs hM => ?_)
        obtain ⟨q1, q2⟩ := Prod.mk.inj (Sum.inl.inj (Option.some.inj h))
        rw [← q1, ← q2]
        exact g_iret hF hM rfl rfl dX4_keepKeys_92 (Nat.le_of_ble_eq_true rfl) (Nat.le_of_ble_eq_true rfl)
      · replace h := (if_neg c24).symm.trans h
        refine g_aload hx hb dX4_keepKeys_39 (lv_at hl 3 rfl) ?_
        refine g_aload hx hb dX4_keepKeys_41 (lv_at hl 2 rfl) ?_
        refine lv_iload hx hb dX4_keepKeys_43 (lv_at hl 5 rfl) ?_
        have g := gbind h
        clear h
        obtain ⟨a29, e30, h⟩ := g
        have t31 := (gtk_of e30).2
        rw [(gtk_of e30).1]
        have g := gbind h
        clear h
        obtain ⟨v33, e32, h⟩ := g
        refine g_callV (As := [.int x7]) (rest := [va_rf x5]) hF hM (c_X1_numberOf e32) k_X1_numberOf u864 u210 u211 rfl rfl t31 rfl hl.1 rfl (by simp [rf_cat, ic_cat, lc_cat]) dX4_keepKeys_45 ⟨(Nat.le_of_ble_eq_true rfl), (Nat.le_of_ble_eq_true rfl)⟩ ⟨(Nat.le_of_ble_eq_true rfl), (Nat.le_of_ble_eq_true rfl)⟩ (fun H locs hM => ?_)
        have g := gbind h
        clear h
        obtain ⟨a34, e35, h⟩ := g
        have t36 := (gtk_of e35).2
        rw [(gtk_of e35).1]
        have g := gbind h
        clear h
        obtain ⟨v38, e37, h⟩ := g
        refine g_callV (As := [.int v33]) (rest := []) hF hM (c_X1_findNumber e37) k_X1_findNumber u994 u260 u261 rfl rfl t36 rfl hl.1 rfl (Nat.le_of_ble_eq_true rfl) dX4_keepKeys_48 ⟨(Nat.le_of_ble_eq_true rfl), (Nat.le_of_ble_eq_true rfl)⟩ ⟨(Nat.le_of_ble_eq_true rfl), (Nat.le_of_ble_eq_true rfl)⟩ (fun H locs hM => ?_)
        refine lv_if_lt (tgt := 58) hx hb dX4_keepKeys_51 (by decide) (fun c39 => ?_) (fun c39 => ?_)
        · replace h := (if_pos c39).symm.trans h
          refine lv_iconst (v := 0) hx hb dX4_keepKeys_58 (by decide) ?_
          refine W.widen (k := 0) (n := 0) (Nat.le_of_ble_eq_true rfl) (Nat.le_of_ble_eq_true rfl) ?_
          exact Jb59 _ ih _ _ _ _ _ _ _ h _ _ _ hM (lv_sub hl [0, 1, 2, 3, 4, 5] rfl)
        · replace h := (if_neg c39).symm.trans h
          refine lv_iconst (v := 1) hx hb dX4_keepKeys_54 (by decide) ?_
          refine lv_goto (tgt := 59) hx hb dX4_keepKeys_55 (by decide) ?_
          refine W.widen (k := 0) (n := 0) (Nat.le_of_ble_eq_true rfl) (Nat.le_of_ble_eq_true rfl) ?_
          exact Jb59 _ ih _ _ _ _ _ _ _ h _ _ _ hM (lv_sub hl [0, 1, 2, 3, 4, 5] rfl)
  unfold f_X4_keepKeys at h
  refine lv_iload_n hx hb dX4_keepKeys_0 rfl (lv_at hl 1 rfl) ?_
  refine lv_iload_n hx hb dX4_keepKeys_1 rfl (lv_at hl 2 rfl) ?_
  have g := gthE h
  clear h
  rcases g with ⟨w2, e1, h⟩ | ⟨y3, e1, z4⟩
  · refine g_callS (As := [.int x1, .int x2]) (rest := []) hF hM (c_X4_needSlots e1) k_X4_needSlots u844 u845 rfl hl.1 rfl (Nat.le_of_ble_eq_true rfl) dX4_keepKeys_2 ⟨(Nat.le_of_ble_eq_true rfl), (Nat.le_of_ble_eq_true rfl)⟩ ⟨(Nat.le_of_ble_eq_true rfl), (Nat.le_of_ble_eq_true rfl)⟩ (fun H locs hM => ?_)
    refine g_aload_n hx hb dX4_keepKeys_5 rfl (lv_at hl 0 rfl) ?_
    refine lv_iload_n hx hb dX4_keepKeys_6 rfl (lv_at hl 1 rfl) ?_
    have g := gckE h
    clear h
    obtain ⟨t5, h⟩ := g
    have t5 := eq_of_beq t5
    have g := gthE h
    clear h
    rcases g with ⟨v7, e6, h⟩ | ⟨y8, e6, z9⟩
    · refine g_callV (As := [.int x1]) (rest := []) hF hM (c_X4_needKeys e6) k_X4_needKeys u1016 u1018 u24 rfl rfl t5 rfl hl.1 rfl (Nat.le_of_ble_eq_true rfl) dX4_keepKeys_7 ⟨(Nat.le_of_ble_eq_true rfl), (Nat.le_of_ble_eq_true rfl)⟩ ⟨(Nat.le_of_ble_eq_true rfl), (Nat.le_of_ble_eq_true rfl)⟩ (fun H locs hM => ?_)
      refine g_astore (i := 4) (lv' := [(0, va_rf (some a0)), (1, .int x1), (2, .int x2), (3, .int x3)]) hx hb dX4_keepKeys_10 hl (by decide) (fun v => rfl) (fun ls hl => ?_)
      refine g_aload_n hx hb dX4_keepKeys_12 rfl (lv_at hl 1 rfl) ?_
      refine lv_iload_n hx hb dX4_keepKeys_13 rfl (lv_at hl 3 rfl) ?_
      have g := gckE h
      clear h
      obtain ⟨t10, h⟩ := g
      have t10 := eq_of_beq t10
      have g := gthE h
      clear h
      rcases g with ⟨v12, e11, h⟩ | ⟨y13, e11, z14⟩
      · refine g_callV (As := [.int x2]) (rest := []) hF hM (c_X4_needKeys e11) k_X4_needKeys u1016 u1018 u24 rfl rfl t10 rfl hl.1 rfl (Nat.le_of_ble_eq_true rfl) dX4_keepKeys_14 ⟨(Nat.le_of_ble_eq_true rfl), (Nat.le_of_ble_eq_true rfl)⟩ ⟨(Nat.le_of_ble_eq_true rfl), (Nat.le_of_ble_eq_true rfl)⟩ (fun H locs hM => ?_)
        refine g_astore (i := 5) (lv' := [(4, va_rf v7), (0, va_rf (some a0)), (1, .int x1), (2, .int x2), (3, .int x3)]) hx hb dX4_keepKeys_17 hl (by decide) (fun v => by simp [rf_cat, ic_cat, lc_cat]) (fun ls hl => ?_)
        refine g_aload hx hb dX4_keepKeys_19 (lv_at hl 1 rfl) ?_
        have g := gthE h
        clear h
        rcases g with ⟨v16, e15, h⟩ | ⟨y17, e15, z18⟩
        · refine g_callS (As := [va_rf v7]) (rest := []) hF hM (c_X4_openStore e15) k_X4_openStore u732 u733 rfl hl.1 rfl (Nat.le_of_ble_eq_true rfl) dX4_keepKeys_21 ⟨(Nat.le_of_ble_eq_true rfl), (Nat.le_of_ble_eq_true rfl)⟩ ⟨(Nat.le_of_ble_eq_true rfl), (Nat.le_of_ble_eq_true rfl)⟩ (fun H locs hM => ?_)
          refine g_astore (i := 6) (lv' := [(5, va_rf v12), (4, va_rf v7), (0, va_rf (some a0)), (1, .int x1), (2, .int x2), (3, .int x3)]) hx hb dX4_keepKeys_24 hl (by decide) (fun v => by simp [rf_cat, ic_cat, lc_cat]) (fun ls hl => ?_)
          refine lv_iconst (v := 0) hx hb dX4_keepKeys_26 (by decide) ?_
          refine lv_istore (i := 7) (lv' := [(7, .int 0), (6, va_rf v16), (5, va_rf v12), (4, va_rf v7), (0, va_rf (some a0)), (1, .int x1), (2, .int x2), (3, .int x3)]) hx hb dX4_keepKeys_27 hl (by decide) (by simp [rf_cat, ic_cat, lc_cat]) (fun ls hl => ?_)
          refine W.widen (k := 0) (n := 0) (Nat.le_of_ble_eq_true rfl) (Nat.le_of_ble_eq_true rfl) ?_
          exact JL29 gN _ _ _ _ _ _ h _ _ _ hM (lv_sub hl [4, 7, 3, 2, 1, 0] rfl)
        · exact nomatch z18
      · exact nomatch z14
    · exact nomatch z9
  · exact nomatch z4
abbrev rmx_X4_keepKeys : Room := { frames := 8, cells := 1, slots := 6, locals := 132 }
set_option maxHeartbeats 4000000 in
set_option maxRecDepth 100000 in
theorem cx_X4_keepKeys {l : Launch} {D : va_G} {Y : Nat → ClassId} {S : GS} {hs : Nat} {a0 : Nat} {x1 : Int32} {x2 : Int32} {x3 : Int32} {x : Nat} (hfl : l.stackTraces = false) (h : f_X4_keepKeys S a0 x1 x2 x3 = some (.inr x)) : gMx l yX4_keepKeys (gWs yX4_keepKeys cX4_keepKeys 9 (some .int)) rmx_X4_keepKeys [va_rf (some a0), .int x1, .int x2, .int x3] D Y S hs (.inr x) := by
  refine g_ofWx (by decide +kernel) (Or.inl ⟨(Nat.le_of_ble_eq_true rfl), (List.forall_mem_cons.mpr ⟨rf_cat _, (List.forall_mem_cons.mpr ⟨rfl, (List.forall_mem_cons.mpr ⟨rfl, (List.forall_mem_cons.mpr ⟨rfl, (fun _ h => absurd h List.not_mem_nil)⟩)⟩)⟩)⟩)⟩) ?_
  intro p e s m args below meth c ls hsz hout hF hM hl
  have hl : lv_has ls 9 [(0, va_rf (some a0)), (1, .int x1), (2, .int x2), (3, .int x3)] := by rw [g_args [va_rf (some a0), .int x1, .int x2, .int x3] 0 (List.forall_mem_cons.mpr ⟨rf_cat _, (List.forall_mem_cons.mpr ⟨rfl, (List.forall_mem_cons.mpr ⟨rfl, (List.forall_mem_cons.mpr ⟨rfl, (fun _ h => absurd h List.not_mem_nil)⟩)⟩)⟩)⟩)] at hl; exact hl
  have hF : gF p s m args meth c RX4 cX4_keepKeys 9 (some .int) D Y (gA S hs) := hF
  have hx := hF.1
  have hb := hF.2.1
  have Jb75 : ∀ (k29 : GS → Int32 → Option Nat → Option Nat → Option Nat → Int32 → Option ((Int32 × GS) ⊕ Nat)) (hk29 : ∀ (T29 : GS) (x3 : Int32) (x4 : Option Nat) (x5 : Option Nat) (x6 : Option Nat) (x7 : Int32), k29 T29 x3 x4 x5 x6 x7 = some (.inr x) → ∀ (H : Heap) (locs : List Loc) (ls : Array Slot), gM D Y (gA S hs) s.heap T29 hs H locs → lv_has ls 9 [(0, va_rf (some a0)), (3, .int x3), (4, va_rf x4), (5, va_rf x5), (6, va_rf x6), (7, .int x7)] → W p l e rmx_X4_keepKeys s m args below meth c H locs 0 0 (vx_MQ below (gQz (.inr x) D Y (gA S hs)) (gXz (.inr x) D Y S (gA S hs)) args s rmx_X4_keepKeys.cells rmx_X4_keepKeys.slots (gA S hs)) (F0 m 29 ls [])) (T75 : GS) (x3 : Int32) (x4 : Option Nat) (x5 : Option Nat) (x6 : Option Nat) (x7 : Int32) (s0 : Option Nat) (s1 : Int32) (s2 : Int32), f_X4_keepKeys_b75 k29 a0 T75 x3 x4 x5 x6 x7 s0 s1 s2 = some (.inr x) → ∀ (H : Heap) (locs : List Loc) (ls : Array Slot), gM D Y (gA S hs) s.heap T75 hs H locs → lv_has ls 9 [(0, va_rf (some a0)), (3, .int x3), (4, va_rf x4), (5, va_rf x5), (6, va_rf x6), (7, .int x7)] → W p l e rmx_X4_keepKeys s m args below meth c H locs 0 0 (vx_MQ below (gQz (.inr x) D Y (gA S hs)) (gXz (.inr x) D Y S (gA S hs)) args s rmx_X4_keepKeys.cells rmx_X4_keepKeys.slots (gA S hs)) (F0 m 75 ls [.int s2, .int s1, va_rf s0]) := by
    intro k29 hk29 T75 x3 x4 x5 x6 x7 s0 s1 s2 h H locs ls hM hl
    unfold f_X4_keepKeys_b75 at h
    have g := gbind h
    clear h
    obtain ⟨a41, e42, h⟩ := g
    have t43 := (gtk_of e42).2
    rw [(gtk_of e42).1]
    have g := gbind h
    clear h
    obtain ⟨S45, e44, h⟩ := g
    refine g_callV (As := [.int s1, .int s2]) (rest := []) hF hM (c_X4_markGoing e44) k_X4_markGoing u828 u830 u21 rfl rfl t43 rfl hl.1 rfl (Nat.le_of_ble_eq_true rfl) dX4_keepKeys_75 ⟨(Nat.le_of_ble_eq_true rfl), (Nat.le_of_ble_eq_true rfl)⟩ ⟨(Nat.le_of_ble_eq_true rfl), (Nat.le_of_ble_eq_true rfl)⟩ (fun H locs hM => ?_)
    refine lv_iinc (v := (x7 + 1)) (lv' := [(7, .int (x7 + 1)), (0, va_rf (some a0)), (3, .int x3), (4, va_rf x4), (5, va_rf x5), (6, va_rf x6)]) hx hb dX4_keepKeys_78 hl (k := 5) rfl rfl (by decide) (by simp [rf_cat, ic_cat, lc_cat]) (fun ls hl => ?_)
    refine lv_goto (tgt := 29) hx hb dX4_keepKeys_81 (by decide) ?_
    refine W.widen (k := 0) (n := 0) (Nat.le_of_ble_eq_true rfl) (Nat.le_of_ble_eq_true rfl) ?_
    exact hk29 _ _ _ _ _ _ h _ _ _ hM (lv_sub hl [1, 2, 3, 4, 5, 0] rfl)
  have Jb59 : ∀ (k29 : GS → Int32 → Option Nat → Option Nat → Option Nat → Int32 → Option ((Int32 × GS) ⊕ Nat)) (hk29 : ∀ (T29 : GS) (x3 : Int32) (x4 : Option Nat) (x5 : Option Nat) (x6 : Option Nat) (x7 : Int32), k29 T29 x3 x4 x5 x6 x7 = some (.inr x) → ∀ (H : Heap) (locs : List Loc) (ls : Array Slot), gM D Y (gA S hs) s.heap T29 hs H locs → lv_has ls 9 [(0, va_rf (some a0)), (3, .int x3), (4, va_rf x4), (5, va_rf x5), (6, va_rf x6), (7, .int x7)] → W p l e rmx_X4_keepKeys s m args below meth c H locs 0 0 (vx_MQ below (gQz (.inr x) D Y (gA S hs)) (gXz (.inr x) D Y S (gA S hs)) args s rmx_X4_keepKeys.cells rmx_X4_keepKeys.slots (gA S hs)) (F0 m 29 ls [])) (T59 : GS) (x3 : Int32) (x4 : Option Nat) (x5 : Option Nat) (x6 : Option Nat) (x7 : Int32) (s0 : Int32), f_X4_keepKeys_b59 k29 a0 T59 x3 x4 x5 x6 x7 s0 = some (.inr x) → ∀ (H : Heap) (locs : List Loc) (ls : Array Slot), gM D Y (gA S hs) s.heap T59 hs H locs → lv_has ls 9 [(0, va_rf (some a0)), (3, .int x3), (4, va_rf x4), (5, va_rf x5), (6, va_rf x6), (7, .int x7)] → W p l e rmx_X4_keepKeys s m args below meth c H locs 0 0 (vx_MQ below (gQz (.inr x) D Y (gA S hs)) (gXz (.inr x) D Y S (gA S hs)) args s rmx_X4_keepKeys.cells rmx_X4_keepKeys.slots (gA S hs)) (F0 m 59 ls [.int s0]) := by
    intro k29 hk29 T59 x3 x4 x5 x6 x7 s0 h H locs ls hM hl
    unfold f_X4_keepKeys_b59 at h
    refine lv_istore (i := 8) (lv' := [(8, .int s0), (0, va_rf (some a0)), (3, .int x3), (4, va_rf x4), (5, va_rf x5), (6, va_rf x6), (7, .int x7)]) hx hb dX4_keepKeys_59 hl (by decide) rfl (fun ls hl => ?_)
    refine g_aload_n hx hb dX4_keepKeys_61 rfl (lv_at hl 1 rfl) ?_
    refine lv_iload hx hb dX4_keepKeys_62 (lv_at hl 6 rfl) ?_
    refine lv_iload hx hb dX4_keepKeys_64 (lv_at hl 0 rfl) ?_
    refine lv_iload_n hx hb dX4_keepKeys_66 rfl (lv_at hl 2 rfl) ?_
    refine lv_icmp_eq (tgt := 74) hx hb dX4_keepKeys_67 (by decide) (fun c40 => ?_) (fun c40 => ?_)
    · replace h := (if_pos c40).symm.trans h
      refine lv_iconst (v := 0) hx hb dX4_keepKeys_74 (by decide) ?_
      refine W.widen (k := 0) (n := 0) (Nat.le_of_ble_eq_true rfl) (Nat.le_of_ble_eq_true rfl) ?_
      exact Jb75 _ hk29 _ _ _ _ _ _ _ _ _ h _ _ _ hM (lv_sub hl [1, 2, 3, 4, 5, 6] rfl)
    · replace h := (if_neg c40).symm.trans h
      refine lv_iconst (v := 1) hx hb dX4_keepKeys_70 (by decide) ?_
      refine lv_goto (tgt := 75) hx hb dX4_keepKeys_71 (by decide) ?_
      refine W.widen (k := 0) (n := 0) (Nat.le_of_ble_eq_true rfl) (Nat.le_of_ble_eq_true rfl) ?_
      exact Jb75 _ hk29 _ _ _ _ _ _ _ _ _ h _ _ _ hM (lv_sub hl [1, 2, 3, 4, 5, 6] rfl)
  have JL29 : ∀ (n : Nat) (T29 : GS) (x3 : Int32) (x4 : Option Nat) (x5 : Option Nat) (x6 : Option Nat) (x7 : Int32), f_X4_keepKeys_L29 a0 n T29 x3 x4 x5 x6 x7 = some (.inr x) → ∀ (H : Heap) (locs : List Loc) (ls : Array Slot), gM D Y (gA S hs) s.heap T29 hs H locs → lv_has ls 9 [(0, va_rf (some a0)), (3, .int x3), (4, va_rf x4), (5, va_rf x5), (6, va_rf x6), (7, .int x7)] → W p l e rmx_X4_keepKeys s m args below meth c H locs 0 0 (vx_MQ below (gQz (.inr x) D Y (gA S hs)) (gXz (.inr x) D Y S (gA S hs)) args s rmx_X4_keepKeys.cells rmx_X4_keepKeys.slots (gA S hs)) (F0 m 29 ls []) := by
    intro n
    induction n with
    | zero => intro T29 x3 x4 x5 x6 x7 h; unfold f_X4_keepKeys_L29 at h; exact nomatch h
    | succ n ih =>
      intro T29 x3 x4 x5 x6 x7 h H locs ls hM hl
      unfold f_X4_keepKeys_L29 at h
      refine lv_iload hx hb dX4_keepKeys_29 (lv_at hl 5 rfl) ?_
      refine g_aload hx hb dX4_keepKeys_31 (lv_at hl 2 rfl) ?_
      have g := gbind h
      clear h
      obtain ⟨a19, e20, h⟩ := g
      have t21 := (gtk_of e20).2
      rw [(gtk_of e20).1]
      have g := gbind h
      clear h
      obtain ⟨v23, e22, h⟩ := g
      refine g_callV (As := []) (rest := [.int x7]) hF hM (c_X1_count e22) k_X1_count u195 u196 u197 rfl rfl t21 rfl hl.1 rfl (Nat.le_of_ble_eq_true rfl) dX4_keepKeys_33 ⟨(Nat.le_of_ble_eq_true rfl), (Nat.le_of_ble_eq_true rfl)⟩ ⟨(Nat.le_of_ble_eq_true rfl), (Nat.le_of_ble_eq_true rfl)⟩ (fun H locs hM => ?_)
      refine lv_icmp_ge (tgt := 84) hx hb dX4_keepKeys_36 (by decide) (fun c24 => ?_) (fun c24 => ?_)
      · replace h := (if_pos c24).symm.trans h
        refine g_aload_n hx hb dX4_keepKeys_84 rfl (lv_at hl 0 rfl) ?_
        refine g_aload hx hb dX4_keepKeys_85 (lv_at hl 2 rfl) ?_
        refine g_aload hx hb dX4_keepKeys_87 (lv_at hl 4 rfl) ?_
        have g := gckE h
        clear h
        obtain ⟨t25, h⟩ := g
        have t25 := eq_of_beq t25
        have g := gb2E h
        clear h
        obtain ⟨v27, S28, e26, h⟩ := g
        refine g_callV (As := [va_rf x4, va_rf x6]) (rest := []) hF hM (c_X4_removeGoing e26) k_X4_removeGoing u832 u834 u22 rfl rfl t25 rfl hl.1 rfl (Nat.le_of_ble_eq_true rfl) dX4_keepKeys_89 ⟨(Nat.le_of_ble_eq_true rfl), (Nat.le_of_ble_eq_true rfl)⟩ ⟨(Nat.le_of_ble_eq_true rfl), (Nat.le_of_ble_eq_true rfl)⟩ (fun H locs hM => ?_)
        exact nomatch (Option.some.inj h)
      · replace h := (if_neg c24).symm.trans h
        refine g_aload hx hb dX4_keepKeys_39 (lv_at hl 3 rfl) ?_
        refine g_aload hx hb dX4_keepKeys_41 (lv_at hl 2 rfl) ?_
        refine lv_iload hx hb dX4_keepKeys_43 (lv_at hl 5 rfl) ?_
        have g := gbind h
        clear h
        obtain ⟨a29, e30, h⟩ := g
        have t31 := (gtk_of e30).2
        rw [(gtk_of e30).1]
        have g := gbind h
        clear h
        obtain ⟨v33, e32, h⟩ := g
        refine g_callV (As := [.int x7]) (rest := [va_rf x5]) hF hM (c_X1_numberOf e32) k_X1_numberOf u864 u210 u211 rfl rfl t31 rfl hl.1 rfl (by simp [rf_cat, ic_cat, lc_cat]) dX4_keepKeys_45 ⟨(Nat.le_of_ble_eq_true rfl), (Nat.le_of_ble_eq_true rfl)⟩ ⟨(Nat.le_of_ble_eq_true rfl), (Nat.le_of_ble_eq_true rfl)⟩ (fun H locs hM => ?_)
        have g := gbind h
        clear h
        obtain ⟨a34, e35, h⟩ := g
        have t36 := (gtk_of e35).2
        rw [(gtk_of e35).1]
        have g := gbind h
        clear h
        obtain ⟨v38, e37, h⟩ := g
        refine g_callV (As := [.int v33]) (rest := []) hF hM (c_X1_findNumber e37) k_X1_findNumber u994 u260 u261 rfl rfl t36 rfl hl.1 rfl (Nat.le_of_ble_eq_true rfl) dX4_keepKeys_48 ⟨(Nat.le_of_ble_eq_true rfl), (Nat.le_of_ble_eq_true rfl)⟩ ⟨(Nat.le_of_ble_eq_true rfl), (Nat.le_of_ble_eq_true rfl)⟩ (fun H locs hM => ?_)
        refine lv_if_lt (tgt := 58) hx hb dX4_keepKeys_51 (by decide) (fun c39 => ?_) (fun c39 => ?_)
        · replace h := (if_pos c39).symm.trans h
          refine lv_iconst (v := 0) hx hb dX4_keepKeys_58 (by decide) ?_
          refine W.widen (k := 0) (n := 0) (Nat.le_of_ble_eq_true rfl) (Nat.le_of_ble_eq_true rfl) ?_
          exact Jb59 _ ih _ _ _ _ _ _ _ h _ _ _ hM (lv_sub hl [0, 1, 2, 3, 4, 5] rfl)
        · replace h := (if_neg c39).symm.trans h
          refine lv_iconst (v := 1) hx hb dX4_keepKeys_54 (by decide) ?_
          refine lv_goto (tgt := 59) hx hb dX4_keepKeys_55 (by decide) ?_
          refine W.widen (k := 0) (n := 0) (Nat.le_of_ble_eq_true rfl) (Nat.le_of_ble_eq_true rfl) ?_
          exact Jb59 _ ih _ _ _ _ _ _ _ h _ _ _ hM (lv_sub hl [0, 1, 2, 3, 4, 5] rfl)
  unfold f_X4_keepKeys at h
  refine lv_iload_n hx hb dX4_keepKeys_0 rfl (lv_at hl 1 rfl) ?_
  refine lv_iload_n hx hb dX4_keepKeys_1 rfl (lv_at hl 2 rfl) ?_
  have g := gthE h
  clear h
  rcases g with ⟨w2, e1, h⟩ | ⟨y3, e1, z4⟩
  · refine g_callS (As := [.int x1, .int x2]) (rest := []) hF hM (c_X4_needSlots e1) k_X4_needSlots u844 u845 rfl hl.1 rfl (Nat.le_of_ble_eq_true rfl) dX4_keepKeys_2 ⟨(Nat.le_of_ble_eq_true rfl), (Nat.le_of_ble_eq_true rfl)⟩ ⟨(Nat.le_of_ble_eq_true rfl), (Nat.le_of_ble_eq_true rfl)⟩ (fun H locs hM => ?_)
    refine g_aload_n hx hb dX4_keepKeys_5 rfl (lv_at hl 0 rfl) ?_
    refine lv_iload_n hx hb dX4_keepKeys_6 rfl (lv_at hl 1 rfl) ?_
    have g := gckE h
    clear h
    obtain ⟨t5, h⟩ := g
    have t5 := eq_of_beq t5
    have g := gthE h
    clear h
    rcases g with ⟨v7, e6, h⟩ | ⟨y8, e6, z9⟩
    · refine g_callV (As := [.int x1]) (rest := []) hF hM (c_X4_needKeys e6) k_X4_needKeys u1016 u1018 u24 rfl rfl t5 rfl hl.1 rfl (Nat.le_of_ble_eq_true rfl) dX4_keepKeys_7 ⟨(Nat.le_of_ble_eq_true rfl), (Nat.le_of_ble_eq_true rfl)⟩ ⟨(Nat.le_of_ble_eq_true rfl), (Nat.le_of_ble_eq_true rfl)⟩ (fun H locs hM => ?_)
      refine g_astore (i := 4) (lv' := [(0, va_rf (some a0)), (1, .int x1), (2, .int x2), (3, .int x3)]) hx hb dX4_keepKeys_10 hl (by decide) (fun v => rfl) (fun ls hl => ?_)
      refine g_aload_n hx hb dX4_keepKeys_12 rfl (lv_at hl 1 rfl) ?_
      refine lv_iload_n hx hb dX4_keepKeys_13 rfl (lv_at hl 3 rfl) ?_
      have g := gckE h
      clear h
      obtain ⟨t10, h⟩ := g
      have t10 := eq_of_beq t10
      have g := gthE h
      clear h
      rcases g with ⟨v12, e11, h⟩ | ⟨y13, e11, z14⟩
      · refine g_callV (As := [.int x2]) (rest := []) hF hM (c_X4_needKeys e11) k_X4_needKeys u1016 u1018 u24 rfl rfl t10 rfl hl.1 rfl (Nat.le_of_ble_eq_true rfl) dX4_keepKeys_14 ⟨(Nat.le_of_ble_eq_true rfl), (Nat.le_of_ble_eq_true rfl)⟩ ⟨(Nat.le_of_ble_eq_true rfl), (Nat.le_of_ble_eq_true rfl)⟩ (fun H locs hM => ?_)
        refine g_astore (i := 5) (lv' := [(4, va_rf v7), (0, va_rf (some a0)), (1, .int x1), (2, .int x2), (3, .int x3)]) hx hb dX4_keepKeys_17 hl (by decide) (fun v => by simp [rf_cat, ic_cat, lc_cat]) (fun ls hl => ?_)
        refine g_aload hx hb dX4_keepKeys_19 (lv_at hl 1 rfl) ?_
        have g := gthE h
        clear h
        rcases g with ⟨v16, e15, h⟩ | ⟨y17, e15, z18⟩
        · refine g_callS (As := [va_rf v7]) (rest := []) hF hM (c_X4_openStore e15) k_X4_openStore u732 u733 rfl hl.1 rfl (Nat.le_of_ble_eq_true rfl) dX4_keepKeys_21 ⟨(Nat.le_of_ble_eq_true rfl), (Nat.le_of_ble_eq_true rfl)⟩ ⟨(Nat.le_of_ble_eq_true rfl), (Nat.le_of_ble_eq_true rfl)⟩ (fun H locs hM => ?_)
          refine g_astore (i := 6) (lv' := [(5, va_rf v12), (4, va_rf v7), (0, va_rf (some a0)), (1, .int x1), (2, .int x2), (3, .int x3)]) hx hb dX4_keepKeys_24 hl (by decide) (fun v => by simp [rf_cat, ic_cat, lc_cat]) (fun ls hl => ?_)
          refine lv_iconst (v := 0) hx hb dX4_keepKeys_26 (by decide) ?_
          refine lv_istore (i := 7) (lv' := [(7, .int 0), (6, va_rf v16), (5, va_rf v12), (4, va_rf v7), (0, va_rf (some a0)), (1, .int x1), (2, .int x2), (3, .int x3)]) hx hb dX4_keepKeys_27 hl (by decide) (by simp [rf_cat, ic_cat, lc_cat]) (fun ls hl => ?_)
          refine W.widen (k := 0) (n := 0) (Nat.le_of_ble_eq_true rfl) (Nat.le_of_ble_eq_true rfl) ?_
          exact JL29 gN _ _ _ _ _ _ h _ _ _ hM (lv_sub hl [4, 7, 3, 2, 1, 0] rfl)
        · exact g_callSt (As := [va_rf v7]) (rest := []) hF hM hout (cx_X4_openStore hfl e15) k_X4_openStore u732 u733 rfl hl.1 rfl (Nat.le_of_ble_eq_true rfl) dX4_keepKeys_21 ⟨(Nat.le_of_ble_eq_true rfl), (Nat.le_of_ble_eq_true rfl)⟩ ⟨(Nat.le_of_ble_eq_true rfl), (Nat.le_of_ble_eq_true rfl)⟩ (Nat.le_of_ble_eq_true rfl) (Nat.le_of_ble_eq_true rfl) (congrArg Sum.inr (Sum.inr.inj z18))
      · exact g_callVt (As := [.int x2]) (rest := []) hF hM hout (cx_X4_needKeys hfl e11) k_X4_needKeys u1016 u1018 u24 rfl rfl t10 rfl hl.1 rfl (Nat.le_of_ble_eq_true rfl) dX4_keepKeys_14 ⟨(Nat.le_of_ble_eq_true rfl), (Nat.le_of_ble_eq_true rfl)⟩ ⟨(Nat.le_of_ble_eq_true rfl), (Nat.le_of_ble_eq_true rfl)⟩ (Nat.le_of_ble_eq_true rfl) (Nat.le_of_ble_eq_true rfl) (congrArg Sum.inr (Sum.inr.inj z14))
    · exact g_callVt (As := [.int x1]) (rest := []) hF hM hout (cx_X4_needKeys hfl e6) k_X4_needKeys u1016 u1018 u24 rfl rfl t5 rfl hl.1 rfl (Nat.le_of_ble_eq_true rfl) dX4_keepKeys_7 ⟨(Nat.le_of_ble_eq_true rfl), (Nat.le_of_ble_eq_true rfl)⟩ ⟨(Nat.le_of_ble_eq_true rfl), (Nat.le_of_ble_eq_true rfl)⟩ (Nat.le_of_ble_eq_true rfl) (Nat.le_of_ble_eq_true rfl) (congrArg Sum.inr (Sum.inr.inj z9))
  · exact g_callSt (As := [.int x1, .int x2]) (rest := []) hF hM hout (cx_X4_needSlots hfl e1) k_X4_needSlots u844 u845 rfl hl.1 rfl (Nat.le_of_ble_eq_true rfl) dX4_keepKeys_2 ⟨(Nat.le_of_ble_eq_true rfl), (Nat.le_of_ble_eq_true rfl)⟩ ⟨(Nat.le_of_ble_eq_true rfl), (Nat.le_of_ble_eq_true rfl)⟩ (Nat.le_of_ble_eq_true rfl) (Nat.le_of_ble_eq_true rfl) (congrArg Sum.inr (Sum.inr.inj z4))
abbrev rm_X4_share : Room := { frames := 3, cells := 0, slots := 0, locals := 62 }
theorem k_X4_share : gKc yX4_share cX4_share 6 (some .float) 1 := ⟨u1040, u63, by decide +kernel, by decide +kernel, by decide +kernel⟩
set_option maxHeartbeats 4000000 in
set_option maxRecDepth 100000 in
theorem c_X4_share {l : Launch} {D : va_G} {Y : Nat → ClassId} {S : GS} {hs : Nat} {a0 : Nat} {x1 : Int32} {r : UInt32} (h : f_X4_share S a0 x1 = some (.inl r)) : gMet l yX4_share (gWs yX4_share cX4_share 6 (some .float)) rm_X4_share [va_rf (some a0), .int x1] D Y S hs (some (.float r)) S hs := by
  refine g_ofW (by decide +kernel) (Or.inl ⟨(Nat.le_of_ble_eq_true rfl), (List.forall_mem_cons.mpr ⟨rf_cat _, (List.forall_mem_cons.mpr ⟨rfl, (fun _ h => absurd h List.not_mem_nil)⟩)⟩)⟩) ?_
  intro p e s m args below meth c ls hsz hname hF hM hl
  have hl : lv_has ls 6 [(0, va_rf (some a0)), (1, .int x1)] := by rw [g_args [va_rf (some a0), .int x1] 0 (List.forall_mem_cons.mpr ⟨rf_cat _, (List.forall_mem_cons.mpr ⟨rfl, (fun _ h => absurd h List.not_mem_nil)⟩)⟩)] at hl; exact hl
  have hF : gF p s m args meth c RX4 cX4_share 6 (some .float) D Y (gA S hs) := hF
  have hx := hF.1
  have hb := hF.2.1
  have Jb47 : ∀ (k29 : Option Nat → Int32 → Int32 → Int32 → Option (UInt32 ⊕ Nat)) (hk29 : ∀ (x2 : Option Nat) (x3 : Int32) (x4 : Int32) (x5 : Int32), k29 x2 x3 x4 x5 = some (.inl r) → ∀ (H : Heap) (locs : List Loc) (ls : Array Slot), gM D Y (gA S hs) s.heap S hs H locs → lv_has ls 6 [(2, va_rf x2), (3, .int x3), (4, .int x4), (5, .int x5)] → W p l e rm_X4_share s m args below meth c H locs 0 0 (MQ below (gQ (some (.float r)) D Y S hs (gA S hs)) args s rm_X4_share.cells rm_X4_share.slots (gA S hs)) (F0 m 29 ls [])) (x2 : Option Nat) (x3 : Int32) (x4 : Int32) (x5 : Int32), f_X4_share_b47 k29 S a0 x2 x3 x4 x5 = some (.inl r) → ∀ (H : Heap) (locs : List Loc) (ls : Array Slot), gM D Y (gA S hs) s.heap S hs H locs → lv_has ls 6 [(2, va_rf x2), (3, .int x3), (4, .int x4), (5, .int x5)] → W p l e rm_X4_share s m args below meth c H locs 0 0 (MQ below (gQ (some (.float r)) D Y S hs (gA S hs)) args s rm_X4_share.cells rm_X4_share.slots (gA S hs)) (F0 m 47 ls []) := by
    intro k29 hk29 x2 x3 x4 x5 h H locs ls hM hl
    unfold f_X4_share_b47 at h
    refine lv_iinc (v := (x5 + 1)) (lv' := [(5, .int (x5 + 1)), (2, va_rf x2), (3, .int x3), (4, .int x4)]) hx hb dX4_share_47 hl (k := 3) rfl rfl (by decide) rfl (fun ls hl => ?_)
    refine lv_goto (tgt := 29) hx hb dX4_share_50 (by decide) ?_
    refine W.widen (k := 0) (n := 0) (Nat.le_of_ble_eq_true rfl) (Nat.le_of_ble_eq_true rfl) ?_
    exact hk29 _ _ _ _ h _ _ _ hM (lv_sub hl [1, 2, 3, 0] rfl)
  have JL29 : ∀ (n : Nat) (x2 : Option Nat) (x3 : Int32) (x4 : Int32) (x5 : Int32), f_X4_share_L29 S a0 n x2 x3 x4 x5 = some (.inl r) → ∀ (H : Heap) (locs : List Loc) (ls : Array Slot), gM D Y (gA S hs) s.heap S hs H locs → lv_has ls 6 [(2, va_rf x2), (3, .int x3), (4, .int x4), (5, .int x5)] → W p l e rm_X4_share s m args below meth c H locs 0 0 (MQ below (gQ (some (.float r)) D Y S hs (gA S hs)) args s rm_X4_share.cells rm_X4_share.slots (gA S hs)) (F0 m 29 ls []) := by
    intro n
    induction n with
    | zero => intro x2 x3 x4 x5 h; unfold f_X4_share_L29 at h; exact nomatch h
    | succ n ih =>
      intro x2 x3 x4 x5 h H locs ls hM hl
      unfold f_X4_share_L29 at h
      refine lv_iload hx hb dX4_share_29 (lv_at hl 3 rfl) ?_
      refine lv_iload_n hx hb dX4_share_31 rfl (lv_at hl 1 rfl) ?_
      refine lv_icmp_ge (tgt := 53) hx hb dX4_share_32 (by decide) (fun c12 => ?_) (fun c12 => ?_)
      · replace h := (if_pos c12).symm.trans h
        refine lv_iload hx hb dX4_share_53 (lv_at hl 2 rfl) ?_
        refine lv_i2f hx hb dX4_share_55 ?_
        refine lv_iload_n hx hb dX4_share_56 rfl (lv_at hl 1 rfl) ?_
        refine lv_i2f hx hb dX4_share_57 ?_
        have g := gckE h
        clear h
        obtain ⟨q13, h⟩ := g
        refine lv_fdiv hx hb dX4_share_58 (gn32_of q13) ?_
        rw [← (Sum.inl.inj (Option.some.inj h))]
        exact g_fret hF hM rfl dX4_share_59 (Nat.le_of_ble_eq_true rfl) (Nat.le_of_ble_eq_true rfl)
      · replace h := (if_neg c12).symm.trans h
        refine g_aload_n hx hb dX4_share_35 rfl (lv_at hl 0 rfl) ?_
        refine lv_iload hx hb dX4_share_36 (lv_at hl 3 rfl) ?_
        have g := gbind h
        clear h
        obtain ⟨a14, e15, h⟩ := g
        have t16 := (gtk_of e15).2
        rw [(gtk_of e15).1]
        have g := gbind h
        clear h
        obtain ⟨v18, e17, h⟩ := g
        refine g_callV (As := [.int x5]) (rest := []) hF hM (c_X1_keyOf e17) k_X1_keyOf u699 u226 u227 rfl rfl t16 rfl hl.1 rfl (Nat.le_of_ble_eq_true rfl) dX4_share_38 ⟨(Nat.le_of_ble_eq_true rfl), (Nat.le_of_ble_eq_true rfl)⟩ ⟨(Nat.le_of_ble_eq_true rfl), (Nat.le_of_ble_eq_true rfl)⟩ (fun H locs hM => ?_)
        refine lv_if_le (tgt := 47) hx hb dX4_share_41 (by decide) (fun c19 => ?_) (fun c19 => ?_)
        · replace h := (if_pos c19).symm.trans h
          refine W.widen (k := 0) (n := 0) (Nat.le_of_ble_eq_true rfl) (Nat.le_of_ble_eq_true rfl) ?_
          exact Jb47 _ ih _ _ _ _ h _ _ _ hM (lv_sub hl [0, 1, 2, 3] rfl)
        · replace h := (if_neg c19).symm.trans h
          refine lv_iinc (v := (x4 + 1)) (lv' := [(4, .int (x4 + 1)), (2, va_rf x2), (3, .int x3), (5, .int x5)]) hx hb dX4_share_44 hl (k := 2) rfl rfl (by decide) rfl (fun ls hl => ?_)
          refine W.widen (k := 0) (n := 0) (Nat.le_of_ble_eq_true rfl) (Nat.le_of_ble_eq_true rfl) ?_
          exact Jb47 _ ih _ _ _ _ h _ _ _ hM (lv_sub hl [1, 2, 0, 3] rfl)
  unfold f_X4_share at h
  refine g_aload_n hx hb dX4_share_0 rfl (lv_at hl 0 rfl) ?_
  refine lv_iload_n hx hb dX4_share_1 rfl (lv_at hl 1 rfl) ?_
  have g := gckE h
  clear h
  obtain ⟨t1, h⟩ := g
  have t1 := eq_of_beq t1
  have g := gthE h
  clear h
  rcases g with ⟨v3, e2, h⟩ | ⟨y4, e2, z5⟩
  · refine g_callV (As := [.int x1]) (rest := []) hF hM (c_X4_needRow e2) k_X4_needRow u807 u809 u20 rfl rfl t1 rfl hl.1 rfl (Nat.le_of_ble_eq_true rfl) dX4_share_2 ⟨(Nat.le_of_ble_eq_true rfl), (Nat.le_of_ble_eq_true rfl)⟩ ⟨(Nat.le_of_ble_eq_true rfl), (Nat.le_of_ble_eq_true rfl)⟩ (fun H locs hM => ?_)
    refine g_astore_n (i := 2) (lv' := [(0, va_rf (some a0)), (1, .int x1)]) hx hb dX4_share_5 rfl hl (by decide) (fun v => rfl) (fun ls hl => ?_)
    refine g_aload_n hx hb dX4_share_6 rfl (lv_at hl 0 rfl) ?_
    have g := gbind h
    clear h
    obtain ⟨a6, e7, h⟩ := g
    have t8 := (gtk_of e7).2
    rw [(gtk_of e7).1]
    have g := gbind h
    clear h
    obtain ⟨v10, e9, h⟩ := g
    refine g_callV (As := []) (rest := []) hF hM (c_X1_count e9) k_X1_count u195 u196 u197 rfl rfl t8 rfl hl.1 rfl (Nat.le_of_ble_eq_true rfl) dX4_share_7 ⟨(Nat.le_of_ble_eq_true rfl), (Nat.le_of_ble_eq_true rfl)⟩ ⟨(Nat.le_of_ble_eq_true rfl), (Nat.le_of_ble_eq_true rfl)⟩ (fun H locs hM => ?_)
    refine lv_istore_n (i := 3) (lv' := [(3, .int v10), (2, va_rf v3), (0, va_rf (some a0)), (1, .int x1)]) hx hb dX4_share_10 rfl hl (by decide) (by simp [rf_cat, ic_cat, lc_cat]) (fun ls hl => ?_)
    refine lv_iload_n hx hb dX4_share_11 rfl (lv_at hl 0 rfl) ?_
    refine lv_if_ne (tgt := 23) hx hb dX4_share_12 (by decide) (fun c11 => ?_) (fun c11 => ?_)
    · replace h := (if_neg c11).symm.trans h
      refine lv_iconst (v := 0) hx hb dX4_share_23 (by decide) ?_
      refine lv_istore (i := 4) (lv' := [(4, .int 0), (3, .int v10), (2, va_rf v3), (0, va_rf (some a0)), (1, .int x1)]) hx hb dX4_share_24 hl (by decide) rfl (fun ls hl => ?_)
      refine lv_iconst (v := 0) hx hb dX4_share_26 (by decide) ?_
      refine lv_istore (i := 5) (lv' := [(5, .int 0), (4, .int 0), (3, .int v10), (2, va_rf v3), (0, va_rf (some a0)), (1, .int x1)]) hx hb dX4_share_27 hl (by decide) rfl (fun ls hl => ?_)
      refine W.widen (k := 0) (n := 0) (Nat.le_of_ble_eq_true rfl) (Nat.le_of_ble_eq_true rfl) ?_
      exact JL29 gN _ _ _ _ h _ _ _ hM (lv_sub hl [3, 2, 1, 0] rfl)
    · replace h := (if_pos c11).symm.trans h
      exact nomatch (Option.some.inj h)
  · exact nomatch z5
abbrev rmx_X4_share : Room := { frames := 8, cells := 1, slots := 6, locals := 132 }
set_option maxHeartbeats 4000000 in
set_option maxRecDepth 100000 in
theorem cx_X4_share {l : Launch} {D : va_G} {Y : Nat → ClassId} {S : GS} {hs : Nat} {a0 : Nat} {x1 : Int32} {x : Nat} (hfl : l.stackTraces = false) (h : f_X4_share S a0 x1 = some (.inr x)) : gMx l yX4_share (gWs yX4_share cX4_share 6 (some .float)) rmx_X4_share [va_rf (some a0), .int x1] D Y S hs (.inr x) := by
  refine g_ofWx (by decide +kernel) (Or.inl ⟨(Nat.le_of_ble_eq_true rfl), (List.forall_mem_cons.mpr ⟨rf_cat _, (List.forall_mem_cons.mpr ⟨rfl, (fun _ h => absurd h List.not_mem_nil)⟩)⟩)⟩) ?_
  intro p e s m args below meth c ls hsz hout hF hM hl
  have hl : lv_has ls 6 [(0, va_rf (some a0)), (1, .int x1)] := by rw [g_args [va_rf (some a0), .int x1] 0 (List.forall_mem_cons.mpr ⟨rf_cat _, (List.forall_mem_cons.mpr ⟨rfl, (fun _ h => absurd h List.not_mem_nil)⟩)⟩)] at hl; exact hl
  have hF : gF p s m args meth c RX4 cX4_share 6 (some .float) D Y (gA S hs) := hF
  have hx := hF.1
  have hb := hF.2.1
  have Jb47 : ∀ (k29 : Option Nat → Int32 → Int32 → Int32 → Option (UInt32 ⊕ Nat)) (hk29 : ∀ (x2 : Option Nat) (x3 : Int32) (x4 : Int32) (x5 : Int32), k29 x2 x3 x4 x5 = some (.inr x) → ∀ (H : Heap) (locs : List Loc) (ls : Array Slot), gM D Y (gA S hs) s.heap S hs H locs → lv_has ls 6 [(2, va_rf x2), (3, .int x3), (4, .int x4), (5, .int x5)] → W p l e rmx_X4_share s m args below meth c H locs 0 0 (vx_MQ below (gQz (.inr x) D Y (gA S hs)) (gXz (.inr x) D Y S (gA S hs)) args s rmx_X4_share.cells rmx_X4_share.slots (gA S hs)) (F0 m 29 ls [])) (x2 : Option Nat) (x3 : Int32) (x4 : Int32) (x5 : Int32), f_X4_share_b47 k29 S a0 x2 x3 x4 x5 = some (.inr x) → ∀ (H : Heap) (locs : List Loc) (ls : Array Slot), gM D Y (gA S hs) s.heap S hs H locs → lv_has ls 6 [(2, va_rf x2), (3, .int x3), (4, .int x4), (5, .int x5)] → W p l e rmx_X4_share s m args below meth c H locs 0 0 (vx_MQ below (gQz (.inr x) D Y (gA S hs)) (gXz (.inr x) D Y S (gA S hs)) args s rmx_X4_share.cells rmx_X4_share.slots (gA S hs)) (F0 m 47 ls []) := by
    intro k29 hk29 x2 x3 x4 x5 h H locs ls hM hl
    unfold f_X4_share_b47 at h
    refine lv_iinc (v := (x5 + 1)) (lv' := [(5, .int (x5 + 1)), (2, va_rf x2), (3, .int x3), (4, .int x4)]) hx hb dX4_share_47 hl (k := 3) rfl rfl (by decide) rfl (fun ls hl => ?_)
    refine lv_goto (tgt := 29) hx hb dX4_share_50 (by decide) ?_
    refine W.widen (k := 0) (n := 0) (Nat.le_of_ble_eq_true rfl) (Nat.le_of_ble_eq_true rfl) ?_
    exact hk29 _ _ _ _ h _ _ _ hM (lv_sub hl [1, 2, 3, 0] rfl)
  have JL29 : ∀ (n : Nat) (x2 : Option Nat) (x3 : Int32) (x4 : Int32) (x5 : Int32), f_X4_share_L29 S a0 n x2 x3 x4 x5 = some (.inr x) → ∀ (H : Heap) (locs : List Loc) (ls : Array Slot), gM D Y (gA S hs) s.heap S hs H locs → lv_has ls 6 [(2, va_rf x2), (3, .int x3), (4, .int x4), (5, .int x5)] → W p l e rmx_X4_share s m args below meth c H locs 0 0 (vx_MQ below (gQz (.inr x) D Y (gA S hs)) (gXz (.inr x) D Y S (gA S hs)) args s rmx_X4_share.cells rmx_X4_share.slots (gA S hs)) (F0 m 29 ls []) := by
    intro n
    induction n with
    | zero => intro x2 x3 x4 x5 h; unfold f_X4_share_L29 at h; exact nomatch h
    | succ n ih =>
      intro x2 x3 x4 x5 h H locs ls hM hl
      unfold f_X4_share_L29 at h
      refine lv_iload hx hb dX4_share_29 (lv_at hl 3 rfl) ?_
      refine lv_iload_n hx hb dX4_share_31 rfl (lv_at hl 1 rfl) ?_
      refine lv_icmp_ge (tgt := 53) hx hb dX4_share_32 (by decide) (fun c12 => ?_) (fun c12 => ?_)
      · replace h := (if_pos c12).symm.trans h
        refine lv_iload hx hb dX4_share_53 (lv_at hl 2 rfl) ?_
        refine lv_i2f hx hb dX4_share_55 ?_
        refine lv_iload_n hx hb dX4_share_56 rfl (lv_at hl 1 rfl) ?_
        refine lv_i2f hx hb dX4_share_57 ?_
        have g := gckE h
        clear h
        obtain ⟨q13, h⟩ := g
        refine lv_fdiv hx hb dX4_share_58 (gn32_of q13) ?_
        exact nomatch (Option.some.inj h)
      · replace h := (if_neg c12).symm.trans h
        refine g_aload_n hx hb dX4_share_35 rfl (lv_at hl 0 rfl) ?_
        refine lv_iload hx hb dX4_share_36 (lv_at hl 3 rfl) ?_
        have g := gbind h
        clear h
        obtain ⟨a14, e15, h⟩ := g
        have t16 := (gtk_of e15).2
        rw [(gtk_of e15).1]
        have g := gbind h
        clear h
        obtain ⟨v18, e17, h⟩ := g
        refine g_callV (As := [.int x5]) (rest := []) hF hM (c_X1_keyOf e17) k_X1_keyOf u699 u226 u227 rfl rfl t16 rfl hl.1 rfl (Nat.le_of_ble_eq_true rfl) dX4_share_38 ⟨(Nat.le_of_ble_eq_true rfl), (Nat.le_of_ble_eq_true rfl)⟩ ⟨(Nat.le_of_ble_eq_true rfl), (Nat.le_of_ble_eq_true rfl)⟩ (fun H locs hM => ?_)
        refine lv_if_le (tgt := 47) hx hb dX4_share_41 (by decide) (fun c19 => ?_) (fun c19 => ?_)
        · replace h := (if_pos c19).symm.trans h
          refine W.widen (k := 0) (n := 0) (Nat.le_of_ble_eq_true rfl) (Nat.le_of_ble_eq_true rfl) ?_
          exact Jb47 _ ih _ _ _ _ h _ _ _ hM (lv_sub hl [0, 1, 2, 3] rfl)
        · replace h := (if_neg c19).symm.trans h
          refine lv_iinc (v := (x4 + 1)) (lv' := [(4, .int (x4 + 1)), (2, va_rf x2), (3, .int x3), (5, .int x5)]) hx hb dX4_share_44 hl (k := 2) rfl rfl (by decide) rfl (fun ls hl => ?_)
          refine W.widen (k := 0) (n := 0) (Nat.le_of_ble_eq_true rfl) (Nat.le_of_ble_eq_true rfl) ?_
          exact Jb47 _ ih _ _ _ _ h _ _ _ hM (lv_sub hl [1, 2, 0, 3] rfl)
  unfold f_X4_share at h
  refine g_aload_n hx hb dX4_share_0 rfl (lv_at hl 0 rfl) ?_
  refine lv_iload_n hx hb dX4_share_1 rfl (lv_at hl 1 rfl) ?_
  have g := gckE h
  clear h
  obtain ⟨t1, h⟩ := g
  have t1 := eq_of_beq t1
  have g := gthE h
  clear h
  rcases g with ⟨v3, e2, h⟩ | ⟨y4, e2, z5⟩
  · refine g_callV (As := [.int x1]) (rest := []) hF hM (c_X4_needRow e2) k_X4_needRow u807 u809 u20 rfl rfl t1 rfl hl.1 rfl (Nat.le_of_ble_eq_true rfl) dX4_share_2 ⟨(Nat.le_of_ble_eq_true rfl), (Nat.le_of_ble_eq_true rfl)⟩ ⟨(Nat.le_of_ble_eq_true rfl), (Nat.le_of_ble_eq_true rfl)⟩ (fun H locs hM => ?_)
    refine g_astore_n (i := 2) (lv' := [(0, va_rf (some a0)), (1, .int x1)]) hx hb dX4_share_5 rfl hl (by decide) (fun v => rfl) (fun ls hl => ?_)
    refine g_aload_n hx hb dX4_share_6 rfl (lv_at hl 0 rfl) ?_
    have g := gbind h
    clear h
    obtain ⟨a6, e7, h⟩ := g
    have t8 := (gtk_of e7).2
    rw [(gtk_of e7).1]
    have g := gbind h
    clear h
    obtain ⟨v10, e9, h⟩ := g
    refine g_callV (As := []) (rest := []) hF hM (c_X1_count e9) k_X1_count u195 u196 u197 rfl rfl t8 rfl hl.1 rfl (Nat.le_of_ble_eq_true rfl) dX4_share_7 ⟨(Nat.le_of_ble_eq_true rfl), (Nat.le_of_ble_eq_true rfl)⟩ ⟨(Nat.le_of_ble_eq_true rfl), (Nat.le_of_ble_eq_true rfl)⟩ (fun H locs hM => ?_)
    refine lv_istore_n (i := 3) (lv' := [(3, .int v10), (2, va_rf v3), (0, va_rf (some a0)), (1, .int x1)]) hx hb dX4_share_10 rfl hl (by decide) (by simp [rf_cat, ic_cat, lc_cat]) (fun ls hl => ?_)
    refine lv_iload_n hx hb dX4_share_11 rfl (lv_at hl 0 rfl) ?_
    refine lv_if_ne (tgt := 23) hx hb dX4_share_12 (by decide) (fun c11 => ?_) (fun c11 => ?_)
    · replace h := (if_neg c11).symm.trans h
      refine lv_iconst (v := 0) hx hb dX4_share_23 (by decide) ?_
      refine lv_istore (i := 4) (lv' := [(4, .int 0), (3, .int v10), (2, va_rf v3), (0, va_rf (some a0)), (1, .int x1)]) hx hb dX4_share_24 hl (by decide) rfl (fun ls hl => ?_)
      refine lv_iconst (v := 0) hx hb dX4_share_26 (by decide) ?_
      refine lv_istore (i := 5) (lv' := [(5, .int 0), (4, .int 0), (3, .int v10), (2, va_rf v3), (0, va_rf (some a0)), (1, .int x1)]) hx hb dX4_share_27 hl (by decide) rfl (fun ls hl => ?_)
      refine W.widen (k := 0) (n := 0) (Nat.le_of_ble_eq_true rfl) (Nat.le_of_ble_eq_true rfl) ?_
      exact JL29 gN _ _ _ _ h _ _ _ hM (lv_sub hl [3, 2, 1, 0] rfl)
    · replace h := (if_pos c11).symm.trans h
      exact g_throw hF hM hfl hout ew_X4_271_273 (congrArg Sum.inr (Sum.inr.inj (Option.some.inj h)).symm) hl.1 dX4_share_15 dX4_share_18 dX4_share_19 dX4_share_22 (Nat.le_of_ble_eq_true rfl) (Nat.le_of_ble_eq_true rfl) (Nat.le_of_ble_eq_true rfl) (Nat.le_of_ble_eq_true rfl) (Nat.le_of_ble_eq_true rfl) (Nat.le_of_ble_eq_true rfl)
  · exact g_callVt (As := [.int x1]) (rest := []) hF hM hout (cx_X4_needRow hfl e2) k_X4_needRow u807 u809 u20 rfl rfl t1 rfl hl.1 rfl (Nat.le_of_ble_eq_true rfl) dX4_share_2 ⟨(Nat.le_of_ble_eq_true rfl), (Nat.le_of_ble_eq_true rfl)⟩ ⟨(Nat.le_of_ble_eq_true rfl), (Nat.le_of_ble_eq_true rfl)⟩ (Nat.le_of_ble_eq_true rfl) (Nat.le_of_ble_eq_true rfl) (congrArg Sum.inr (Sum.inr.inj z5))
abbrev rm_X4_meanKey : Room := { frames := 3, cells := 0, slots := 0, locals := 62 }
theorem k_X4_meanKey : gKc yX4_meanKey cX4_meanKey 6 (some .double) 1 := ⟨u1052, u63, by decide +kernel, by decide +kernel, by decide +kernel⟩
set_option maxHeartbeats 4000000 in
set_option maxRecDepth 100000 in
theorem c_X4_meanKey {l : Launch} {D : va_G} {Y : Nat → ClassId} {S : GS} {hs : Nat} {a0 : Nat} {x1 : Int32} {r : UInt64} (h : f_X4_meanKey S a0 x1 = some (.inl r)) : gMet l yX4_meanKey (gWs yX4_meanKey cX4_meanKey 6 (some .double)) rm_X4_meanKey [va_rf (some a0), .int x1] D Y S hs (some (.double r)) S hs := by
  refine g_ofW (by decide +kernel) (Or.inl ⟨(Nat.le_of_ble_eq_true rfl), (List.forall_mem_cons.mpr ⟨rf_cat _, (List.forall_mem_cons.mpr ⟨rfl, (fun _ h => absurd h List.not_mem_nil)⟩)⟩)⟩) ?_
  intro p e s m args below meth c ls hsz hname hF hM hl
  have hl : lv_has ls 6 [(0, va_rf (some a0)), (1, .int x1)] := by rw [g_args [va_rf (some a0), .int x1] 0 (List.forall_mem_cons.mpr ⟨rf_cat _, (List.forall_mem_cons.mpr ⟨rfl, (fun _ h => absurd h List.not_mem_nil)⟩)⟩)] at hl; exact hl
  have hF : gF p s m args meth c RX4 cX4_meanKey 6 (some .double) D Y (gA S hs) := hF
  have hx := hF.1
  have hb := hF.2.1
  have JL29 : ∀ (n : Nat) (x2 : Option Nat) (x3 : Int32) (x4 : Int32) (x5 : Int32), f_X4_meanKey_L29 S a0 n x2 x3 x4 x5 = some (.inl r) → ∀ (H : Heap) (locs : List Loc) (ls : Array Slot), gM D Y (gA S hs) s.heap S hs H locs → lv_has ls 6 [(2, va_rf x2), (3, .int x3), (4, .int x4), (5, .int x5)] → W p l e rm_X4_meanKey s m args below meth c H locs 0 0 (MQ below (gQ (some (.double r)) D Y S hs (gA S hs)) args s rm_X4_meanKey.cells rm_X4_meanKey.slots (gA S hs)) (F0 m 29 ls []) := by
    intro n
    induction n with
    | zero => intro x2 x3 x4 x5 h; unfold f_X4_meanKey_L29 at h; exact nomatch h
    | succ n ih =>
      intro x2 x3 x4 x5 h H locs ls hM hl
      unfold f_X4_meanKey_L29 at h
      refine lv_iload hx hb dX4_meanKey_29 (lv_at hl 3 rfl) ?_
      refine lv_iload_n hx hb dX4_meanKey_31 rfl (lv_at hl 1 rfl) ?_
      refine lv_icmp_ge (tgt := 52) hx hb dX4_meanKey_32 (by decide) (fun c12 => ?_) (fun c12 => ?_)
      · replace h := (if_pos c12).symm.trans h
        refine lv_iload hx hb dX4_meanKey_52 (lv_at hl 2 rfl) ?_
        refine lv_i2d hx hb dX4_meanKey_54 ?_
        refine lv_iload_n hx hb dX4_meanKey_55 rfl (lv_at hl 1 rfl) ?_
        refine lv_i2d hx hb dX4_meanKey_56 ?_
        have g := gckE h
        clear h
        obtain ⟨q13, h⟩ := g
        refine lv_ddiv hx hb dX4_meanKey_57 (gn64_of q13) ?_
        rw [← (Sum.inl.inj (Option.some.inj h))]
        exact g_dret hF hM rfl dX4_meanKey_58 (Nat.le_of_ble_eq_true rfl) (Nat.le_of_ble_eq_true rfl)
      · replace h := (if_neg c12).symm.trans h
        refine lv_iload hx hb dX4_meanKey_35 (lv_at hl 2 rfl) ?_
        refine g_aload_n hx hb dX4_meanKey_37 rfl (lv_at hl 0 rfl) ?_
        refine lv_iload hx hb dX4_meanKey_38 (lv_at hl 3 rfl) ?_
        have g := gbind h
        clear h
        obtain ⟨a14, e15, h⟩ := g
        have t16 := (gtk_of e15).2
        rw [(gtk_of e15).1]
        have g := gbind h
        clear h
        obtain ⟨v18, e17, h⟩ := g
        refine g_callV (As := [.int x5]) (rest := [.int x4]) hF hM (c_X1_keyOf e17) k_X1_keyOf u699 u226 u227 rfl rfl t16 rfl hl.1 rfl (Nat.le_of_ble_eq_true rfl) dX4_meanKey_40 ⟨(Nat.le_of_ble_eq_true rfl), (Nat.le_of_ble_eq_true rfl)⟩ ⟨(Nat.le_of_ble_eq_true rfl), (Nat.le_of_ble_eq_true rfl)⟩ (fun H locs hM => ?_)
        refine lv_iadd hx hb dX4_meanKey_43 ?_
        refine lv_istore (i := 4) (lv' := [(4, .int (x4 + v18)), (2, va_rf x2), (3, .int x3), (5, .int x5)]) hx hb dX4_meanKey_44 hl (by decide) rfl (fun ls hl => ?_)
        refine lv_iinc (v := (x5 + 1)) (lv' := [(5, .int (x5 + 1)), (4, .int (x4 + v18)), (2, va_rf x2), (3, .int x3)]) hx hb dX4_meanKey_46 hl (k := 3) rfl rfl (by decide) rfl (fun ls hl => ?_)
        refine lv_goto (tgt := 29) hx hb dX4_meanKey_49 (by decide) ?_
        refine W.widen (k := 0) (n := 0) (Nat.le_of_ble_eq_true rfl) (Nat.le_of_ble_eq_true rfl) ?_
        exact ih _ _ _ _ h _ _ _ hM (lv_sub hl [2, 3, 1, 0] rfl)
  unfold f_X4_meanKey at h
  refine g_aload_n hx hb dX4_meanKey_0 rfl (lv_at hl 0 rfl) ?_
  refine lv_iload_n hx hb dX4_meanKey_1 rfl (lv_at hl 1 rfl) ?_
  have g := gckE h
  clear h
  obtain ⟨t1, h⟩ := g
  have t1 := eq_of_beq t1
  have g := gthE h
  clear h
  rcases g with ⟨v3, e2, h⟩ | ⟨y4, e2, z5⟩
  · refine g_callV (As := [.int x1]) (rest := []) hF hM (c_X4_needRow e2) k_X4_needRow u807 u809 u20 rfl rfl t1 rfl hl.1 rfl (Nat.le_of_ble_eq_true rfl) dX4_meanKey_2 ⟨(Nat.le_of_ble_eq_true rfl), (Nat.le_of_ble_eq_true rfl)⟩ ⟨(Nat.le_of_ble_eq_true rfl), (Nat.le_of_ble_eq_true rfl)⟩ (fun H locs hM => ?_)
    refine g_astore_n (i := 2) (lv' := [(0, va_rf (some a0)), (1, .int x1)]) hx hb dX4_meanKey_5 rfl hl (by decide) (fun v => rfl) (fun ls hl => ?_)
    refine g_aload_n hx hb dX4_meanKey_6 rfl (lv_at hl 0 rfl) ?_
    have g := gbind h
    clear h
    obtain ⟨a6, e7, h⟩ := g
    have t8 := (gtk_of e7).2
    rw [(gtk_of e7).1]
    have g := gbind h
    clear h
    obtain ⟨v10, e9, h⟩ := g
    refine g_callV (As := []) (rest := []) hF hM (c_X1_count e9) k_X1_count u195 u196 u197 rfl rfl t8 rfl hl.1 rfl (Nat.le_of_ble_eq_true rfl) dX4_meanKey_7 ⟨(Nat.le_of_ble_eq_true rfl), (Nat.le_of_ble_eq_true rfl)⟩ ⟨(Nat.le_of_ble_eq_true rfl), (Nat.le_of_ble_eq_true rfl)⟩ (fun H locs hM => ?_)
    refine lv_istore_n (i := 3) (lv' := [(3, .int v10), (2, va_rf v3), (0, va_rf (some a0)), (1, .int x1)]) hx hb dX4_meanKey_10 rfl hl (by decide) (by simp [rf_cat, ic_cat, lc_cat]) (fun ls hl => ?_)
    refine lv_iload_n hx hb dX4_meanKey_11 rfl (lv_at hl 0 rfl) ?_
    refine lv_if_ne (tgt := 23) hx hb dX4_meanKey_12 (by decide) (fun c11 => ?_) (fun c11 => ?_)
    · replace h := (if_neg c11).symm.trans h
      refine lv_iconst (v := 0) hx hb dX4_meanKey_23 (by decide) ?_
      refine lv_istore (i := 4) (lv' := [(4, .int 0), (3, .int v10), (2, va_rf v3), (0, va_rf (some a0)), (1, .int x1)]) hx hb dX4_meanKey_24 hl (by decide) rfl (fun ls hl => ?_)
      refine lv_iconst (v := 0) hx hb dX4_meanKey_26 (by decide) ?_
      refine lv_istore (i := 5) (lv' := [(5, .int 0), (4, .int 0), (3, .int v10), (2, va_rf v3), (0, va_rf (some a0)), (1, .int x1)]) hx hb dX4_meanKey_27 hl (by decide) rfl (fun ls hl => ?_)
      refine W.widen (k := 0) (n := 0) (Nat.le_of_ble_eq_true rfl) (Nat.le_of_ble_eq_true rfl) ?_
      exact JL29 gN _ _ _ _ h _ _ _ hM (lv_sub hl [3, 2, 1, 0] rfl)
    · replace h := (if_pos c11).symm.trans h
      exact nomatch (Option.some.inj h)
  · exact nomatch z5
abbrev rmx_X4_meanKey : Room := { frames := 8, cells := 1, slots := 6, locals := 132 }
set_option maxHeartbeats 4000000 in
set_option maxRecDepth 100000 in
theorem cx_X4_meanKey {l : Launch} {D : va_G} {Y : Nat → ClassId} {S : GS} {hs : Nat} {a0 : Nat} {x1 : Int32} {x : Nat} (hfl : l.stackTraces = false) (h : f_X4_meanKey S a0 x1 = some (.inr x)) : gMx l yX4_meanKey (gWs yX4_meanKey cX4_meanKey 6 (some .double)) rmx_X4_meanKey [va_rf (some a0), .int x1] D Y S hs (.inr x) := by
  refine g_ofWx (by decide +kernel) (Or.inl ⟨(Nat.le_of_ble_eq_true rfl), (List.forall_mem_cons.mpr ⟨rf_cat _, (List.forall_mem_cons.mpr ⟨rfl, (fun _ h => absurd h List.not_mem_nil)⟩)⟩)⟩) ?_
  intro p e s m args below meth c ls hsz hout hF hM hl
  have hl : lv_has ls 6 [(0, va_rf (some a0)), (1, .int x1)] := by rw [g_args [va_rf (some a0), .int x1] 0 (List.forall_mem_cons.mpr ⟨rf_cat _, (List.forall_mem_cons.mpr ⟨rfl, (fun _ h => absurd h List.not_mem_nil)⟩)⟩)] at hl; exact hl
  have hF : gF p s m args meth c RX4 cX4_meanKey 6 (some .double) D Y (gA S hs) := hF
  have hx := hF.1
  have hb := hF.2.1
  have JL29 : ∀ (n : Nat) (x2 : Option Nat) (x3 : Int32) (x4 : Int32) (x5 : Int32), f_X4_meanKey_L29 S a0 n x2 x3 x4 x5 = some (.inr x) → ∀ (H : Heap) (locs : List Loc) (ls : Array Slot), gM D Y (gA S hs) s.heap S hs H locs → lv_has ls 6 [(2, va_rf x2), (3, .int x3), (4, .int x4), (5, .int x5)] → W p l e rmx_X4_meanKey s m args below meth c H locs 0 0 (vx_MQ below (gQz (.inr x) D Y (gA S hs)) (gXz (.inr x) D Y S (gA S hs)) args s rmx_X4_meanKey.cells rmx_X4_meanKey.slots (gA S hs)) (F0 m 29 ls []) := by
    intro n
    induction n with
    | zero => intro x2 x3 x4 x5 h; unfold f_X4_meanKey_L29 at h; exact nomatch h
    | succ n ih =>
      intro x2 x3 x4 x5 h H locs ls hM hl
      unfold f_X4_meanKey_L29 at h
      refine lv_iload hx hb dX4_meanKey_29 (lv_at hl 3 rfl) ?_
      refine lv_iload_n hx hb dX4_meanKey_31 rfl (lv_at hl 1 rfl) ?_
      refine lv_icmp_ge (tgt := 52) hx hb dX4_meanKey_32 (by decide) (fun c12 => ?_) (fun c12 => ?_)
      · replace h := (if_pos c12).symm.trans h
        refine lv_iload hx hb dX4_meanKey_52 (lv_at hl 2 rfl) ?_
        refine lv_i2d hx hb dX4_meanKey_54 ?_
        refine lv_iload_n hx hb dX4_meanKey_55 rfl (lv_at hl 1 rfl) ?_
        refine lv_i2d hx hb dX4_meanKey_56 ?_
        have g := gckE h
        clear h
        obtain ⟨q13, h⟩ := g
        refine lv_ddiv hx hb dX4_meanKey_57 (gn64_of q13) ?_
        exact nomatch (Option.some.inj h)
      · replace h := (if_neg c12).symm.trans h
        refine lv_iload hx hb dX4_meanKey_35 (lv_at hl 2 rfl) ?_
        refine g_aload_n hx hb dX4_meanKey_37 rfl (lv_at hl 0 rfl) ?_
        refine lv_iload hx hb dX4_meanKey_38 (lv_at hl 3 rfl) ?_
        have g := gbind h
        clear h
        obtain ⟨a14, e15, h⟩ := g
        have t16 := (gtk_of e15).2
        rw [(gtk_of e15).1]
        have g := gbind h
        clear h
        obtain ⟨v18, e17, h⟩ := g
        refine g_callV (As := [.int x5]) (rest := [.int x4]) hF hM (c_X1_keyOf e17) k_X1_keyOf u699 u226 u227 rfl rfl t16 rfl hl.1 rfl (Nat.le_of_ble_eq_true rfl) dX4_meanKey_40 ⟨(Nat.le_of_ble_eq_true rfl), (Nat.le_of_ble_eq_true rfl)⟩ ⟨(Nat.le_of_ble_eq_true rfl), (Nat.le_of_ble_eq_true rfl)⟩ (fun H locs hM => ?_)
        refine lv_iadd hx hb dX4_meanKey_43 ?_
        refine lv_istore (i := 4) (lv' := [(4, .int (x4 + v18)), (2, va_rf x2), (3, .int x3), (5, .int x5)]) hx hb dX4_meanKey_44 hl (by decide) rfl (fun ls hl => ?_)
        refine lv_iinc (v := (x5 + 1)) (lv' := [(5, .int (x5 + 1)), (4, .int (x4 + v18)), (2, va_rf x2), (3, .int x3)]) hx hb dX4_meanKey_46 hl (k := 3) rfl rfl (by decide) rfl (fun ls hl => ?_)
        refine lv_goto (tgt := 29) hx hb dX4_meanKey_49 (by decide) ?_
        refine W.widen (k := 0) (n := 0) (Nat.le_of_ble_eq_true rfl) (Nat.le_of_ble_eq_true rfl) ?_
        exact ih _ _ _ _ h _ _ _ hM (lv_sub hl [2, 3, 1, 0] rfl)
  unfold f_X4_meanKey at h
  refine g_aload_n hx hb dX4_meanKey_0 rfl (lv_at hl 0 rfl) ?_
  refine lv_iload_n hx hb dX4_meanKey_1 rfl (lv_at hl 1 rfl) ?_
  have g := gckE h
  clear h
  obtain ⟨t1, h⟩ := g
  have t1 := eq_of_beq t1
  have g := gthE h
  clear h
  rcases g with ⟨v3, e2, h⟩ | ⟨y4, e2, z5⟩
  · refine g_callV (As := [.int x1]) (rest := []) hF hM (c_X4_needRow e2) k_X4_needRow u807 u809 u20 rfl rfl t1 rfl hl.1 rfl (Nat.le_of_ble_eq_true rfl) dX4_meanKey_2 ⟨(Nat.le_of_ble_eq_true rfl), (Nat.le_of_ble_eq_true rfl)⟩ ⟨(Nat.le_of_ble_eq_true rfl), (Nat.le_of_ble_eq_true rfl)⟩ (fun H locs hM => ?_)
    refine g_astore_n (i := 2) (lv' := [(0, va_rf (some a0)), (1, .int x1)]) hx hb dX4_meanKey_5 rfl hl (by decide) (fun v => rfl) (fun ls hl => ?_)
    refine g_aload_n hx hb dX4_meanKey_6 rfl (lv_at hl 0 rfl) ?_
    have g := gbind h
    clear h
    obtain ⟨a6, e7, h⟩ := g
    have t8 := (gtk_of e7).2
    rw [(gtk_of e7).1]
    have g := gbind h
    clear h
    obtain ⟨v10, e9, h⟩ := g
    refine g_callV (As := []) (rest := []) hF hM (c_X1_count e9) k_X1_count u195 u196 u197 rfl rfl t8 rfl hl.1 rfl (Nat.le_of_ble_eq_true rfl) dX4_meanKey_7 ⟨(Nat.le_of_ble_eq_true rfl), (Nat.le_of_ble_eq_true rfl)⟩ ⟨(Nat.le_of_ble_eq_true rfl), (Nat.le_of_ble_eq_true rfl)⟩ (fun H locs hM => ?_)
    refine lv_istore_n (i := 3) (lv' := [(3, .int v10), (2, va_rf v3), (0, va_rf (some a0)), (1, .int x1)]) hx hb dX4_meanKey_10 rfl hl (by decide) (by simp [rf_cat, ic_cat, lc_cat]) (fun ls hl => ?_)
    refine lv_iload_n hx hb dX4_meanKey_11 rfl (lv_at hl 0 rfl) ?_
    refine lv_if_ne (tgt := 23) hx hb dX4_meanKey_12 (by decide) (fun c11 => ?_) (fun c11 => ?_)
    · replace h := (if_neg c11).symm.trans h
      refine lv_iconst (v := 0) hx hb dX4_meanKey_23 (by decide) ?_
      refine lv_istore (i := 4) (lv' := [(4, .int 0), (3, .int v10), (2, va_rf v3), (0, va_rf (some a0)), (1, .int x1)]) hx hb dX4_meanKey_24 hl (by decide) rfl (fun ls hl => ?_)
      refine lv_iconst (v := 0) hx hb dX4_meanKey_26 (by decide) ?_
      refine lv_istore (i := 5) (lv' := [(5, .int 0), (4, .int 0), (3, .int v10), (2, va_rf v3), (0, va_rf (some a0)), (1, .int x1)]) hx hb dX4_meanKey_27 hl (by decide) rfl (fun ls hl => ?_)
      refine W.widen (k := 0) (n := 0) (Nat.le_of_ble_eq_true rfl) (Nat.le_of_ble_eq_true rfl) ?_
      exact JL29 gN _ _ _ _ h _ _ _ hM (lv_sub hl [3, 2, 1, 0] rfl)
    · replace h := (if_pos c11).symm.trans h
      exact g_throw hF hM hfl hout ew_X4_271_273 (congrArg Sum.inr (Sum.inr.inj (Option.some.inj h)).symm) hl.1 dX4_meanKey_15 dX4_meanKey_18 dX4_meanKey_19 dX4_meanKey_22 (Nat.le_of_ble_eq_true rfl) (Nat.le_of_ble_eq_true rfl) (Nat.le_of_ble_eq_true rfl) (Nat.le_of_ble_eq_true rfl) (Nat.le_of_ble_eq_true rfl) (Nat.le_of_ble_eq_true rfl)
  · exact g_callVt (As := [.int x1]) (rest := []) hF hM hout (cx_X4_needRow hfl e2) k_X4_needRow u807 u809 u20 rfl rfl t1 rfl hl.1 rfl (Nat.le_of_ble_eq_true rfl) dX4_meanKey_2 ⟨(Nat.le_of_ble_eq_true rfl), (Nat.le_of_ble_eq_true rfl)⟩ ⟨(Nat.le_of_ble_eq_true rfl), (Nat.le_of_ble_eq_true rfl)⟩ (Nat.le_of_ble_eq_true rfl) (Nat.le_of_ble_eq_true rfl) (congrArg Sum.inr (Sum.inr.inj z5))
abbrev rm_X4_checksum : Room := { frames := 4, cells := 0, slots := 0, locals := 89 }
theorem k_X4_checksum : gKc yX4_checksum cX4_checksum 5 (some .long) 0 := ⟨u191, u63, by decide +kernel, by decide +kernel, by decide +kernel⟩
set_option maxHeartbeats 4000000 in
set_option maxRecDepth 100000 in
theorem c_X4_checksum {l : Launch} {D : va_G} {Y : Nat → ClassId} {S : GS} {hs : Nat} {a0 : Nat} {r : Int64} (h : f_X4_checksum S a0 = some r) : gMet l yX4_checksum (gWs yX4_checksum cX4_checksum 5 (some .long)) rm_X4_checksum [va_rf (some a0)] D Y S hs (some (.long r)) S hs := by
  refine g_ofW (by decide +kernel) (Or.inl ⟨(Nat.le_of_ble_eq_true rfl), (List.forall_mem_cons.mpr ⟨rf_cat _, (fun _ h => absurd h List.not_mem_nil)⟩)⟩) ?_
  intro p e s m args below meth c ls hsz hname hF hM hl
  have hl : lv_has ls 5 [(0, va_rf (some a0))] := by rw [g_args [va_rf (some a0)] 0 (List.forall_mem_cons.mpr ⟨rf_cat _, (fun _ h => absurd h List.not_mem_nil)⟩)] at hl; exact hl
  have hF : gF p s m args meth c RX4 cX4_checksum 5 (some .long) D Y (gA S hs) := hF
  have hx := hF.1
  have hb := hF.2.1
  have Jb72 : ∀ (k6 : Int64 → Int32 → Option (Int64)) (hk6 : ∀ (x1 : Int64) (x3 : Int32), k6 x1 x3 = some r → ∀ (H : Heap) (locs : List Loc) (ls : Array Slot), gM D Y (gA S hs) s.heap S hs H locs → lv_has ls 5 [(0, va_rf (some a0)), (1, .long x1), (3, .int x3)] → W p l e rm_X4_checksum s m args below meth c H locs 0 0 (MQ below (gQ (some (.long r)) D Y S hs (gA S hs)) args s rm_X4_checksum.cells rm_X4_checksum.slots (gA S hs)) (F0 m 6 ls [])) (x1 : Int64) (x3 : Int32), f_X4_checksum_b72 k6 S a0 x1 x3 = some r → ∀ (H : Heap) (locs : List Loc) (ls : Array Slot), gM D Y (gA S hs) s.heap S hs H locs → lv_has ls 5 [(0, va_rf (some a0)), (1, .long x1), (3, .int x3)] → W p l e rm_X4_checksum s m args below meth c H locs 0 0 (MQ below (gQ (some (.long r)) D Y S hs (gA S hs)) args s rm_X4_checksum.cells rm_X4_checksum.slots (gA S hs)) (F0 m 72 ls []) := by
    intro k6 hk6 x1 x3 h H locs ls hM hl
    unfold f_X4_checksum_b72 at h
    refine lv_iinc (v := (x3 + 1)) (lv' := [(3, .int (x3 + 1)), (0, va_rf (some a0)), (1, .long x1)]) hx hb dX4_checksum_72 hl (k := 2) rfl rfl (by decide) rfl (fun ls hl => ?_)
    refine lv_goto (tgt := 6) hx hb dX4_checksum_75 (by decide) ?_
    refine W.widen (k := 0) (n := 0) (Nat.le_of_ble_eq_true rfl) (Nat.le_of_ble_eq_true rfl) ?_
    exact hk6 _ _ h _ _ _ hM (lv_sub hl [1, 2, 0] rfl)
  have JL6 : ∀ (n : Nat) (x1 : Int64) (x3 : Int32), f_X4_checksum_L6 S a0 n x1 x3 = some r → ∀ (H : Heap) (locs : List Loc) (ls : Array Slot), gM D Y (gA S hs) s.heap S hs H locs → lv_has ls 5 [(0, va_rf (some a0)), (1, .long x1), (3, .int x3)] → W p l e rm_X4_checksum s m args below meth c H locs 0 0 (MQ below (gQ (some (.long r)) D Y S hs (gA S hs)) args s rm_X4_checksum.cells rm_X4_checksum.slots (gA S hs)) (F0 m 6 ls []) := by
    intro n
    induction n with
    | zero => intro x1 x3 h; unfold f_X4_checksum_L6 at h; exact nomatch h
    | succ n ih =>
      intro x1 x3 h H locs ls hM hl
      unfold f_X4_checksum_L6 at h
      refine lv_iload_n hx hb dX4_checksum_6 rfl (lv_at hl 2 rfl) ?_
      refine lv_bipush (v := 12) hx hb dX4_checksum_7 (by decide) ?_
      refine lv_icmp_ge (tgt := 78) hx hb dX4_checksum_9 (by decide) (fun c1 => ?_) (fun c1 => ?_)
      · replace h := (if_pos c1).symm.trans h
        refine lv_lload_n hx hb dX4_checksum_78 rfl (lv_at hl 1 rfl) ?_
        rw [← (Option.some.inj h)]
        exact g_lret hF hM rfl dX4_checksum_79 (Nat.le_of_ble_eq_true rfl) (Nat.le_of_ble_eq_true rfl)
      · replace h := (if_neg c1).symm.trans h
        refine g_aload_n hx hb dX4_checksum_12 rfl (lv_at hl 0 rfl) ?_
        have g := gbind h
        clear h
        obtain ⟨v2, e3, h⟩ := g
        refine g_getR hF hM fdX4 e3 (by decide) rfl u175 dX4_checksum_13 ?_
        refine lv_iload_n hx hb dX4_checksum_16 rfl (lv_at hl 2 rfl) ?_
        have g := gbind h
        clear h
        obtain ⟨v4, e5, h⟩ := g
        refine g_aald hF hM (by decide) e5 dX4_checksum_17 ?_
        refine g_astore (i := 4) (lv' := [(0, va_rf (some a0)), (1, .long x1), (3, .int x3)]) hx hb dX4_checksum_18 hl (by decide) (fun v => rfl) (fun ls hl => ?_)
        refine g_aload hx hb dX4_checksum_20 (lv_at hl 0 rfl) ?_
        refine g_ifnonnull (tgt := 38) hx hb dX4_checksum_22 (by decide) (fun c6 => ?_) (fun c6 => ?_)
        · replace h := (if_neg c6).symm.trans h
          refine lv_ldc2 (v := 31) hx hb hF.2.2.2.1 (hF.2.2.2.2.1 _ u193) dX4_checksum_38 ?_
          refine lv_lload_n hx hb dX4_checksum_41 rfl (lv_at hl 2 rfl) ?_
          refine lv_lmul hx hb dX4_checksum_42 ?_
          refine g_aload hx hb dX4_checksum_43 (lv_at hl 0 rfl) ?_
          have g := gbind h
          clear h
          obtain ⟨v7, e8, h⟩ := g
          refine g_getI hF hM fdX1 e8 (by decide) rfl u131 dX4_checksum_45 ?_
          refine lv_i2l hx hb dX4_checksum_48 rfl ?_
          refine lv_ladd hx hb dX4_checksum_49 ?_
          refine lv_lstore_n (i := 1) (lv' := [(1, .long ((31 * x1) + (v7).toInt64)), (4, va_rf v4), (0, va_rf (some a0)), (3, .int x3)]) hx hb dX4_checksum_50 rfl hl (by decide) rfl (fun ls hl => ?_)
          refine lv_ldc2 (v := 31) hx hb hF.2.2.2.1 (hF.2.2.2.2.1 _ u193) dX4_checksum_51 ?_
          refine lv_lload_n hx hb dX4_checksum_54 rfl (lv_at hl 0 rfl) ?_
          refine lv_lmul hx hb dX4_checksum_55 ?_
          refine g_aload hx hb dX4_checksum_56 (lv_at hl 1 rfl) ?_
          have g := gbind h
          clear h
          obtain ⟨a9, e10, h⟩ := g
          have t11 := (gtk_of e10).2
          rw [(gtk_of e10).1]
          have g := gbind h
          clear h
          obtain ⟨v13, e12, h⟩ := g
          refine g_callV (As := []) (rest := [.long (31 * ((31 * x1) + (v7).toInt64))]) hF hM (c_X1_count e12) k_X1_count u195 u196 u197 rfl rfl t11 rfl hl.1 rfl (Nat.le_of_ble_eq_true rfl) dX4_checksum_58 ⟨(Nat.le_of_ble_eq_true rfl), (Nat.le_of_ble_eq_true rfl)⟩ ⟨(Nat.le_of_ble_eq_true rfl), (Nat.le_of_ble_eq_true rfl)⟩ (fun H locs hM => ?_)
          refine lv_i2l hx hb dX4_checksum_61 rfl ?_
          refine lv_ladd hx hb dX4_checksum_62 ?_
          refine lv_lstore_n (i := 1) (lv' := [(1, .long ((31 * ((31 * x1) + (v7).toInt64)) + (v13).toInt64)), (4, va_rf v4), (0, va_rf (some a0)), (3, .int x3)]) hx hb dX4_checksum_63 rfl hl (by decide) rfl (fun ls hl => ?_)
          refine g_aload hx hb dX4_checksum_64 (lv_at hl 1 rfl) ?_
          refine lv_lload_n hx hb dX4_checksum_66 rfl (lv_at hl 0 rfl) ?_
          refine lv_iconst (v := 0) hx hb dX4_checksum_67 (by decide) ?_
          have g := gbind h
          clear h
          obtain ⟨a14, e15, h⟩ := g
          have t16 := (gtk_of e15).2
          rw [(gtk_of e15).1]
          have g := gbind h
          clear h
          obtain ⟨v18, e17, h⟩ := g
          refine g_callV (As := [.long ((31 * ((31 * x1) + (v7).toInt64)) + (v13).toInt64), .int 0]) (rest := []) hF hM (c_X1_addAllTo e17) k_X1_addAllTo u199 u200 u201 rfl rfl t16 rfl hl.1 rfl (Nat.le_of_ble_eq_true rfl) dX4_checksum_68 ⟨(Nat.le_of_ble_eq_true rfl), (Nat.le_of_ble_eq_true rfl)⟩ ⟨(Nat.le_of_ble_eq_true rfl), (Nat.le_of_ble_eq_true rfl)⟩ (fun H locs hM => ?_)
          refine lv_lstore_n (i := 1) (lv' := [(1, .long v18), (4, va_rf v4), (0, va_rf (some a0)), (3, .int x3)]) hx hb dX4_checksum_71 rfl hl (by decide) rfl (fun ls hl => ?_)
          refine W.widen (k := 0) (n := 0) (Nat.le_of_ble_eq_true rfl) (Nat.le_of_ble_eq_true rfl) ?_
          exact Jb72 _ ih _ _ h _ _ _ hM (lv_sub hl [2, 0, 3] rfl)
        · replace h := (if_pos c6).symm.trans h
          refine lv_ldc2 (v := 31) hx hb hF.2.2.2.1 (hF.2.2.2.2.1 _ u193) dX4_checksum_25 ?_
          refine lv_lload_n hx hb dX4_checksum_28 rfl (lv_at hl 2 rfl) ?_
          refine lv_lmul hx hb dX4_checksum_29 ?_
          refine lv_ldc2 (v := 45) hx hb hF.2.2.2.1 (hF.2.2.2.2.1 _ u194) dX4_checksum_30 ?_
          refine lv_ladd hx hb dX4_checksum_33 ?_
          refine lv_lstore_n (i := 1) (lv' := [(1, .long ((31 * x1) + 45)), (4, va_rf v4), (0, va_rf (some a0)), (3, .int x3)]) hx hb dX4_checksum_34 rfl hl (by decide) rfl (fun ls hl => ?_)
          refine lv_goto (tgt := 72) hx hb dX4_checksum_35 (by decide) ?_
          refine W.widen (k := 0) (n := 0) (Nat.le_of_ble_eq_true rfl) (Nat.le_of_ble_eq_true rfl) ?_
          exact Jb72 _ ih _ _ h _ _ _ hM (lv_sub hl [2, 0, 3] rfl)
  unfold f_X4_checksum at h
  refine lv_ldc2 (v := 7) hx hb hF.2.2.2.1 (hF.2.2.2.2.1 _ u192) dX4_checksum_0 ?_
  refine lv_lstore_n (i := 1) (lv' := [(1, .long 7), (0, va_rf (some a0))]) hx hb dX4_checksum_3 rfl hl (by decide) rfl (fun ls hl => ?_)
  refine lv_iconst (v := 0) hx hb dX4_checksum_4 (by decide) ?_
  refine lv_istore_n (i := 3) (lv' := [(3, .int 0), (1, .long 7), (0, va_rf (some a0))]) hx hb dX4_checksum_5 rfl hl (by decide) rfl (fun ls hl => ?_)
  refine W.widen (k := 0) (n := 0) (Nat.le_of_ble_eq_true rfl) (Nat.le_of_ble_eq_true rfl) ?_
  exact JL6 gN _ _ h _ _ _ hM (lv_sub hl [2, 1, 0] rfl)
abbrev rm_X4_bottomOf : Room := { frames := 0, cells := 0, slots := 0, locals := 0 }
theorem k_X4_bottomOf : gKc yX4_bottomOf cX4_bottomOf 3 (some (.object "Viewhouse$Pane")) 1 := ⟨u365, u63, by decide +kernel, by decide +kernel, by decide +kernel⟩
set_option maxHeartbeats 4000000 in
set_option maxRecDepth 100000 in
theorem c_X4_bottomOf {l : Launch} {D : va_G} {Y : Nat → ClassId} {S : GS} {hs : Nat} {a0 : Nat} {x1 : Option Nat} {r : Option Nat} (h : f_X4_bottomOf S a0 x1 = some r) : gMet l yX4_bottomOf (gWs yX4_bottomOf cX4_bottomOf 3 (some (.object "Viewhouse$Pane"))) rm_X4_bottomOf [va_rf (some a0), va_rf x1] D Y S hs (some (va_rf r)) S hs := by
  refine g_ofW (by decide +kernel) (Or.inl ⟨(Nat.le_of_ble_eq_true rfl), (List.forall_mem_cons.mpr ⟨rf_cat _, (List.forall_mem_cons.mpr ⟨rf_cat _, (fun _ h => absurd h List.not_mem_nil)⟩)⟩)⟩) ?_
  intro p e s m args below meth c ls hsz hname hF hM hl
  have hl : lv_has ls 3 [(0, va_rf (some a0)), (1, va_rf x1)] := by rw [g_args [va_rf (some a0), va_rf x1] 0 (List.forall_mem_cons.mpr ⟨rf_cat _, (List.forall_mem_cons.mpr ⟨rf_cat _, (fun _ h => absurd h List.not_mem_nil)⟩)⟩)] at hl; exact hl
  have hF : gF p s m args meth c RX4 cX4_bottomOf 3 (some (.object "Viewhouse$Pane")) D Y (gA S hs) := hF
  have hx := hF.1
  have hb := hF.2.1
  have Jb39 : ∀ (k2 : Option Nat → Int32 → Option (Option Nat)) (hk2 : ∀ (x1 : Option Nat) (x2 : Int32), k2 x1 x2 = some r → ∀ (H : Heap) (locs : List Loc) (ls : Array Slot), gM D Y (gA S hs) s.heap S hs H locs → lv_has ls 3 [(0, va_rf (some a0)), (1, va_rf x1), (2, .int x2)] → W p l e rm_X4_bottomOf s m args below meth c H locs 0 0 (MQ below (gQ (some (va_rf r)) D Y S hs (gA S hs)) args s rm_X4_bottomOf.cells rm_X4_bottomOf.slots (gA S hs)) (F0 m 2 ls [])) (x1 : Option Nat) (x2 : Int32), f_X4_bottomOf_b39 k2 S a0 x1 x2 = some r → ∀ (H : Heap) (locs : List Loc) (ls : Array Slot), gM D Y (gA S hs) s.heap S hs H locs → lv_has ls 3 [(0, va_rf (some a0)), (1, va_rf x1), (2, .int x2)] → W p l e rm_X4_bottomOf s m args below meth c H locs 0 0 (MQ below (gQ (some (va_rf r)) D Y S hs (gA S hs)) args s rm_X4_bottomOf.cells rm_X4_bottomOf.slots (gA S hs)) (F0 m 39 ls []) := by
    intro k2 hk2 x1 x2 h H locs ls hM hl
    unfold f_X4_bottomOf_b39 at h
    refine lv_iinc (v := (x2 + 1)) (lv' := [(2, .int (x2 + 1)), (0, va_rf (some a0)), (1, va_rf x1)]) hx hb dX4_bottomOf_39 hl (k := 2) rfl rfl (by decide) (by simp [rf_cat, ic_cat, lc_cat]) (fun ls hl => ?_)
    refine lv_goto (tgt := 2) hx hb dX4_bottomOf_42 (by decide) ?_
    refine W.widen (k := 0) (n := 0) (Nat.le_of_ble_eq_true rfl) (Nat.le_of_ble_eq_true rfl) ?_
    exact hk2 _ _ h _ _ _ hM (lv_sub hl [1, 2, 0] rfl)
  have JL2 : ∀ (n : Nat) (x1 : Option Nat) (x2 : Int32), f_X4_bottomOf_L2 S a0 n x1 x2 = some r → ∀ (H : Heap) (locs : List Loc) (ls : Array Slot), gM D Y (gA S hs) s.heap S hs H locs → lv_has ls 3 [(0, va_rf (some a0)), (1, va_rf x1), (2, .int x2)] → W p l e rm_X4_bottomOf s m args below meth c H locs 0 0 (MQ below (gQ (some (va_rf r)) D Y S hs (gA S hs)) args s rm_X4_bottomOf.cells rm_X4_bottomOf.slots (gA S hs)) (F0 m 2 ls []) := by
    intro n
    induction n with
    | zero => intro x1 x2 h; unfold f_X4_bottomOf_L2 at h; exact nomatch h
    | succ n ih =>
      intro x1 x2 h H locs ls hM hl
      unfold f_X4_bottomOf_L2 at h
      refine lv_iload_n hx hb dX4_bottomOf_2 rfl (lv_at hl 2 rfl) ?_
      refine lv_iconst (v := 4) hx hb dX4_bottomOf_3 (by decide) ?_
      refine lv_icmp_ge (tgt := 45) hx hb dX4_bottomOf_4 (by decide) (fun c1 => ?_) (fun c1 => ?_)
      · replace h := (if_pos c1).symm.trans h
        refine g_null hx hb dX4_bottomOf_45 ?_
        rw [← (Option.some.inj h)]
        exact g_aret hF hM rfl (Or.inl ⟨_, rfl⟩) dX4_bottomOf_46 (Nat.le_of_ble_eq_true rfl) (Nat.le_of_ble_eq_true rfl)
      · replace h := (if_neg c1).symm.trans h
        refine g_aload_n hx hb dX4_bottomOf_7 rfl (lv_at hl 0 rfl) ?_
        have g := gbind h
        clear h
        obtain ⟨v2, e3, h⟩ := g
        refine g_getR hF hM fdX4 e3 (by decide) rfl u175 dX4_bottomOf_8 ?_
        refine lv_iload_n hx hb dX4_bottomOf_11 rfl (lv_at hl 2 rfl) ?_
        have g := gbind h
        clear h
        obtain ⟨v4, e5, h⟩ := g
        refine g_aald hF hM (by decide) e5 dX4_bottomOf_12 ?_
        refine g_ifnull (tgt := 39) hx hb dX4_bottomOf_13 (by decide) (fun c6 => ?_) (fun c6 => ?_)
        · replace h := (if_pos c6).symm.trans h
          refine W.widen (k := 0) (n := 0) (Nat.le_of_ble_eq_true rfl) (Nat.le_of_ble_eq_true rfl) ?_
          exact Jb39 _ ih _ _ h _ _ _ hM (lv_sub hl [0, 1, 2] rfl)
        · replace h := (if_neg c6).symm.trans h
          refine g_aload_n hx hb dX4_bottomOf_16 rfl (lv_at hl 0 rfl) ?_
          have g := gbind h
          clear h
          obtain ⟨v7, e8, h⟩ := g
          refine g_getR hF hM fdX4 e8 (by decide) rfl u175 dX4_bottomOf_17 ?_
          refine lv_iload_n hx hb dX4_bottomOf_20 rfl (lv_at hl 2 rfl) ?_
          have g := gbind h
          clear h
          obtain ⟨v9, e10, h⟩ := g
          refine g_aald hF hM (by decide) e10 dX4_bottomOf_21 ?_
          have g := gbind h
          clear h
          obtain ⟨v11, e12, h⟩ := g
          refine g_getR hF hM fdX1 e12 (by decide) rfl u135 dX4_bottomOf_22 ?_
          refine g_aload_n hx hb dX4_bottomOf_25 rfl (lv_at hl 1 rfl) ?_
          have g := gbind h
          clear h
          obtain ⟨v13, e14, h⟩ := g
          refine g_getR hF hM fdX1 e14 (by decide) rfl u135 dX4_bottomOf_26 ?_
          refine lv_acmp_ne (tgt := 39) hx hb dX4_bottomOf_29 (by decide) (fun c15 => ?_) (fun c15 => ?_)
          · replace h := (if_neg c15).symm.trans h
            refine W.widen (k := 0) (n := 0) (Nat.le_of_ble_eq_true rfl) (Nat.le_of_ble_eq_true rfl) ?_
            exact Jb39 _ ih _ _ h _ _ _ hM (lv_sub hl [0, 1, 2] rfl)
          · replace h := (if_pos c15).symm.trans h
            refine g_aload_n hx hb dX4_bottomOf_32 rfl (lv_at hl 0 rfl) ?_
            have g := gbind h
            clear h
            obtain ⟨v16, e17, h⟩ := g
            refine g_getR hF hM fdX4 e17 (by decide) rfl u175 dX4_bottomOf_33 ?_
            refine lv_iload_n hx hb dX4_bottomOf_36 rfl (lv_at hl 2 rfl) ?_
            have g := gbind h
            clear h
            obtain ⟨v18, e19, h⟩ := g
            refine g_aald hF hM (by decide) e19 dX4_bottomOf_37 ?_
            rw [← (Option.some.inj h)]
            exact g_aret hF hM rfl (Or.inl ⟨_, rfl⟩) dX4_bottomOf_38 (Nat.le_of_ble_eq_true rfl) (Nat.le_of_ble_eq_true rfl)
  unfold f_X4_bottomOf at h
  refine lv_iconst (v := 0) hx hb dX4_bottomOf_0 (by decide) ?_
  refine lv_istore_n (i := 2) (lv' := [(2, .int 0), (0, va_rf (some a0)), (1, va_rf x1)]) hx hb dX4_bottomOf_1 rfl hl (by decide) (by simp [rf_cat, ic_cat, lc_cat]) (fun ls hl => ?_)
  refine W.widen (k := 0) (n := 0) (Nat.le_of_ble_eq_true rfl) (Nat.le_of_ble_eq_true rfl) ?_
  exact JL2 gN _ _ h _ _ _ hM (lv_sub hl [1, 2, 0] rfl)
abbrev rm_X4_isSound : Room := { frames := 6, cells := 0, slots := 0, locals := 137 }
theorem k_X4_isSound : gKc yX4_isSound cX4_isSound 4 (some .boolean) 0 := ⟨u244, u63, by decide +kernel, by decide +kernel, by decide +kernel⟩
set_option maxHeartbeats 4000000 in
set_option maxRecDepth 100000 in
theorem c_X4_isSound {l : Launch} {D : va_G} {Y : Nat → ClassId} {S : GS} {hs : Nat} {a0 : Nat} {r : Int32} {S' : GS} (h : f_X4_isSound S a0 = some (r, S')) : gMet l yX4_isSound (gWs yX4_isSound cX4_isSound 4 (some .boolean)) rm_X4_isSound [va_rf (some a0)] D Y S hs (some (.int r)) S' hs := by
  refine g_ofW (by decide +kernel) (Or.inl ⟨(Nat.le_of_ble_eq_true rfl), (List.forall_mem_cons.mpr ⟨rf_cat _, (fun _ h => absurd h List.not_mem_nil)⟩)⟩) ?_
  intro p e s m args below meth c ls hsz hname hF hM hl
  have hl : lv_has ls 4 [(0, va_rf (some a0))] := by rw [g_args [va_rf (some a0)] 0 (List.forall_mem_cons.mpr ⟨rf_cat _, (fun _ h => absurd h List.not_mem_nil)⟩)] at hl; exact hl
  have hF : gF p s m args meth c RX4 cX4_isSound 4 (some .boolean) D Y (gA S hs) := hF
  have hx := hF.1
  have hb := hF.2.1
  have Jb83 : ∀ (k2 : GS → Int32 → Option (Int32 × GS)) (hk2 : ∀ (T2 : GS) (x1 : Int32), k2 T2 x1 = some (r, S') → ∀ (H : Heap) (locs : List Loc) (ls : Array Slot), gM D Y (gA S hs) s.heap T2 hs H locs → lv_has ls 4 [(0, va_rf (some a0)), (1, .int x1)] → W p l e rm_X4_isSound s m args below meth c H locs 0 0 (MQ below (gQ (some (.int r)) D Y S' hs (gA S hs)) args s rm_X4_isSound.cells rm_X4_isSound.slots (gA S hs)) (F0 m 2 ls [])) (k46 : GS → Int32 → Option Nat → Int32 → Option (Int32 × GS)) (hk46 : ∀ (T46 : GS) (x1 : Int32) (x2 : Option Nat) (x3 : Int32), k46 T46 x1 x2 x3 = some (r, S') → ∀ (H : Heap) (locs : List Loc) (ls : Array Slot), gM D Y (gA S hs) s.heap T46 hs H locs → lv_has ls 4 [(0, va_rf (some a0)), (1, .int x1), (2, va_rf x2), (3, .int x3)] → W p l e rm_X4_isSound s m args below meth c H locs 0 0 (MQ below (gQ (some (.int r)) D Y S' hs (gA S hs)) args s rm_X4_isSound.cells rm_X4_isSound.slots (gA S hs)) (F0 m 46 ls [])) (T83 : GS) (x1 : Int32) (x2 : Option Nat) (x3 : Int32), f_X4_isSound_b83 k2 k46 a0 T83 x1 x2 x3 = some (r, S') → ∀ (H : Heap) (locs : List Loc) (ls : Array Slot), gM D Y (gA S hs) s.heap T83 hs H locs → lv_has ls 4 [(0, va_rf (some a0)), (1, .int x1), (2, va_rf x2), (3, .int x3)] → W p l e rm_X4_isSound s m args below meth c H locs 0 0 (MQ below (gQ (some (.int r)) D Y S' hs (gA S hs)) args s rm_X4_isSound.cells rm_X4_isSound.slots (gA S hs)) (F0 m 83 ls []) := by
    intro k2 hk2 k46 hk46 T83 x1 x2 x3 h H locs ls hM hl
    unfold f_X4_isSound_b83 at h
    refine lv_iinc (v := (x3 + 1)) (lv' := [(3, .int (x3 + 1)), (0, va_rf (some a0)), (1, .int x1), (2, va_rf x2)]) hx hb dX4_isSound_83 hl (k := 3) rfl rfl (by decide) (by simp [rf_cat, ic_cat, lc_cat]) (fun ls hl => ?_)
    refine lv_goto (tgt := 46) hx hb dX4_isSound_86 (by decide) ?_
    refine W.widen (k := 0) (n := 0) (Nat.le_of_ble_eq_true rfl) (Nat.le_of_ble_eq_true rfl) ?_
    exact hk46 _ _ _ _ h _ _ _ hM (lv_sub hl [1, 2, 3, 0] rfl)
  have JL46 : ∀ (k2 : GS → Int32 → Option (Int32 × GS)) (hk2 : ∀ (T2 : GS) (x1 : Int32), k2 T2 x1 = some (r, S') → ∀ (H : Heap) (locs : List Loc) (ls : Array Slot), gM D Y (gA S hs) s.heap T2 hs H locs → lv_has ls 4 [(0, va_rf (some a0)), (1, .int x1)] → W p l e rm_X4_isSound s m args below meth c H locs 0 0 (MQ below (gQ (some (.int r)) D Y S' hs (gA S hs)) args s rm_X4_isSound.cells rm_X4_isSound.slots (gA S hs)) (F0 m 2 ls [])) (n : Nat) (T46 : GS) (x1 : Int32) (x2 : Option Nat) (x3 : Int32), f_X4_isSound_L46 k2 a0 n T46 x1 x2 x3 = some (r, S') → ∀ (H : Heap) (locs : List Loc) (ls : Array Slot), gM D Y (gA S hs) s.heap T46 hs H locs → lv_has ls 4 [(0, va_rf (some a0)), (1, .int x1), (2, va_rf x2), (3, .int x3)] → W p l e rm_X4_isSound s m args below meth c H locs 0 0 (MQ below (gQ (some (.int r)) D Y S' hs (gA S hs)) args s rm_X4_isSound.cells rm_X4_isSound.slots (gA S hs)) (F0 m 46 ls []) := by
    intro k2 hk2
    intro n
    induction n with
    | zero => intro T46 x1 x2 x3 h; unfold f_X4_isSound_L46 at h; exact nomatch h
    | succ n ih =>
      intro T46 x1 x2 x3 h H locs ls hM hl
      unfold f_X4_isSound_L46 at h
      refine lv_iload_n hx hb dX4_isSound_46 rfl (lv_at hl 3 rfl) ?_
      refine lv_iload_n hx hb dX4_isSound_47 rfl (lv_at hl 1 rfl) ?_
      refine lv_icmp_ge (tgt := 89) hx hb dX4_isSound_48 (by decide) (fun c7 => ?_) (fun c7 => ?_)
      · replace h := (if_pos c7).symm.trans h
        refine lv_iinc (v := (x1 + 1)) (lv' := [(1, .int (x1 + 1)), (0, va_rf (some a0)), (2, va_rf x2), (3, .int x3)]) hx hb dX4_isSound_89 hl (k := 1) rfl rfl (by decide) rfl (fun ls hl => ?_)
        refine lv_goto (tgt := 2) hx hb dX4_isSound_92 (by decide) ?_
        refine W.widen (k := 0) (n := 0) (Nat.le_of_ble_eq_true rfl) (Nat.le_of_ble_eq_true rfl) ?_
        exact hk2 _ _ h _ _ _ hM (lv_sub hl [1, 0] rfl)
      · replace h := (if_neg c7).symm.trans h
        refine g_aload_n hx hb dX4_isSound_51 rfl (lv_at hl 2 rfl) ?_
        refine g_ifnull (tgt := 83) hx hb dX4_isSound_52 (by decide) (fun c8 => ?_) (fun c8 => ?_)
        · replace h := (if_pos c8).symm.trans h
          refine W.widen (k := 0) (n := 0) (Nat.le_of_ble_eq_true rfl) (Nat.le_of_ble_eq_true rfl) ?_
          exact Jb83 _ hk2 _ ih _ _ _ _ h _ _ _ hM (lv_sub hl [0, 1, 2, 3] rfl)
        · replace h := (if_neg c8).symm.trans h
          refine g_aload_n hx hb dX4_isSound_55 rfl (lv_at hl 0 rfl) ?_
          have g := gbind h
          clear h
          obtain ⟨v9, e10, h⟩ := g
          refine g_getR hF hM fdX4 e10 (by decide) rfl u175 dX4_isSound_56 ?_
          refine lv_iload_n hx hb dX4_isSound_59 rfl (lv_at hl 3 rfl) ?_
          have g := gbind h
          clear h
          obtain ⟨v11, e12, h⟩ := g
          refine g_aald hF hM (by decide) e12 dX4_isSound_60 ?_
          refine g_ifnull (tgt := 83) hx hb dX4_isSound_61 (by decide) (fun c13 => ?_) (fun c13 => ?_)
          · replace h := (if_pos c13).symm.trans h
            refine W.widen (k := 0) (n := 0) (Nat.le_of_ble_eq_true rfl) (Nat.le_of_ble_eq_true rfl) ?_
            exact Jb83 _ hk2 _ ih _ _ _ _ h _ _ _ hM (lv_sub hl [0, 1, 2, 3] rfl)
          · replace h := (if_neg c13).symm.trans h
            refine g_aload_n hx hb dX4_isSound_64 rfl (lv_at hl 0 rfl) ?_
            have g := gbind h
            clear h
            obtain ⟨v14, e15, h⟩ := g
            refine g_getR hF hM fdX4 e15 (by decide) rfl u178 dX4_isSound_65 ?_
            refine g_aload_n hx hb dX4_isSound_68 rfl (lv_at hl 2 rfl) ?_
            refine g_aload_n hx hb dX4_isSound_69 rfl (lv_at hl 0 rfl) ?_
            have g := gbind h
            clear h
            obtain ⟨v16, e17, h⟩ := g
            refine g_getR hF hM fdX4 e17 (by decide) rfl u175 dX4_isSound_70 ?_
            refine lv_iload_n hx hb dX4_isSound_73 rfl (lv_at hl 3 rfl) ?_
            have g := gbind h
            clear h
            obtain ⟨v18, e19, h⟩ := g
            refine g_aald hF hM (by decide) e19 dX4_isSound_74 ?_
            have g := gbind h
            clear h
            obtain ⟨a20, e21, h⟩ := g
            have t22 := (gtk_of e21).2
            rw [(gtk_of e21).1]
            have g := gbind h
            clear h
            obtain ⟨v24, e23, h⟩ := g
            refine g_callV (As := [va_rf x2, va_rf v18]) (rest := []) hF hM (c_X0_isPairSound e23) k_X0_isPairSound u374 u375 u376 rfl rfl t22 rfl hl.1 rfl (Nat.le_of_ble_eq_true rfl) dX4_isSound_75 ⟨(Nat.le_of_ble_eq_true rfl), (Nat.le_of_ble_eq_true rfl)⟩ ⟨(Nat.le_of_ble_eq_true rfl), (Nat.le_of_ble_eq_true rfl)⟩ (fun H locs hM => ?_)
            refine lv_if_ne (tgt := 83) hx hb dX4_isSound_78 (by decide) (fun c25 => ?_) (fun c25 => ?_)
            · replace h := (if_neg c25).symm.trans h
              refine W.widen (k := 0) (n := 0) (Nat.le_of_ble_eq_true rfl) (Nat.le_of_ble_eq_true rfl) ?_
              exact Jb83 _ hk2 _ ih _ _ _ _ h _ _ _ hM (lv_sub hl [0, 1, 2, 3] rfl)
            · replace h := (if_pos c25).symm.trans h
              refine lv_iconst (v := 0) hx hb dX4_isSound_81 (by decide) ?_
              obtain ⟨q1, q2⟩ := Prod.mk.inj (Option.some.inj h)
              rw [← q1, ← q2]
              exact g_iret hF hM rfl rfl dX4_isSound_82 (Nat.le_of_ble_eq_true rfl) (Nat.le_of_ble_eq_true rfl)
  have Jb44 : ∀ (k2 : GS → Int32 → Option (Int32 × GS)) (hk2 : ∀ (T2 : GS) (x1 : Int32), k2 T2 x1 = some (r, S') → ∀ (H : Heap) (locs : List Loc) (ls : Array Slot), gM D Y (gA S hs) s.heap T2 hs H locs → lv_has ls 4 [(0, va_rf (some a0)), (1, .int x1)] → W p l e rm_X4_isSound s m args below meth c H locs 0 0 (MQ below (gQ (some (.int r)) D Y S' hs (gA S hs)) args s rm_X4_isSound.cells rm_X4_isSound.slots (gA S hs)) (F0 m 2 ls [])) (T44 : GS) (x1 : Int32) (x2 : Option Nat), f_X4_isSound_b44 k2 a0 T44 x1 x2 = some (r, S') → ∀ (H : Heap) (locs : List Loc) (ls : Array Slot), gM D Y (gA S hs) s.heap T44 hs H locs → lv_has ls 4 [(0, va_rf (some a0)), (1, .int x1), (2, va_rf x2)] → W p l e rm_X4_isSound s m args below meth c H locs 0 0 (MQ below (gQ (some (.int r)) D Y S' hs (gA S hs)) args s rm_X4_isSound.cells rm_X4_isSound.slots (gA S hs)) (F0 m 44 ls []) := by
    intro k2 hk2 T44 x1 x2 h H locs ls hM hl
    unfold f_X4_isSound_b44 at h
    refine lv_iconst (v := 0) hx hb dX4_isSound_44 (by decide) ?_
    refine lv_istore_n (i := 3) (lv' := [(3, .int 0), (0, va_rf (some a0)), (1, .int x1), (2, va_rf x2)]) hx hb dX4_isSound_45 rfl hl (by decide) (by simp [rf_cat, ic_cat, lc_cat]) (fun ls hl => ?_)
    refine W.widen (k := 0) (n := 0) (Nat.le_of_ble_eq_true rfl) (Nat.le_of_ble_eq_true rfl) ?_
    exact JL46 _ hk2 gN _ _ _ _ h _ _ _ hM (lv_sub hl [1, 2, 3, 0] rfl)
  have JL2 : ∀ (n : Nat) (T2 : GS) (x1 : Int32), f_X4_isSound_L2 a0 n T2 x1 = some (r, S') → ∀ (H : Heap) (locs : List Loc) (ls : Array Slot), gM D Y (gA S hs) s.heap T2 hs H locs → lv_has ls 4 [(0, va_rf (some a0)), (1, .int x1)] → W p l e rm_X4_isSound s m args below meth c H locs 0 0 (MQ below (gQ (some (.int r)) D Y S' hs (gA S hs)) args s rm_X4_isSound.cells rm_X4_isSound.slots (gA S hs)) (F0 m 2 ls []) := by
    intro n
    induction n with
    | zero => intro T2 x1 h; unfold f_X4_isSound_L2 at h; exact nomatch h
    | succ n ih =>
      intro T2 x1 h H locs ls hM hl
      unfold f_X4_isSound_L2 at h
      refine lv_iload_n hx hb dX4_isSound_2 rfl (lv_at hl 1 rfl) ?_
      refine lv_bipush (v := 12) hx hb dX4_isSound_3 (by decide) ?_
      refine lv_icmp_ge (tgt := 95) hx hb dX4_isSound_5 (by decide) (fun c1 => ?_) (fun c1 => ?_)
      · replace h := (if_pos c1).symm.trans h
        refine lv_iconst (v := 1) hx hb dX4_isSound_95 (by decide) ?_
        obtain ⟨q1, q2⟩ := Prod.mk.inj (Option.some.inj h)
        rw [← q1, ← q2]
        exact g_iret hF hM rfl rfl dX4_isSound_96 (Nat.le_of_ble_eq_true rfl) (Nat.le_of_ble_eq_true rfl)
      · replace h := (if_neg c1).symm.trans h
        refine g_aload_n hx hb dX4_isSound_8 rfl (lv_at hl 0 rfl) ?_
        have g := gbind h
        clear h
        obtain ⟨v2, e3, h⟩ := g
        refine g_getR hF hM fdX4 e3 (by decide) rfl u175 dX4_isSound_9 ?_
        refine lv_iload_n hx hb dX4_isSound_12 rfl (lv_at hl 1 rfl) ?_
        have g := gbind h
        clear h
        obtain ⟨v4, e5, h⟩ := g
        refine g_aald hF hM (by decide) e5 dX4_isSound_13 ?_
        refine g_astore_n (i := 2) (lv' := [(0, va_rf (some a0)), (1, .int x1)]) hx hb dX4_isSound_14 rfl hl (by decide) (fun v => rfl) (fun ls hl => ?_)
        refine g_aload_n hx hb dX4_isSound_15 rfl (lv_at hl 0 rfl) ?_
        refine g_ifnull (tgt := 44) hx hb dX4_isSound_16 (by decide) (fun c6 => ?_) (fun c6 => ?_)
        · replace h := (if_pos c6).symm.trans h
          refine W.widen (k := 0) (n := 0) (Nat.le_of_ble_eq_true rfl) (Nat.le_of_ble_eq_true rfl) ?_
          exact Jb44 _ ih _ _ _ h _ _ _ hM (lv_sub hl [1, 2, 0] rfl)
        · replace h := (if_neg c6).symm.trans h
          refine g_aload_n hx hb dX4_isSound_19 rfl (lv_at hl 1 rfl) ?_
          have g := gbind h
          clear h
          obtain ⟨v26, e27, h⟩ := g
          refine g_getR hF hM fdX4 e27 (by decide) rfl u178 dX4_isSound_20 ?_
          refine g_aload_n hx hb dX4_isSound_23 rfl (lv_at hl 0 rfl) ?_
          have g := gbind h
          clear h
          obtain ⟨a28, e29, h⟩ := g
          have t30 := (gtk_of e29).2
          rw [(gtk_of e29).1]
          have g := gb2E h
          clear h
          obtain ⟨v32, S33, e31, h⟩ := g
          refine g_callV (As := [va_rf v4]) (rest := []) hF hM (c_X0_isPaneSound e31) k_X0_isPaneSound u245 u246 u247 rfl rfl t30 rfl hl.1 rfl (Nat.le_of_ble_eq_true rfl) dX4_isSound_24 ⟨(Nat.le_of_ble_eq_true rfl), (Nat.le_of_ble_eq_true rfl)⟩ ⟨(Nat.le_of_ble_eq_true rfl), (Nat.le_of_ble_eq_true rfl)⟩ (fun H locs hM => ?_)
          refine lv_if_eq (tgt := 42) hx hb dX4_isSound_27 (by decide) (fun c34 => ?_) (fun c34 => ?_)
          · replace h := (if_pos c34).symm.trans h
            refine lv_iconst (v := 0) hx hb dX4_isSound_42 (by decide) ?_
            obtain ⟨q1, q2⟩ := Prod.mk.inj (Option.some.inj h)
            rw [← q1, ← q2]
            exact g_iret hF hM rfl rfl dX4_isSound_43 (Nat.le_of_ble_eq_true rfl) (Nat.le_of_ble_eq_true rfl)
          · replace h := (if_neg c34).symm.trans h
            refine g_aload_n hx hb dX4_isSound_30 rfl (lv_at hl 0 rfl) ?_
            refine g_aload_n hx hb dX4_isSound_31 rfl (lv_at hl 1 rfl) ?_
            refine g_aload_n hx hb dX4_isSound_32 rfl (lv_at hl 0 rfl) ?_
            have g := gckE h
            clear h
            obtain ⟨t35, h⟩ := g
            have t35 := eq_of_beq t35
            have g := gbind h
            clear h
            obtain ⟨v37, e36, h⟩ := g
            refine g_callV (As := [va_rf v4]) (rest := [va_rf v4]) hF hM (c_X4_bottomOf e36) k_X4_bottomOf u362 u364 u9 rfl rfl t35 rfl hl.1 rfl (by simp [rf_cat, ic_cat, lc_cat]) dX4_isSound_33 ⟨(Nat.le_of_ble_eq_true rfl), (Nat.le_of_ble_eq_true rfl)⟩ ⟨(Nat.le_of_ble_eq_true rfl), (Nat.le_of_ble_eq_true rfl)⟩ (fun H locs hM => ?_)
            have g := gbind h
            clear h
            obtain ⟨a38, e39, h⟩ := g
            have t40 := (gtk_of e39).2
            rw [(gtk_of e39).1]
            have g := gbind h
            clear h
            obtain ⟨v42, e41, h⟩ := g
            refine g_callV (As := [va_rf v37]) (rest := []) hF hM (c_X1_looksOn e41) k_X1_looksOn u366 u367 u368 rfl rfl t40 rfl hl.1 rfl (Nat.le_of_ble_eq_true rfl) dX4_isSound_36 ⟨(Nat.le_of_ble_eq_true rfl), (Nat.le_of_ble_eq_true rfl)⟩ ⟨(Nat.le_of_ble_eq_true rfl), (Nat.le_of_ble_eq_true rfl)⟩ (fun H locs hM => ?_)
            refine lv_if_ne (tgt := 44) hx hb dX4_isSound_39 (by decide) (fun c43 => ?_) (fun c43 => ?_)
            · replace h := (if_neg c43).symm.trans h
              refine W.widen (k := 0) (n := 0) (Nat.le_of_ble_eq_true rfl) (Nat.le_of_ble_eq_true rfl) ?_
              exact Jb44 _ ih _ _ _ h _ _ _ hM (lv_sub hl [1, 2, 0] rfl)
            · replace h := (if_pos c43).symm.trans h
              refine lv_iconst (v := 0) hx hb dX4_isSound_42 (by decide) ?_
              obtain ⟨q1, q2⟩ := Prod.mk.inj (Option.some.inj h)
              rw [← q1, ← q2]
              exact g_iret hF hM rfl rfl dX4_isSound_43 (Nat.le_of_ble_eq_true rfl) (Nat.le_of_ble_eq_true rfl)
  unfold f_X4_isSound at h
  refine lv_iconst (v := 0) hx hb dX4_isSound_0 (by decide) ?_
  refine lv_istore_n (i := 1) (lv' := [(1, .int 0), (0, va_rf (some a0))]) hx hb dX4_isSound_1 rfl hl (by decide) rfl (fun ls hl => ?_)
  refine W.widen (k := 0) (n := 0) (Nat.le_of_ble_eq_true rfl) (Nat.le_of_ble_eq_true rfl) ?_
  exact JL2 gN _ _ h _ _ _ hM (lv_sub hl [1, 0] rfl)
