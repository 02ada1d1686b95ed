abbrev rm_X0_init : Room := { frames := 2, cells := 5, slots := 85, locals := 44 }
theorem k_X0_init : gKc yX0_init cX0_init 1 none 0 := ⟨u161, u66, by decide +kernel, by decide +kernel, by decide +kernel⟩
set_option maxHeartbeats 4000000 in
set_option maxRecDepth 100000 in
theorem c_X0_init {l : Launch} {D : va_G} {Y : Nat → ClassId} {S : GS} {hs : Nat} {a0 : Nat} {S' : GS} {hs' : Nat} (h : f_X0_init S hs a0 = some (S', hs')) : gMet l yX0_init (gWs yX0_init cX0_init 1 none) rm_X0_init [va_rf (some a0)] D Y S hs none S' hs' := by
  refine g_ofW (by decide +kernel) (Or.inl ⟨(Nat.le_of_ble_eq_true rfl), (List.forall_mem_cons.mpr ⟨rf_cat _, (fun _ h => absurd h List.not_mem_nil)⟩)⟩) ?_
  intro p e s m args below meth c ls hsz hname hF hM hl
  have hl : lv_has ls 1 [(0, va_rf (some a0))] := by rw [g_args [va_rf (some a0)] 0 (List.forall_mem_cons.mpr ⟨rf_cat _, (fun _ h => absurd h List.not_mem_nil)⟩)] at hl; exact hl
  have hF : gF p s m args meth c RX0 cX0_init 1 none D Y (gA S hs) := hF
  have hx := hF.1
  have hb := hF.2.1
  unfold f_X0_init at h
  refine g_aload_n hx hb dX0_init_0 rfl (lv_at hl 0 rfl) ?_
  refine g_objInit hF u162 u91 u92 hl.1 dX0_init_1 ⟨(Nat.le_of_ble_eq_true rfl), (Nat.le_of_ble_eq_true rfl)⟩ (Nat.le_of_ble_eq_true rfl) ?_
  refine g_aload_n hx hb dX0_init_4 rfl (lv_at hl 0 rfl) ?_
  have g := gbind h
  clear h
  obtain ⟨S1, e2, h⟩ := g
  refine g_new hF hM fdX3 u163 u97 u65 (Nat.le_of_ble_eq_true rfl) (Nat.le_of_ble_eq_true rfl) dX0_init_5 (fun H hM => ?_)
  have hM := hM.eq (Option.some.inj e2)
  refine lv_dup hx hb dX0_init_8 (rf_cat _) ?_
  refine lv_iconst (v := 0) hx hb dX0_init_9 (by decide) ?_
  have g := gb2E h
  clear h
  obtain ⟨S4, n5, e3, h⟩ := g
  refine g_callI (As := [.int 0]) (rest := [va_rf (some hs), va_rf (some a0)]) hF hM (c_X3_init e3) k_X3_init u164 u99 rfl rfl hl.1 rfl (Nat.le_of_ble_eq_true rfl) dX0_init_10 ⟨(Nat.le_of_ble_eq_true rfl), (Nat.le_of_ble_eq_true rfl)⟩ ⟨(Nat.le_of_ble_eq_true rfl), (Nat.le_of_ble_eq_true rfl)⟩ (fun H locs hM => ?_)
  have g := gbind h
  clear h
  obtain ⟨S6, e7, h⟩ := g
  refine g_putR hF hM fdX0 e7 (by decide) rfl (Or.inr ⟨rfl, hname, rfl⟩) u167 dX0_init_13 (fun H locs hM => ?_)
  refine g_aload_n hx hb dX0_init_16 rfl (lv_at hl 0 rfl) ?_
  have g := gbind h
  clear h
  obtain ⟨S8, e9, h⟩ := g
  refine g_new hF hM fdX1 u165 u95 u64 (Nat.le_of_ble_eq_true rfl) (Nat.le_of_ble_eq_true rfl) dX0_init_17 (fun H hM => ?_)
  have hM := hM.eq (Option.some.inj e9)
  refine lv_dup hx hb dX0_init_20 (rf_cat _) ?_
  refine lv_bipush (v := 108) hx hb dX0_init_21 (by decide) ?_
  refine lv_iconst (v := 1) hx hb dX0_init_23 (by decide) ?_
  refine g_aload_n hx hb dX0_init_24 rfl (lv_at hl 0 rfl) ?_
  have g := gbind h
  clear h
  obtain ⟨v10, e11, h⟩ := g
  refine g_getR hF hM fdX0 e11 (by decide) rfl u167 dX0_init_25 ?_
  refine g_null hx hb dX0_init_28 ?_
  have g := gbind h
  clear h
  obtain ⟨S13, e12, h⟩ := g
  refine g_callI (As := [.int 108, .int 1, va_rf v10, va_rf none]) (rest := [va_rf (some n5), va_rf (some a0)]) hF hM (c_X1_init e12) k_X1_init u166 u127 rfl rfl hl.1 rfl (Nat.le_of_ble_eq_true rfl) dX0_init_29 ⟨(Nat.le_of_ble_eq_true rfl), (Nat.le_of_ble_eq_true rfl)⟩ ⟨(Nat.le_of_ble_eq_true rfl), (Nat.le_of_ble_eq_true rfl)⟩ (fun H locs hM => ?_)
  have g := gbind h
  clear h
  obtain ⟨S14, e15, h⟩ := g
  refine g_putR hF hM fdX0 e15 (by decide) rfl (Or.inr ⟨rfl, hname, rfl⟩) u168 dX0_init_32 (fun H locs hM => ?_)
  obtain ⟨q1, q2⟩ := Prod.mk.inj (Option.some.inj h)
  rw [← q1, ← q2]
  exact g_vret hF hM rfl dX0_init_35 (Nat.le_of_ble_eq_true rfl) (Nat.le_of_ble_eq_true rfl)
abbrev rm_X0_areNumbersSound : Room := { frames := 3, cells := 0, slots := 0, locals := 64 }
theorem k_X0_areNumbersSound : gKc yX0_areNumbersSound cX0_areNumbersSound 3 (some .boolean) 1 := ⟨u256, u66, by decide +kernel, by decide +kernel, by decide +kernel⟩
set_option maxHeartbeats 4000000 in
set_option maxRecDepth 100000 in
theorem c_X0_areNumbersSound {l : Launch} {D : va_G} {Y : Nat → ClassId} {S : GS} {hs : Nat} {a0 : Nat} {x1 : Option Nat} {r : Int32} (h : f_X0_areNumbersSound S a0 x1 = some r) : gMet l yX0_areNumbersSound (gWs yX0_areNumbersSound cX0_areNumbersSound 3 (some .boolean)) rm_X0_areNumbersSound [va_rf (some a0), va_rf x1] D Y S hs (some (.int r)) S hs := by
  refine g_ofW (by decide +kernel) (Or.inl ⟨(Nat.le_of_ble_eq_true rfl), (List.forall_mem_cons.mpr ⟨rf_cat _, (List.forall_mem_cons.mpr ⟨rf_cat _, (fun _ h => absurd h List.not_mem_nil)⟩)⟩)⟩) ?_
  intro p e s m args below meth c ls hsz hname hF hM hl
  have hl : lv_has ls 3 [(0, va_rf (some a0)), (1, va_rf x1)] := by rw [g_args [va_rf (some a0), va_rf x1] 0 (List.forall_mem_cons.mpr ⟨rf_cat _, (List.forall_mem_cons.mpr ⟨rf_cat _, (fun _ h => absurd h List.not_mem_nil)⟩)⟩)] at hl; exact hl
  have hF : gF p s m args meth c RX0 cX0_areNumbersSound 3 (some .boolean) D Y (gA S hs) := hF
  have hx := hF.1
  have hb := hF.2.1
  have Jb63 : ∀ (k2 : Option Nat → Int32 → Option (Int32)) (hk2 : ∀ (x1 : Option Nat) (x2 : Int32), k2 x1 x2 = some r → ∀ (H : Heap) (locs : List Loc) (ls : Array Slot), gM D Y (gA S hs) s.heap S hs H locs → lv_has ls 3 [(1, va_rf x1), (2, .int x2)] → W p l e rm_X0_areNumbersSound s m args below meth c H locs 0 0 (MQ below (gQ (some (.int r)) D Y S hs (gA S hs)) args s rm_X0_areNumbersSound.cells rm_X0_areNumbersSound.slots (gA S hs)) (F0 m 2 ls [])) (x1 : Option Nat) (x2 : Int32), f_X0_areNumbersSound_b63 k2 S a0 x1 x2 = some r → ∀ (H : Heap) (locs : List Loc) (ls : Array Slot), gM D Y (gA S hs) s.heap S hs H locs → lv_has ls 3 [(1, va_rf x1), (2, .int x2)] → W p l e rm_X0_areNumbersSound s m args below meth c H locs 0 0 (MQ below (gQ (some (.int r)) D Y S hs (gA S hs)) args s rm_X0_areNumbersSound.cells rm_X0_areNumbersSound.slots (gA S hs)) (F0 m 63 ls []) := by
    intro k2 hk2 x1 x2 h H locs ls hM hl
    unfold f_X0_areNumbersSound_b63 at h
    refine lv_iinc (v := (x2 + 1)) (lv' := [(2, .int (x2 + 1)), (1, va_rf x1)]) hx hb dX0_areNumbersSound_63 hl (k := 1) rfl rfl (by decide) (by simp [rf_cat, ic_cat, lc_cat]) (fun ls hl => ?_)
    refine lv_goto (tgt := 2) hx hb dX0_areNumbersSound_66 (by decide) ?_
    refine W.widen (k := 0) (n := 0) (Nat.le_of_ble_eq_true rfl) (Nat.le_of_ble_eq_true rfl) ?_
    exact hk2 _ _ h _ _ _ hM (lv_sub hl [1, 0] rfl)
  have JL2 : ∀ (n : Nat) (x1 : Option Nat) (x2 : Int32), f_X0_areNumbersSound_L2 S a0 n x1 x2 = some r → ∀ (H : Heap) (locs : List Loc) (ls : Array Slot), gM D Y (gA S hs) s.heap S hs H locs → lv_has ls 3 [(1, va_rf x1), (2, .int x2)] → W p l e rm_X0_areNumbersSound s m args below meth c H locs 0 0 (MQ below (gQ (some (.int r)) D Y S hs (gA S hs)) args s rm_X0_areNumbersSound.cells rm_X0_areNumbersSound.slots (gA S hs)) (F0 m 2 ls []) := by
    intro n
    induction n with
    | zero => intro x1 x2 h; unfold f_X0_areNumbersSound_L2 at h; exact nomatch h
    | succ n ih =>
      intro x1 x2 h H locs ls hM hl
      unfold f_X0_areNumbersSound_L2 at h
      refine lv_iload_n hx hb dX0_areNumbersSound_2 rfl (lv_at hl 1 rfl) ?_
      refine g_aload_n hx hb dX0_areNumbersSound_3 rfl (lv_at hl 0 rfl) ?_
      have g := gbind h
      clear h
      obtain ⟨a1, e2, h⟩ := g
      have t3 := (gtk_of e2).2
      rw [(gtk_of e2).1]
      have g := gbind h
      clear h
      obtain ⟨v5, e4, h⟩ := g
      refine g_callV (As := []) (rest := [.int x2]) hF hM (c_X1_count e4) k_X1_count u257 u196 u197 rfl rfl t3 rfl hl.1 rfl (Nat.le_of_ble_eq_true rfl) dX0_areNumbersSound_4 ⟨(Nat.le_of_ble_eq_true rfl), (Nat.le_of_ble_eq_true rfl)⟩ ⟨(Nat.le_of_ble_eq_true rfl), (Nat.le_of_ble_eq_true rfl)⟩ (fun H locs hM => ?_)
      refine lv_icmp_ge (tgt := 69) hx hb dX0_areNumbersSound_7 (by decide) (fun c6 => ?_) (fun c6 => ?_)
      · replace h := (if_pos c6).symm.trans h
        refine lv_iconst (v := 1) hx hb dX0_areNumbersSound_69 (by decide) ?_
        rw [← (Option.some.inj h)]
        exact g_iret hF hM rfl rfl dX0_areNumbersSound_70 (Nat.le_of_ble_eq_true rfl) (Nat.le_of_ble_eq_true rfl)
      · replace h := (if_neg c6).symm.trans h
        refine g_aload_n hx hb dX0_areNumbersSound_10 rfl (lv_at hl 0 rfl) ?_
        refine g_aload_n hx hb dX0_areNumbersSound_11 rfl (lv_at hl 0 rfl) ?_
        refine lv_iload_n hx hb dX0_areNumbersSound_12 rfl (lv_at hl 1 rfl) ?_
        have g := gbind h
        clear h
        obtain ⟨a7, e8, h⟩ := g
        have t9 := (gtk_of e8).2
        rw [(gtk_of e8).1]
        have g := gbind h
        clear h
        obtain ⟨v11, e10, h⟩ := g
        refine g_callV (As := [.int x2]) (rest := [va_rf (some a7)]) hF hM (c_X1_numberOf e10) k_X1_numberOf u258 u210 u211 rfl rfl t9 rfl hl.1 rfl (Nat.le_of_ble_eq_true rfl) dX0_areNumbersSound_13 ⟨(Nat.le_of_ble_eq_true rfl), (Nat.le_of_ble_eq_true rfl)⟩ ⟨(Nat.le_of_ble_eq_true rfl), (Nat.le_of_ble_eq_true rfl)⟩ (fun H locs hM => ?_)
        have g := gckE h
        clear h
        obtain ⟨t12, h⟩ := g
        have t12 := eq_of_beq t12
        have g := gbind h
        clear h
        obtain ⟨v14, e13, h⟩ := g
        refine g_callV (As := [.int v11]) (rest := []) hF hM (c_X1_findNumber e13) k_X1_findNumber u259 u260 u261 rfl rfl t12 rfl hl.1 rfl (Nat.le_of_ble_eq_true rfl) dX0_areNumbersSound_16 ⟨(Nat.le_of_ble_eq_true rfl), (Nat.le_of_ble_eq_true rfl)⟩ ⟨(Nat.le_of_ble_eq_true rfl), (Nat.le_of_ble_eq_true rfl)⟩ (fun H locs hM => ?_)
        refine lv_iload_n hx hb dX0_areNumbersSound_19 rfl (lv_at hl 1 rfl) ?_
        refine lv_icmp_eq (tgt := 25) hx hb dX0_areNumbersSound_20 (by decide) (fun c15 => ?_) (fun c15 => ?_)
        · replace h := (if_pos c15).symm.trans h
          refine lv_iload_n hx hb dX0_areNumbersSound_25 rfl (lv_at hl 1 rfl) ?_
          refine lv_if_le (tgt := 63) hx hb dX0_areNumbersSound_26 (by decide) (fun c16 => ?_) (fun c16 => ?_)
          · replace h := (if_pos c16).symm.trans h
            refine W.widen (k := 0) (n := 0) (Nat.le_of_ble_eq_true rfl) (Nat.le_of_ble_eq_true rfl) ?_
            exact Jb63 _ ih _ _ h _ _ _ hM (lv_sub hl [0, 1] rfl)
          · replace h := (if_neg c16).symm.trans h
            refine g_aload_n hx hb dX0_areNumbersSound_29 rfl (lv_at hl 0 rfl) ?_
            have g := gbind h
            clear h
            obtain ⟨v17, e18, h⟩ := g
            refine g_getR hF hM fdX1 e18 (by decide) rfl u136 dX0_areNumbersSound_30 ?_
            refine g_ifnull (tgt := 63) hx hb dX0_areNumbersSound_33 (by decide) (fun c19 => ?_) (fun c19 => ?_)
            · replace h := (if_pos c19).symm.trans h
              refine W.widen (k := 0) (n := 0) (Nat.le_of_ble_eq_true rfl) (Nat.le_of_ble_eq_true rfl) ?_
              exact Jb63 _ ih _ _ h _ _ _ hM (lv_sub hl [0, 1] rfl)
            · replace h := (if_neg c19).symm.trans h
              refine g_aload_n hx hb dX0_areNumbersSound_36 rfl (lv_at hl 0 rfl) ?_
              have g := gbind h
              clear h
              obtain ⟨v20, e21, h⟩ := g
              refine g_getR hF hM fdX1 e21 (by decide) rfl u136 dX0_areNumbersSound_37 ?_
              have g := gbind h
              clear h
              obtain ⟨v22, e23, h⟩ := g
              refine g_getI hF hM fdX3 e23 (by decide) rfl u106 dX0_areNumbersSound_40 ?_
              refine lv_if_eq (tgt := 63) hx hb dX0_areNumbersSound_43 (by decide) (fun c24 => ?_) (fun c24 => ?_)
              · replace h := (if_pos c24).symm.trans h
                refine W.widen (k := 0) (n := 0) (Nat.le_of_ble_eq_true rfl) (Nat.le_of_ble_eq_true rfl) ?_
                exact Jb63 _ ih _ _ h _ _ _ hM (lv_sub hl [0, 1] rfl)
              · replace h := (if_neg c24).symm.trans h
                refine g_aload_n hx hb dX0_areNumbersSound_46 rfl (lv_at hl 0 rfl) ?_
                refine lv_iload_n hx hb dX0_areNumbersSound_47 rfl (lv_at hl 1 rfl) ?_
                refine lv_iconst (v := 1) hx hb dX0_areNumbersSound_48 (by decide) ?_
                refine lv_isub hx hb dX0_areNumbersSound_49 ?_
                have g := gbind h
                clear h
                obtain ⟨a25, e26, h⟩ := g
                have t27 := (gtk_of e26).2
                rw [(gtk_of e26).1]
                have g := gbind h
                clear h
                obtain ⟨v29, e28, h⟩ := g
                refine g_callV (As := [.int (x2 - 1)]) (rest := []) hF hM (c_X1_numberOf e28) k_X1_numberOf u258 u210 u211 rfl rfl t27 rfl hl.1 rfl (Nat.le_of_ble_eq_true rfl) dX0_areNumbersSound_50 ⟨(Nat.le_of_ble_eq_true rfl), (Nat.le_of_ble_eq_true rfl)⟩ ⟨(Nat.le_of_ble_eq_true rfl), (Nat.le_of_ble_eq_true rfl)⟩ (fun H locs hM => ?_)
                refine g_aload_n hx hb dX0_areNumbersSound_53 rfl (lv_at hl 0 rfl) ?_
                refine lv_iload_n hx hb dX0_areNumbersSound_54 rfl (lv_at hl 1 rfl) ?_
                have g := gbind h
                clear h
                obtain ⟨a30, e31, h⟩ := g
                have t32 := (gtk_of e31).2
                rw [(gtk_of e31).1]
                have g := gbind h
                clear h
                obtain ⟨v34, e33, h⟩ := g
                refine g_callV (As := [.int x2]) (rest := [.int v29]) hF hM (c_X1_numberOf e33) k_X1_numberOf u258 u210 u211 rfl rfl t32 rfl hl.1 rfl (Nat.le_of_ble_eq_true rfl) dX0_areNumbersSound_55 ⟨(Nat.le_of_ble_eq_true rfl), (Nat.le_of_ble_eq_true rfl)⟩ ⟨(Nat.le_of_ble_eq_true rfl), (Nat.le_of_ble_eq_true rfl)⟩ (fun H locs hM => ?_)
                refine lv_icmp_lt (tgt := 63) hx hb dX0_areNumbersSound_58 (by decide) (fun c35 => ?_) (fun c35 => ?_)
                · replace h := (if_pos c35).symm.trans h
                  refine W.widen (k := 0) (n := 0) (Nat.le_of_ble_eq_true rfl) (Nat.le_of_ble_eq_true rfl) ?_
                  exact Jb63 _ ih _ _ h _ _ _ hM (lv_sub hl [0, 1] rfl)
                · replace h := (if_neg c35).symm.trans h
                  refine lv_iconst (v := 0) hx hb dX0_areNumbersSound_61 (by decide) ?_
                  rw [← (Option.some.inj h)]
                  exact g_iret hF hM rfl rfl dX0_areNumbersSound_62 (Nat.le_of_ble_eq_true rfl) (Nat.le_of_ble_eq_true rfl)
        · replace h := (if_neg c15).symm.trans h
          refine lv_iconst (v := 0) hx hb dX0_areNumbersSound_23 (by decide) ?_
          rw [← (Option.some.inj h)]
          exact g_iret hF hM rfl rfl dX0_areNumbersSound_24 (Nat.le_of_ble_eq_true rfl) (Nat.le_of_ble_eq_true rfl)
  unfold f_X0_areNumbersSound at h
  refine lv_iconst (v := 0) hx hb dX0_areNumbersSound_0 (by decide) ?_
  refine lv_istore_n (i := 2) (lv' := [(2, .int 0), (0, va_rf (some a0)), (1, va_rf x1)]) hx hb dX0_areNumbersSound_1 rfl hl (by decide) (by simp [rf_cat, ic_cat, lc_cat]) (fun ls hl => ?_)
  refine W.widen (k := 0) (n := 0) (Nat.le_of_ble_eq_true rfl) (Nat.le_of_ble_eq_true rfl) ?_
  exact JL2 gN _ _ h _ _ _ hM (lv_sub hl [2, 0] rfl)
abbrev rm_X0_isBehind : Room := { frames := 1, cells := 0, slots := 0, locals := 21 }
theorem k_X0_isBehind : gKc yX0_isBehind cX0_isBehind 7 (some .boolean) 2 := ⟨u317, u66, by decide +kernel, by decide +kernel, by decide +kernel⟩
set_option maxHeartbeats 4000000 in
set_option maxRecDepth 100000 in
theorem c_X0_isBehind {l : Launch} {D : va_G} {Y : Nat → ClassId} {S : GS} {hs : Nat} {a0 : Nat} {x1 : Int32} {x2 : Int32} {r : Int32} (h : f_X0_isBehind S a0 x1 x2 = some r) : gMet l yX0_isBehind (gWs yX0_isBehind cX0_isBehind 7 (some .boolean)) rm_X0_isBehind [va_rf (some a0), .int x1, .int x2] D Y S hs (some (.int r)) S hs := by
  refine g_ofW (by decide +kernel) (Or.inl ⟨(Nat.le_of_ble_eq_true rfl), (List.forall_mem_cons.mpr ⟨rf_cat _, (List.forall_mem_cons.mpr ⟨rfl, (List.forall_mem_cons.mpr ⟨rfl, (fun _ h => absurd h List.not_mem_nil)⟩)⟩)⟩)⟩) ?_
  intro p e s m args below meth c ls hsz hname hF hM hl
  have hl : lv_has ls 7 [(0, va_rf (some a0)), (1, .int x1), (2, .int x2)] := by rw [g_args [va_rf (some a0), .int x1, .int x2] 0 (List.forall_mem_cons.mpr ⟨rf_cat _, (List.forall_mem_cons.mpr ⟨rfl, (List.forall_mem_cons.mpr ⟨rfl, (fun _ h => absurd h List.not_mem_nil)⟩)⟩)⟩)] at hl; exact hl
  have hF : gF p s m args meth c RX0 cX0_isBehind 7 (some .boolean) D Y (gA S hs) := hF
  have hx := hF.1
  have hb := hF.2.1
  have Jb139 : ∀ (s0 : Int32) (s1 : Int32), f_X0_isBehind_b139 S a0 s0 s1 = some r → ∀ (H : Heap) (locs : List Loc) (ls : Array Slot), gM D Y (gA S hs) s.heap S hs H locs → lv_has ls 7 [] → W p l e rm_X0_isBehind s m args below meth c H locs 0 0 (MQ below (gQ (some (.int r)) D Y S hs (gA S hs)) args s rm_X0_isBehind.cells rm_X0_isBehind.slots (gA S hs)) (F0 m 139 ls [.int s1, .int s0]) := by
    intro s0 s1 h H locs ls hM hl
    unfold f_X0_isBehind_b139 at h
    refine lv_icmp_ne (tgt := 146) hx hb dX0_isBehind_139 (by decide) (fun c21 => ?_) (fun c21 => ?_)
    · replace h := (if_neg c21).symm.trans h
      refine lv_iconst (v := 0) hx hb dX0_isBehind_146 (by decide) ?_
      rw [← (Option.some.inj h)]
      exact g_iret hF hM rfl rfl dX0_isBehind_147 (Nat.le_of_ble_eq_true rfl) (Nat.le_of_ble_eq_true rfl)
    · replace h := (if_pos c21).symm.trans h
      refine lv_iconst (v := 1) hx hb dX0_isBehind_142 (by decide) ?_
      refine lv_goto (tgt := 147) hx hb dX0_isBehind_143 (by decide) ?_
      rw [← (Option.some.inj h)]
      exact g_iret hF hM rfl rfl dX0_isBehind_147 (Nat.le_of_ble_eq_true rfl) (Nat.le_of_ble_eq_true rfl)
  have Jb123 : ∀ (x4 : Int32) (x5 : Int32) (s0 : Int32), f_X0_isBehind_b123 S a0 x4 x5 s0 = some r → ∀ (H : Heap) (locs : List Loc) (ls : Array Slot), gM D Y (gA S hs) s.heap S hs H locs → lv_has ls 7 [(4, .int x4), (5, .int x5)] → W p l e rm_X0_isBehind s m args below meth c H locs 0 0 (MQ below (gQ (some (.int r)) D Y S hs (gA S hs)) args s rm_X0_isBehind.cells rm_X0_isBehind.slots (gA S hs)) (F0 m 123 ls [.int s0]) := by
    intro x4 x5 s0 h H locs ls hM hl
    unfold f_X0_isBehind_b123 at h
    refine lv_istore (i := 6) (lv' := [(6, .int s0), (4, .int x4), (5, .int x5)]) hx hb dX0_isBehind_123 hl (by decide) rfl (fun ls hl => ?_)
    refine lv_iload hx hb dX0_isBehind_125 (lv_at hl 0 rfl) ?_
    refine lv_iload hx hb dX0_isBehind_127 (lv_at hl 1 rfl) ?_
    refine lv_iload hx hb dX0_isBehind_129 (lv_at hl 2 rfl) ?_
    refine lv_icmp_ge (tgt := 138) hx hb dX0_isBehind_131 (by decide) (fun c20 => ?_) (fun c20 => ?_)
    · replace h := (if_pos c20).symm.trans h
      refine lv_iconst (v := 0) hx hb dX0_isBehind_138 (by decide) ?_
      refine W.widen (k := 0) (n := 0) (Nat.le_of_ble_eq_true rfl) (Nat.le_of_ble_eq_true rfl) ?_
      exact Jb139 _ _ h _ _ _ hM (lv_sub hl [] rfl)
    · replace h := (if_neg c20).symm.trans h
      refine lv_iconst (v := 1) hx hb dX0_isBehind_134 (by decide) ?_
      refine lv_goto (tgt := 139) hx hb dX0_isBehind_135 (by decide) ?_
      refine W.widen (k := 0) (n := 0) (Nat.le_of_ble_eq_true rfl) (Nat.le_of_ble_eq_true rfl) ?_
      exact Jb139 _ _ h _ _ _ hM (lv_sub hl [] rfl)
  have Jb118 : ∀ (x4 : Int32) (x5 : Int32), f_X0_isBehind_b118 S a0 x4 x5 = some r → ∀ (H : Heap) (locs : List Loc) (ls : Array Slot), gM D Y (gA S hs) s.heap S hs H locs → lv_has ls 7 [(4, .int x4), (5, .int x5)] → W p l e rm_X0_isBehind s m args below meth c H locs 0 0 (MQ below (gQ (some (.int r)) D Y S hs (gA S hs)) args s rm_X0_isBehind.cells rm_X0_isBehind.slots (gA S hs)) (F0 m 118 ls []) := by
    intro x4 x5 h H locs ls hM hl
    unfold f_X0_isBehind_b118 at h
    refine lv_iconst (v := 1) hx hb dX0_isBehind_118 (by decide) ?_
    refine lv_goto (tgt := 123) hx hb dX0_isBehind_119 (by decide) ?_
    refine W.widen (k := 0) (n := 0) (Nat.le_of_ble_eq_true rfl) (Nat.le_of_ble_eq_true rfl) ?_
    exact Jb123 _ _ _ h _ _ _ hM (lv_sub hl [0, 1] rfl)
  have Jb70 : ∀ (x1 : Int32) (x2 : Int32) (x4 : Int32) (s0 : Int32), f_X0_isBehind_b70 S a0 x1 x2 x4 s0 = some r → ∀ (H : Heap) (locs : List Loc) (ls : Array Slot), gM D Y (gA S hs) s.heap S hs H locs → lv_has ls 7 [(0, va_rf (some a0)), (1, .int x1), (2, .int x2), (4, .int x4)] → W p l e rm_X0_isBehind s m args below meth c H locs 0 0 (MQ below (gQ (some (.int r)) D Y S hs (gA S hs)) args s rm_X0_isBehind.cells rm_X0_isBehind.slots (gA S hs)) (F0 m 70 ls [.int s0]) := by
    intro x1 x2 x4 s0 h H locs ls hM hl
    unfold f_X0_isBehind_b70 at h
    refine lv_istore (i := 5) (lv' := [(5, .int s0), (0, va_rf (some a0)), (1, .int x1), (2, .int x2), (4, .int x4)]) hx hb dX0_isBehind_70 hl (by decide) rfl (fun ls hl => ?_)
    refine lv_iload hx hb dX0_isBehind_72 (lv_at hl 4 rfl) ?_
    refine lv_iload hx hb dX0_isBehind_74 (lv_at hl 0 rfl) ?_
    refine lv_icmp_ne (tgt := 106) hx hb dX0_isBehind_76 (by decide) (fun c18 => ?_) (fun c18 => ?_)
    · replace h := (if_neg c18).symm.trans h
      refine lv_iload_n hx hb dX0_isBehind_106 rfl (lv_at hl 3 rfl) ?_
      refine lv_bipush (v := 75) hx hb dX0_isBehind_107 (by decide) ?_
      refine lv_icmp_eq (tgt := 118) hx hb dX0_isBehind_109 (by decide) (fun c19 => ?_) (fun c19 => ?_)
      · replace h := (if_pos c19).symm.trans h
        refine W.widen (k := 0) (n := 0) (Nat.le_of_ble_eq_true rfl) (Nat.le_of_ble_eq_true rfl) ?_
        exact Jb118 _ _ h _ _ _ hM (lv_sub hl [4, 0] rfl)
      · replace h := (if_neg c19).symm.trans h
        refine lv_iload_n hx hb dX0_isBehind_112 rfl (lv_at hl 3 rfl) ?_
        refine lv_bipush (v := 77) hx hb dX0_isBehind_113 (by decide) ?_
        refine lv_icmp_ne (tgt := 122) hx hb dX0_isBehind_115 (by decide) (fun c22 => ?_) (fun c22 => ?_)
        · replace h := (if_neg c22).symm.trans h
          refine lv_iconst (v := 0) hx hb dX0_isBehind_122 (by decide) ?_
          refine W.widen (k := 0) (n := 0) (Nat.le_of_ble_eq_true rfl) (Nat.le_of_ble_eq_true rfl) ?_
          exact Jb123 _ _ _ h _ _ _ hM (lv_sub hl [4, 0] rfl)
        · replace h := (if_pos c22).symm.trans h
          refine W.widen (k := 0) (n := 0) (Nat.le_of_ble_eq_true rfl) (Nat.le_of_ble_eq_true rfl) ?_
          exact Jb118 _ _ h _ _ _ hM (lv_sub hl [4, 0] rfl)
    · replace h := (if_pos c18).symm.trans h
      refine g_aload_n hx hb dX0_isBehind_79 rfl (lv_at hl 1 rfl) ?_
      have g := gbind h
      clear h
      obtain ⟨v23, e24, h⟩ := g
      refine g_getR hF hM fdX0 e24 (by decide) rfl u167 dX0_isBehind_80 ?_
      refine lv_iload_n hx hb dX0_isBehind_83 rfl (lv_at hl 2 rfl) ?_
      refine lv_iconst (v := 1) hx hb dX0_isBehind_84 (by decide) ?_
      refine lv_isub hx hb dX0_isBehind_85 ?_
      have g := gbind h
      clear h
      obtain ⟨a25, e26, h⟩ := g
      have t27 := (gtk_of e26).2
      rw [(gtk_of e26).1]
      have g := gbind h
      clear h
      obtain ⟨v29, e28, h⟩ := g
      refine g_callV (As := [.int (x1 - 1)]) (rest := []) hF hM (c_X3_numberIn e28) k_X3_numberIn u309 u218 u219 rfl rfl t27 rfl hl.1 rfl (Nat.le_of_ble_eq_true rfl) dX0_isBehind_86 ⟨(Nat.le_of_ble_eq_true rfl), (Nat.le_of_ble_eq_true rfl)⟩ ⟨(Nat.le_of_ble_eq_true rfl), (Nat.le_of_ble_eq_true rfl)⟩ (fun H locs hM => ?_)
      refine g_aload_n hx hb dX0_isBehind_89 rfl (lv_at hl 1 rfl) ?_
      have g := gbind h
      clear h
      obtain ⟨v30, e31, h⟩ := g
      refine g_getR hF hM fdX0 e31 (by decide) rfl u167 dX0_isBehind_90 ?_
      refine lv_iload_n hx hb dX0_isBehind_93 rfl (lv_at hl 2 rfl) ?_
      have g := gbind h
      clear h
      obtain ⟨a32, e33, h⟩ := g
      have t34 := (gtk_of e33).2
      rw [(gtk_of e33).1]
      have g := gbind h
      clear h
      obtain ⟨v36, e35, h⟩ := g
      refine g_callV (As := [.int x1]) (rest := [.int v29]) hF hM (c_X3_numberIn e35) k_X3_numberIn u309 u218 u219 rfl rfl t34 rfl hl.1 rfl (Nat.le_of_ble_eq_true rfl) dX0_isBehind_94 ⟨(Nat.le_of_ble_eq_true rfl), (Nat.le_of_ble_eq_true rfl)⟩ ⟨(Nat.le_of_ble_eq_true rfl), (Nat.le_of_ble_eq_true rfl)⟩ (fun H locs hM => ?_)
      refine lv_icmp_ge (tgt := 104) hx hb dX0_isBehind_97 (by decide) (fun c37 => ?_) (fun c37 => ?_)
      · replace h := (if_pos c37).symm.trans h
        refine lv_iconst (v := 0) hx hb dX0_isBehind_104 (by decide) ?_
        rw [← (Option.some.inj h)]
        exact g_iret hF hM rfl rfl dX0_isBehind_105 (Nat.le_of_ble_eq_true rfl) (Nat.le_of_ble_eq_true rfl)
      · replace h := (if_neg c37).symm.trans h
        refine lv_iconst (v := 1) hx hb dX0_isBehind_100 (by decide) ?_
        refine lv_goto (tgt := 105) hx hb dX0_isBehind_101 (by decide) ?_
        rw [← (Option.some.inj h)]
        exact g_iret hF hM rfl rfl dX0_isBehind_105 (Nat.le_of_ble_eq_true rfl) (Nat.le_of_ble_eq_true rfl)
  have Jb41 : ∀ (x1 : Int32) (x2 : Int32) (x3 : Int32) (s0 : Int32), f_X0_isBehind_b41 S a0 x1 x2 x3 s0 = some r → ∀ (H : Heap) (locs : List Loc) (ls : Array Slot), gM D Y (gA S hs) s.heap S hs H locs → lv_has ls 7 [(0, va_rf (some a0)), (1, .int x1), (2, .int x2), (3, .int x3)] → W p l e rm_X0_isBehind s m args below meth c H locs 0 0 (MQ below (gQ (some (.int r)) D Y S hs (gA S hs)) args s rm_X0_isBehind.cells rm_X0_isBehind.slots (gA S hs)) (F0 m 41 ls [.int s0]) := by
    intro x1 x2 x3 s0 h H locs ls hM hl
    unfold f_X0_isBehind_b41 at h
    refine lv_istore (i := 4) (lv' := [(4, .int s0), (0, va_rf (some a0)), (1, .int x1), (2, .int x2), (3, .int x3)]) hx hb dX0_isBehind_41 hl (by decide) rfl (fun ls hl => ?_)
    refine lv_iload_n hx hb dX0_isBehind_43 rfl (lv_at hl 4 rfl) ?_
    refine lv_if_eq (tgt := 60) hx hb dX0_isBehind_44 (by decide) (fun c10 => ?_) (fun c10 => ?_)
    · replace h := (if_pos c10).symm.trans h
      refine g_aload_n hx hb dX0_isBehind_60 rfl (lv_at hl 1 rfl) ?_
      have g := gbind h
      clear h
      obtain ⟨v11, e12, h⟩ := g
      refine g_getR hF hM fdX0 e12 (by decide) rfl u167 dX0_isBehind_61 ?_
      refine lv_iload_n hx hb dX0_isBehind_64 rfl (lv_at hl 2 rfl) ?_
      refine lv_iconst (v := 1) hx hb dX0_isBehind_65 (by decide) ?_
      refine lv_isub hx hb dX0_isBehind_66 ?_
      have g := gbind h
      clear h
      obtain ⟨a13, e14, h⟩ := g
      have t15 := (gtk_of e14).2
      rw [(gtk_of e14).1]
      have g := gbind h
      clear h
      obtain ⟨v17, e16, h⟩ := g
      refine g_callV (As := [.int (x1 - 1)]) (rest := []) hF hM (c_X3_markIn e16) k_X3_markIn u319 u238 u239 rfl rfl t15 rfl hl.1 rfl (Nat.le_of_ble_eq_true rfl) dX0_isBehind_67 ⟨(Nat.le_of_ble_eq_true rfl), (Nat.le_of_ble_eq_true rfl)⟩ ⟨(Nat.le_of_ble_eq_true rfl), (Nat.le_of_ble_eq_true rfl)⟩ (fun H locs hM => ?_)
      refine W.widen (k := 0) (n := 0) (Nat.le_of_ble_eq_true rfl) (Nat.le_of_ble_eq_true rfl) ?_
      exact Jb70 _ _ _ _ h _ _ _ hM (lv_sub hl [1, 2, 3, 0] rfl)
    · replace h := (if_neg c10).symm.trans h
      refine g_aload_n hx hb dX0_isBehind_47 rfl (lv_at hl 1 rfl) ?_
      have g := gbind h
      clear h
      obtain ⟨v38, e39, h⟩ := g
      refine g_getR hF hM fdX0 e39 (by decide) rfl u167 dX0_isBehind_48 ?_
      refine lv_iload_n hx hb dX0_isBehind_51 rfl (lv_at hl 2 rfl) ?_
      refine lv_iconst (v := 1) hx hb dX0_isBehind_52 (by decide) ?_
      refine lv_isub hx hb dX0_isBehind_53 ?_
      have g := gbind h
      clear h
      obtain ⟨a40, e41, h⟩ := g
      have t42 := (gtk_of e41).2
      rw [(gtk_of e41).1]
      have g := gbind h
      clear h
      obtain ⟨v44, e43, h⟩ := g
      refine g_callV (As := [.int (x1 - 1)]) (rest := []) hF hM (c_X3_keyIn e43) k_X3_keyIn u318 u230 u231 rfl rfl t42 rfl hl.1 rfl (Nat.le_of_ble_eq_true rfl) dX0_isBehind_54 ⟨(Nat.le_of_ble_eq_true rfl), (Nat.le_of_ble_eq_true rfl)⟩ ⟨(Nat.le_of_ble_eq_true rfl), (Nat.le_of_ble_eq_true rfl)⟩ (fun H locs hM => ?_)
      refine lv_goto (tgt := 70) hx hb dX0_isBehind_57 (by decide) ?_
      refine W.widen (k := 0) (n := 0) (Nat.le_of_ble_eq_true rfl) (Nat.le_of_ble_eq_true rfl) ?_
      exact Jb70 _ _ _ _ h _ _ _ hM (lv_sub hl [1, 2, 3, 0] rfl)
  have Jb17 : ∀ (x1 : Int32) (x2 : Int32) (s0 : Int32), f_X0_isBehind_b17 S a0 x1 x2 s0 = some r → ∀ (H : Heap) (locs : List Loc) (ls : Array Slot), gM D Y (gA S hs) s.heap S hs H locs → lv_has ls 7 [(0, va_rf (some a0)), (1, .int x1), (2, .int x2)] → W p l e rm_X0_isBehind s m args below meth c H locs 0 0 (MQ below (gQ (some (.int r)) D Y S hs (gA S hs)) args s rm_X0_isBehind.cells rm_X0_isBehind.slots (gA S hs)) (F0 m 17 ls [.int s0]) := by
    intro x1 x2 s0 h H locs ls hM hl
    unfold f_X0_isBehind_b17 at h
    refine lv_istore_n (i := 3) (lv' := [(3, .int s0), (0, va_rf (some a0)), (1, .int x1), (2, .int x2)]) hx hb dX0_isBehind_17 rfl hl (by decide) rfl (fun ls hl => ?_)
    refine lv_iload_n hx hb dX0_isBehind_18 rfl (lv_at hl 0 rfl) ?_
    refine lv_if_eq (tgt := 33) hx hb dX0_isBehind_19 (by decide) (fun c2 => ?_) (fun c2 => ?_)
    · replace h := (if_pos c2).symm.trans h
      refine g_aload_n hx hb dX0_isBehind_33 rfl (lv_at hl 1 rfl) ?_
      have g := gbind h
      clear h
      obtain ⟨v3, e4, h⟩ := g
      refine g_getR hF hM fdX0 e4 (by decide) rfl u167 dX0_isBehind_34 ?_
      refine lv_iload_n hx hb dX0_isBehind_37 rfl (lv_at hl 2 rfl) ?_
      have g := gbind h
      clear h
      obtain ⟨a5, e6, h⟩ := g
      have t7 := (gtk_of e6).2
      rw [(gtk_of e6).1]
      have g := gbind h
      clear h
      obtain ⟨v9, e8, h⟩ := g
      refine g_callV (As := [.int x1]) (rest := []) hF hM (c_X3_markIn e8) k_X3_markIn u319 u238 u239 rfl rfl t7 rfl hl.1 rfl (Nat.le_of_ble_eq_true rfl) dX0_isBehind_38 ⟨(Nat.le_of_ble_eq_true rfl), (Nat.le_of_ble_eq_true rfl)⟩ ⟨(Nat.le_of_ble_eq_true rfl), (Nat.le_of_ble_eq_true rfl)⟩ (fun H locs hM => ?_)
      refine W.widen (k := 0) (n := 0) (Nat.le_of_ble_eq_true rfl) (Nat.le_of_ble_eq_true rfl) ?_
      exact Jb41 _ _ _ _ h _ _ _ hM (lv_sub hl [1, 2, 3, 0] rfl)
    · replace h := (if_neg c2).symm.trans h
      refine g_aload_n hx hb dX0_isBehind_22 rfl (lv_at hl 1 rfl) ?_
      have g := gbind h
      clear h
      obtain ⟨v45, e46, h⟩ := g
      refine g_getR hF hM fdX0 e46 (by decide) rfl u167 dX0_isBehind_23 ?_
      refine lv_iload_n hx hb dX0_isBehind_26 rfl (lv_at hl 2 rfl) ?_
      have g := gbind h
      clear h
      obtain ⟨a47, e48, h⟩ := g
      have t49 := (gtk_of e48).2
      rw [(gtk_of e48).1]
      have g := gbind h
      clear h
      obtain ⟨v51, e50, h⟩ := g
      refine g_callV (As := [.int x1]) (rest := []) hF hM (c_X3_keyIn e50) k_X3_keyIn u318 u230 u231 rfl rfl t49 rfl hl.1 rfl (Nat.le_of_ble_eq_true rfl) dX0_isBehind_27 ⟨(Nat.le_of_ble_eq_true rfl), (Nat.le_of_ble_eq_true rfl)⟩ ⟨(Nat.le_of_ble_eq_true rfl), (Nat.le_of_ble_eq_true rfl)⟩ (fun H locs hM => ?_)
      refine lv_goto (tgt := 41) hx hb dX0_isBehind_30 (by decide) ?_
      refine W.widen (k := 0) (n := 0) (Nat.le_of_ble_eq_true rfl) (Nat.le_of_ble_eq_true rfl) ?_
      exact Jb41 _ _ _ _ h _ _ _ hM (lv_sub hl [1, 2, 3, 0] rfl)
  have Jb12 : ∀ (x1 : Int32) (x2 : Int32), f_X0_isBehind_b12 S a0 x1 x2 = some r → ∀ (H : Heap) (locs : List Loc) (ls : Array Slot), gM D Y (gA S hs) s.heap S hs H locs → lv_has ls 7 [(0, va_rf (some a0)), (1, .int x1), (2, .int x2)] → W p l e rm_X0_isBehind s m args below meth c H locs 0 0 (MQ below (gQ (some (.int r)) D Y S hs (gA S hs)) args s rm_X0_isBehind.cells rm_X0_isBehind.slots (gA S hs)) (F0 m 12 ls []) := by
    intro x1 x2 h H locs ls hM hl
    unfold f_X0_isBehind_b12 at h
    refine lv_iconst (v := 1) hx hb dX0_isBehind_12 (by decide) ?_
    refine lv_goto (tgt := 17) hx hb dX0_isBehind_13 (by decide) ?_
    refine W.widen (k := 0) (n := 0) (Nat.le_of_ble_eq_true rfl) (Nat.le_of_ble_eq_true rfl) ?_
    exact Jb17 _ _ _ h _ _ _ hM (lv_sub hl [0, 1, 2] rfl)
  unfold f_X0_isBehind at h
  refine lv_iload_n hx hb dX0_isBehind_0 rfl (lv_at hl 2 rfl) ?_
  refine lv_bipush (v := 107) hx hb dX0_isBehind_1 (by decide) ?_
  refine lv_icmp_eq (tgt := 12) hx hb dX0_isBehind_3 (by decide) (fun c1 => ?_) (fun c1 => ?_)
  · replace h := (if_pos c1).symm.trans h
    refine W.widen (k := 0) (n := 0) (Nat.le_of_ble_eq_true rfl) (Nat.le_of_ble_eq_true rfl) ?_
    exact Jb12 _ _ h _ _ _ hM (lv_sub hl [0, 1, 2] rfl)
  · replace h := (if_neg c1).symm.trans h
    refine lv_iload_n hx hb dX0_isBehind_6 rfl (lv_at hl 2 rfl) ?_
    refine lv_bipush (v := 75) hx hb dX0_isBehind_7 (by decide) ?_
    refine lv_icmp_ne (tgt := 16) hx hb dX0_isBehind_9 (by decide) (fun c52 => ?_) (fun c52 => ?_)
    · replace h := (if_neg c52).symm.trans h
      refine lv_iconst (v := 0) hx hb dX0_isBehind_16 (by decide) ?_
      refine W.widen (k := 0) (n := 0) (Nat.le_of_ble_eq_true rfl) (Nat.le_of_ble_eq_true rfl) ?_
      exact Jb17 _ _ _ h _ _ _ hM (lv_sub hl [0, 1, 2] rfl)
    · replace h := (if_pos c52).symm.trans h
      refine W.widen (k := 0) (n := 0) (Nat.le_of_ble_eq_true rfl) (Nat.le_of_ble_eq_true rfl) ?_
      exact Jb12 _ _ h _ _ _ hM (lv_sub hl [0, 1, 2] rfl)
abbrev rm_X0_isSortSound : Room := { frames := 4, cells := 0, slots := 0, locals := 91 }
theorem k_X0_isSortSound : gKc yX0_isSortSound cX0_isSortSound 6 (some .boolean) 2 := ⟨u271, u66, by decide +kernel, by decide +kernel, by decide +kernel⟩
set_option maxHeartbeats 4000000 in
set_option maxRecDepth 100000 in
theorem c_X0_isSortSound {l : Launch} {D : va_G} {Y : Nat → ClassId} {S : GS} {hs : Nat} {a0 : Nat} {x1 : Option Nat} {x2 : Int32} {r : Int32} {S' : GS} (h : f_X0_isSortSound S a0 x1 x2 = some (r, S')) : gMet l yX0_isSortSound (gWs yX0_isSortSound cX0_isSortSound 6 (some .boolean)) rm_X0_isSortSound [va_rf (some a0), va_rf x1, .int x2] D Y S hs (some (.int r)) S' hs := by
  refine g_ofW (by decide +kernel) (Or.inl ⟨(Nat.le_of_ble_eq_true rfl), (List.forall_mem_cons.mpr ⟨rf_cat _, (List.forall_mem_cons.mpr ⟨rf_cat _, (List.forall_mem_cons.mpr ⟨rfl, (fun _ h => absurd h List.not_mem_nil)⟩)⟩)⟩)⟩) ?_
  intro p e s m args below meth c ls hsz hname hF hM hl
  have hl : lv_has ls 6 [(0, va_rf (some a0)), (1, va_rf x1), (2, .int x2)] := by rw [g_args [va_rf (some a0), va_rf x1, .int x2] 0 (List.forall_mem_cons.mpr ⟨rf_cat _, (List.forall_mem_cons.mpr ⟨rf_cat _, (List.forall_mem_cons.mpr ⟨rfl, (fun _ h => absurd h List.not_mem_nil)⟩)⟩)⟩)] at hl; exact hl
  have hF : gF p s m args meth c RX0 cX0_isSortSound 6 (some .boolean) D Y (gA S hs) := hF
  have hx := hF.1
  have hb := hF.2.1
  have Jb91 : ∀ (k29 : GS → Option Nat → Int32 → Int32 → Int32 → Option (Int32 × GS)) (hk29 : ∀ (T29 : GS) (x1 : Option Nat) (x2 : Int32) (x3 : Int32) (x4 : Int32), k29 T29 x1 x2 x3 x4 = some (r, S') → ∀ (H : Heap) (locs : List Loc) (ls : Array Slot), gM D Y (gA S hs) s.heap T29 hs H locs → lv_has ls 6 [(0, va_rf (some a0)), (1, va_rf x1), (2, .int x2), (3, .int x3), (4, .int x4)] → W p l e rm_X0_isSortSound s m args below meth c H locs 0 0 (MQ below (gQ (some (.int r)) D Y S' hs (gA S hs)) args s rm_X0_isSortSound.cells rm_X0_isSortSound.slots (gA S hs)) (F0 m 29 ls [])) (T91 : GS) (x1 : Option Nat) (x2 : Int32) (x3 : Int32) (x4 : Int32), f_X0_isSortSound_b91 k29 a0 T91 x1 x2 x3 x4 = some (r, S') → ∀ (H : Heap) (locs : List Loc) (ls : Array Slot), gM D Y (gA S hs) s.heap T91 hs H locs → lv_has ls 6 [(0, va_rf (some a0)), (1, va_rf x1), (2, .int x2), (3, .int x3), (4, .int x4)] → W p l e rm_X0_isSortSound s m args below meth c H locs 0 0 (MQ below (gQ (some (.int r)) D Y S' hs (gA S hs)) args s rm_X0_isSortSound.cells rm_X0_isSortSound.slots (gA S hs)) (F0 m 91 ls []) := by
    intro k29 hk29 T91 x1 x2 x3 x4 h H locs ls hM hl
    unfold f_X0_isSortSound_b91 at h
    refine lv_iinc (v := (x4 + 1)) (lv' := [(4, .int (x4 + 1)), (0, va_rf (some a0)), (1, va_rf x1), (2, .int x2), (3, .int x3)]) hx hb dX0_isSortSound_91 hl (k := 4) rfl rfl (by decide) rfl (fun ls hl => ?_)
    refine lv_goto (tgt := 29) hx hb dX0_isSortSound_94 (by decide) ?_
    refine W.widen (k := 0) (n := 0) (Nat.le_of_ble_eq_true rfl) (Nat.le_of_ble_eq_true rfl) ?_
    exact hk29 _ _ _ _ _ h _ _ _ hM (lv_sub hl [1, 2, 3, 4, 0] rfl)
  have JL29 : ∀ (n : Nat) (T29 : GS) (x1 : Option Nat) (x2 : Int32) (x3 : Int32) (x4 : Int32), f_X0_isSortSound_L29 a0 n T29 x1 x2 x3 x4 = some (r, S') → ∀ (H : Heap) (locs : List Loc) (ls : Array Slot), gM D Y (gA S hs) s.heap T29 hs H locs → lv_has ls 6 [(0, va_rf (some a0)), (1, va_rf x1), (2, .int x2), (3, .int x3), (4, .int x4)] → W p l e rm_X0_isSortSound s m args below meth c H locs 0 0 (MQ below (gQ (some (.int r)) D Y S' hs (gA S hs)) args s rm_X0_isSortSound.cells rm_X0_isSortSound.slots (gA S hs)) (F0 m 29 ls []) := by
    intro n
    induction n with
    | zero => intro T29 x1 x2 x3 x4 h; unfold f_X0_isSortSound_L29 at h; exact nomatch h
    | succ n ih =>
      intro T29 x1 x2 x3 x4 h H locs ls hM hl
      unfold f_X0_isSortSound_L29 at h
      refine lv_iload hx hb dX0_isSortSound_29 (lv_at hl 4 rfl) ?_
      refine g_aload_n hx hb dX0_isSortSound_31 rfl (lv_at hl 0 rfl) ?_
      have g := gbind h
      clear h
      obtain ⟨v19, e20, h⟩ := g
      refine g_getR hF hM fdX0 e20 (by decide) rfl u167 dX0_isSortSound_32 ?_
      have g := gbind h
      clear h
      obtain ⟨v21, e22, h⟩ := g
      refine g_getI hF hM fdX3 e22 (by decide) rfl u108 dX0_isSortSound_35 ?_
      refine lv_icmp_ge (tgt := 97) hx hb dX0_isSortSound_38 (by decide) (fun c23 => ?_) (fun c23 => ?_)
      · replace h := (if_pos c23).symm.trans h
        refine g_aload_n hx hb dX0_isSortSound_97 rfl (lv_at hl 0 rfl) ?_
        have g := gbind h
        clear h
        obtain ⟨v24, e25, h⟩ := g
        refine g_getR hF hM fdX0 e25 (by decide) rfl u167 dX0_isSortSound_98 ?_
        have g := gbind h
        clear h
        obtain ⟨v26, e27, h⟩ := g
        refine g_getI hF hM fdX3 e27 (by decide) rfl u108 dX0_isSortSound_101 ?_
        refine g_aload_n hx hb dX0_isSortSound_104 rfl (lv_at hl 1 rfl) ?_
        have g := gbind h
        clear h
        obtain ⟨a28, e29, h⟩ := g
        have t30 := (gtk_of e29).2
        rw [(gtk_of e29).1]
        have g := gbind h
        clear h
        obtain ⟨v32, e31, h⟩ := g
        refine g_callV (As := []) (rest := [.int v26]) hF hM (c_X1_count e31) k_X1_count u257 u196 u197 rfl rfl t30 rfl hl.1 rfl (Nat.le_of_ble_eq_true rfl) dX0_isSortSound_105 ⟨(Nat.le_of_ble_eq_true rfl), (Nat.le_of_ble_eq_true rfl)⟩ ⟨(Nat.le_of_ble_eq_true rfl), (Nat.le_of_ble_eq_true rfl)⟩ (fun H locs hM => ?_)
        refine lv_icmp_ne (tgt := 127) hx hb dX0_isSortSound_108 (by decide) (fun c33 => ?_) (fun c33 => ?_)
        · replace h := (if_neg c33).symm.trans h
          refine lv_iconst (v := 0) hx hb dX0_isSortSound_127 (by decide) ?_
          obtain ⟨q1, q2⟩ := Prod.mk.inj (Option.some.inj h)
          rw [← q1, ← q2]
          exact g_iret hF hM rfl rfl dX0_isSortSound_128 (Nat.le_of_ble_eq_true rfl) (Nat.le_of_ble_eq_true rfl)
        · replace h := (if_pos c33).symm.trans h
          refine lv_iload_n hx hb dX0_isSortSound_111 rfl (lv_at hl 3 rfl) ?_
          refine lv_iconst (v := 1) hx hb dX0_isSortSound_112 (by decide) ?_
          refine g_aload_n hx hb dX0_isSortSound_113 rfl (lv_at hl 1 rfl) ?_
          have g := gbind h
          clear h
          obtain ⟨a34, e35, h⟩ := g
          have t36 := (gtk_of e35).2
          rw [(gtk_of e35).1]
          have g := gbind h
          clear h
          obtain ⟨v38, e37, h⟩ := g
          refine g_callV (As := []) (rest := [.int 1, .int x3]) hF hM (c_X1_count e37) k_X1_count u257 u196 u197 rfl rfl t36 rfl hl.1 rfl (Nat.le_of_ble_eq_true rfl) dX0_isSortSound_114 ⟨(Nat.le_of_ble_eq_true rfl), (Nat.le_of_ble_eq_true rfl)⟩ ⟨(Nat.le_of_ble_eq_true rfl), (Nat.le_of_ble_eq_true rfl)⟩ (fun H locs hM => ?_)
          refine lv_ishl hx hb dX0_isSortSound_117 ?_
          refine lv_iconst (v := 1) hx hb dX0_isSortSound_118 (by decide) ?_
          refine lv_isub hx hb dX0_isSortSound_119 ?_
          refine lv_icmp_ne (tgt := 127) hx hb dX0_isSortSound_120 (by decide) (fun c39 => ?_) (fun c39 => ?_)
          · replace h := (if_neg c39).symm.trans h
            refine lv_iconst (v := 0) hx hb dX0_isSortSound_127 (by decide) ?_
            obtain ⟨q1, q2⟩ := Prod.mk.inj (Option.some.inj h)
            rw [← q1, ← q2]
            exact g_iret hF hM rfl rfl dX0_isSortSound_128 (Nat.le_of_ble_eq_true rfl) (Nat.le_of_ble_eq_true rfl)
          · replace h := (if_pos c39).symm.trans h
            refine lv_iconst (v := 1) hx hb dX0_isSortSound_123 (by decide) ?_
            refine lv_goto (tgt := 128) hx hb dX0_isSortSound_124 (by decide) ?_
            obtain ⟨q1, q2⟩ := Prod.mk.inj (Option.some.inj h)
            rw [← q1, ← q2]
            exact g_iret hF hM rfl rfl dX0_isSortSound_128 (Nat.le_of_ble_eq_true rfl) (Nat.le_of_ble_eq_true rfl)
      · replace h := (if_neg c23).symm.trans h
        refine g_aload_n hx hb dX0_isSortSound_41 rfl (lv_at hl 0 rfl) ?_
        have g := gbind h
        clear h
        obtain ⟨v40, e41, h⟩ := g
        refine g_getR hF hM fdX0 e41 (by decide) rfl u167 dX0_isSortSound_42 ?_
        refine lv_iload hx hb dX0_isSortSound_45 (lv_at hl 4 rfl) ?_
        have g := gbind h
        clear h
        obtain ⟨a42, e43, h⟩ := g
        have t44 := (gtk_of e43).2
        rw [(gtk_of e43).1]
        have g := gbind h
        clear h
        obtain ⟨v46, e45, h⟩ := g
        refine g_callV (As := [.int x4]) (rest := []) hF hM (c_X3_numberIn e45) k_X3_numberIn u309 u218 u219 rfl rfl t44 rfl hl.1 rfl (Nat.le_of_ble_eq_true rfl) dX0_isSortSound_47 ⟨(Nat.le_of_ble_eq_true rfl), (Nat.le_of_ble_eq_true rfl)⟩ ⟨(Nat.le_of_ble_eq_true rfl), (Nat.le_of_ble_eq_true rfl)⟩ (fun H locs hM => ?_)
        refine lv_istore (i := 5) (lv' := [(5, .int v46), (0, va_rf (some a0)), (1, va_rf x1), (2, .int x2), (3, .int x3), (4, .int x4)]) hx hb dX0_isSortSound_50 hl (by decide) rfl (fun ls hl => ?_)
        refine lv_iload_n hx hb dX0_isSortSound_52 rfl (lv_at hl 4 rfl) ?_
        refine lv_iconst (v := 1) hx hb dX0_isSortSound_53 (by decide) ?_
        refine lv_iload hx hb dX0_isSortSound_54 (lv_at hl 0 rfl) ?_
        refine lv_ishl hx hb dX0_isSortSound_56 ?_
        refine lv_ior hx hb dX0_isSortSound_57 ?_
        refine lv_istore_n (i := 3) (lv' := [(3, .int (x3 ||| (1 <<< (v46 &&& 31)))), (5, .int v46), (0, va_rf (some a0)), (1, va_rf x1), (2, .int x2), (4, .int x4)]) hx hb dX0_isSortSound_58 rfl hl (by decide) rfl (fun ls hl => ?_)
        refine g_aload_n hx hb dX0_isSortSound_59 rfl (lv_at hl 2 rfl) ?_
        have g := gbind h
        clear h
        obtain ⟨v47, e48, h⟩ := g
        refine g_getR hF hM fdX0 e48 (by decide) rfl u168 dX0_isSortSound_60 ?_
        refine lv_iload hx hb dX0_isSortSound_63 (lv_at hl 5 rfl) ?_
        refine g_aload_n hx hb dX0_isSortSound_65 rfl (lv_at hl 3 rfl) ?_
        refine lv_iload hx hb dX0_isSortSound_66 (lv_at hl 1 rfl) ?_
        have g := gbind h
        clear h
        obtain ⟨a49, e50, h⟩ := g
        have t51 := (gtk_of e50).2
        rw [(gtk_of e50).1]
        have g := gbind h
        clear h
        obtain ⟨v53, e52, h⟩ := g
        refine g_callV (As := [.int x4, va_rf x1, .int v46]) (rest := []) hF hM (c_X1_isAlike e52) k_X1_isAlike u310 u311 u312 rfl rfl t51 rfl hl.1 rfl (Nat.le_of_ble_eq_true rfl) dX0_isSortSound_68 ⟨(Nat.le_of_ble_eq_true rfl), (Nat.le_of_ble_eq_true rfl)⟩ ⟨(Nat.le_of_ble_eq_true rfl), (Nat.le_of_ble_eq_true rfl)⟩ (fun H locs hM => ?_)
        refine lv_if_eq (tgt := 89) hx hb dX0_isSortSound_71 (by decide) (fun c54 => ?_) (fun c54 => ?_)
        · replace h := (if_pos c54).symm.trans h
          refine lv_iconst (v := 0) hx hb dX0_isSortSound_89 (by decide) ?_
          obtain ⟨q1, q2⟩ := Prod.mk.inj (Option.some.inj h)
          rw [← q1, ← q2]
          exact g_iret hF hM rfl rfl dX0_isSortSound_90 (Nat.le_of_ble_eq_true rfl) (Nat.le_of_ble_eq_true rfl)
        · replace h := (if_neg c54).symm.trans h
          refine lv_iload hx hb dX0_isSortSound_74 (lv_at hl 5 rfl) ?_
          refine lv_if_le (tgt := 91) hx hb dX0_isSortSound_76 (by decide) (fun c55 => ?_) (fun c55 => ?_)
          · replace h := (if_pos c55).symm.trans h
            refine W.widen (k := 0) (n := 0) (Nat.le_of_ble_eq_true rfl) (Nat.le_of_ble_eq_true rfl) ?_
            exact Jb91 _ ih _ _ _ _ _ h _ _ _ hM (lv_sub hl [2, 3, 4, 0, 5] rfl)
          · replace h := (if_neg c55).symm.trans h
            refine g_aload_n hx hb dX0_isSortSound_79 rfl (lv_at hl 2 rfl) ?_
            refine lv_iload hx hb dX0_isSortSound_80 (lv_at hl 5 rfl) ?_
            refine lv_iload_n hx hb dX0_isSortSound_82 rfl (lv_at hl 4 rfl) ?_
            have g := gckE h
            clear h
            obtain ⟨t56, h⟩ := g
            have t56 := eq_of_beq t56
            have g := gbind h
            clear h
            obtain ⟨v58, e57, h⟩ := g
            refine g_callV (As := [.int x4, .int x2]) (rest := []) hF hM (c_X0_isBehind e57) k_X0_isBehind u314 u316 u4 rfl rfl t56 rfl hl.1 rfl (Nat.le_of_ble_eq_true rfl) dX0_isSortSound_83 ⟨(Nat.le_of_ble_eq_true rfl), (Nat.le_of_ble_eq_true rfl)⟩ ⟨(Nat.le_of_ble_eq_true rfl), (Nat.le_of_ble_eq_true rfl)⟩ (fun H locs hM => ?_)
            refine lv_if_ne (tgt := 91) hx hb dX0_isSortSound_86 (by decide) (fun c59 => ?_) (fun c59 => ?_)
            · replace h := (if_neg c59).symm.trans h
              refine W.widen (k := 0) (n := 0) (Nat.le_of_ble_eq_true rfl) (Nat.le_of_ble_eq_true rfl) ?_
              exact Jb91 _ ih _ _ _ _ _ h _ _ _ hM (lv_sub hl [2, 3, 4, 0, 5] rfl)
            · replace h := (if_pos c59).symm.trans h
              refine lv_iconst (v := 0) hx hb dX0_isSortSound_89 (by decide) ?_
              obtain ⟨q1, q2⟩ := Prod.mk.inj (Option.some.inj h)
              rw [← q1, ← q2]
              exact g_iret hF hM rfl rfl dX0_isSortSound_90 (Nat.le_of_ble_eq_true rfl) (Nat.le_of_ble_eq_true rfl)
  unfold f_X0_isSortSound at h
  refine g_aload_n hx hb dX0_isSortSound_0 rfl (lv_at hl 0 rfl) ?_
  have g := gbind h
  clear h
  obtain ⟨v1, e2, h⟩ := g
  refine g_getR hF hM fdX0 e2 (by decide) rfl u167 dX0_isSortSound_1 ?_
  refine g_aload_n hx hb dX0_isSortSound_4 rfl (lv_at hl 1 rfl) ?_
  have g := gbind h
  clear h
  obtain ⟨a3, e4, h⟩ := g
  have t5 := (gtk_of e4).2
  rw [(gtk_of e4).1]
  have g := gbind h
  clear h
  obtain ⟨S7, e6, h⟩ := g
  refine g_callV (As := [va_rf x1]) (rest := []) hF hM (c_X3_copyThings e6) k_X3_copyThings u272 u273 u274 rfl rfl t5 rfl hl.1 rfl (Nat.le_of_ble_eq_true rfl) dX0_isSortSound_5 ⟨(Nat.le_of_ble_eq_true rfl), (Nat.le_of_ble_eq_true rfl)⟩ ⟨(Nat.le_of_ble_eq_true rfl), (Nat.le_of_ble_eq_true rfl)⟩ (fun H locs hM => ?_)
  refine g_aload_n hx hb dX0_isSortSound_8 rfl (lv_at hl 0 rfl) ?_
  have g := gbind h
  clear h
  obtain ⟨v8, e9, h⟩ := g
  refine g_getR hF hM fdX0 e9 (by decide) rfl u167 dX0_isSortSound_9 ?_
  refine lv_iconst (v := 0) hx hb dX0_isSortSound_12 (by decide) ?_
  refine g_aload_n hx hb dX0_isSortSound_13 rfl (lv_at hl 0 rfl) ?_
  have g := gbind h
  clear h
  obtain ⟨v10, e11, h⟩ := g
  refine g_getR hF hM fdX0 e11 (by decide) rfl u167 dX0_isSortSound_14 ?_
  have g := gbind h
  clear h
  obtain ⟨v12, e13, h⟩ := g
  refine g_getI hF hM fdX3 e13 (by decide) rfl u108 dX0_isSortSound_17 ?_
  refine lv_iload_n hx hb dX0_isSortSound_20 rfl (lv_at hl 2 rfl) ?_
  have g := gbind h
  clear h
  obtain ⟨a14, e15, h⟩ := g
  have t16 := (gtk_of e15).2
  rw [(gtk_of e15).1]
  have g := gbind h
  clear h
  obtain ⟨S18, e17, h⟩ := g
  refine g_callV (As := [.int 0, .int v12, .int x2]) (rest := []) hF hM (c_X3_order e17) k_X3_order u295 u296 u297 rfl rfl t16 rfl hl.1 rfl (Nat.le_of_ble_eq_true rfl) dX0_isSortSound_21 ⟨(Nat.le_of_ble_eq_true rfl), (Nat.le_of_ble_eq_true rfl)⟩ ⟨(Nat.le_of_ble_eq_true rfl), (Nat.le_of_ble_eq_true rfl)⟩ (fun H locs hM => ?_)
  refine lv_iconst (v := 0) hx hb dX0_isSortSound_24 (by decide) ?_
  refine lv_istore_n (i := 3) (lv' := [(3, .int 0), (0, va_rf (some a0)), (1, va_rf x1), (2, .int x2)]) hx hb dX0_isSortSound_25 rfl hl (by decide) rfl (fun ls hl => ?_)
  refine lv_iconst (v := 0) hx hb dX0_isSortSound_26 (by decide) ?_
  refine lv_istore (i := 4) (lv' := [(4, .int 0), (3, .int 0), (0, va_rf (some a0)), (1, va_rf x1), (2, .int x2)]) hx hb dX0_isSortSound_27 hl (by decide) rfl (fun ls hl => ?_)
  refine W.widen (k := 0) (n := 0) (Nat.le_of_ble_eq_true rfl) (Nat.le_of_ble_eq_true rfl) ?_
  exact JL29 gN _ _ _ _ _ h _ _ _ hM (lv_sub hl [2, 3, 4, 1, 0] rfl)
abbrev rm_X0_isTurnSound : Room := { frames := 4, cells := 0, slots := 0, locals := 91 }
theorem k_X0_isTurnSound : gKc yX0_isTurnSound cX0_isTurnSound 4 (some .boolean) 1 := ⟨u323, u66, by decide +kernel, by decide +kernel, by decide +kernel⟩
set_option maxHeartbeats 4000000 in
set_option maxRecDepth 100000 in
theorem c_X0_isTurnSound {l : Launch} {D : va_G} {Y : Nat → ClassId} {S : GS} {hs : Nat} {a0 : Nat} {x1 : Option Nat} {r : Int32} {S' : GS} (h : f_X0_isTurnSound S a0 x1 = some (r, S')) : gMet l yX0_isTurnSound (gWs yX0_isTurnSound cX0_isTurnSound 4 (some .boolean)) rm_X0_isTurnSound [va_rf (some a0), va_rf x1] D Y S hs (some (.int r)) S' hs := by
  refine g_ofW (by decide +kernel) (Or.inl ⟨(Nat.le_of_ble_eq_true rfl), (List.forall_mem_cons.mpr ⟨rf_cat _, (List.forall_mem_cons.mpr ⟨rf_cat _, (fun _ h => absurd h List.not_mem_nil)⟩)⟩)⟩) ?_
  intro p e s m args below meth c ls hsz hname hF hM hl
  have hl : lv_has ls 4 [(0, va_rf (some a0)), (1, va_rf x1)] := by rw [g_args [va_rf (some a0), va_rf x1] 0 (List.forall_mem_cons.mpr ⟨rf_cat _, (List.forall_mem_cons.mpr ⟨rf_cat _, (fun _ h => absurd h List.not_mem_nil)⟩)⟩)] at hl; exact hl
  have hF : gF p s m args meth c RX0 cX0_isTurnSound 4 (some .boolean) D Y (gA S hs) := hF
  have hx := hF.1
  have hb := hF.2.1
  have JL24 : ∀ (n : Nat) (T24 : GS) (x1 : Option Nat) (x2 : Int32) (x3 : Int32), f_X0_isTurnSound_L24 a0 n T24 x1 x2 x3 = some (r, S') → ∀ (H : Heap) (locs : List Loc) (ls : Array Slot), gM D Y (gA S hs) s.heap T24 hs H locs → lv_has ls 4 [(0, va_rf (some a0)), (1, va_rf x1), (2, .int x2), (3, .int x3)] → W p l e rm_X0_isTurnSound s m args below meth c H locs 0 0 (MQ below (gQ (some (.int r)) D Y S' hs (gA S hs)) args s rm_X0_isTurnSound.cells rm_X0_isTurnSound.slots (gA S hs)) (F0 m 24 ls []) := by
    intro n
    induction n with
    | zero => intro T24 x1 x2 x3 h; unfold f_X0_isTurnSound_L24 at h; exact nomatch h
    | succ n ih =>
      intro T24 x1 x2 x3 h H locs ls hM hl
      unfold f_X0_isTurnSound_L24 at h
      refine lv_iload_n hx hb dX0_isTurnSound_24 rfl (lv_at hl 3 rfl) ?_
      refine lv_iload_n hx hb dX0_isTurnSound_25 rfl (lv_at hl 2 rfl) ?_
      refine lv_icmp_ge (tgt := 54) hx hb dX0_isTurnSound_26 (by decide) (fun c20 => ?_) (fun c20 => ?_)
      · replace h := (if_pos c20).symm.trans h
        refine g_aload_n hx hb dX0_isTurnSound_54 rfl (lv_at hl 0 rfl) ?_
        have g := gbind h
        clear h
        obtain ⟨v21, e22, h⟩ := g
        refine g_getR hF hM fdX0 e22 (by decide) rfl u167 dX0_isTurnSound_55 ?_
        refine lv_iconst (v := 0) hx hb dX0_isTurnSound_58 (by decide) ?_
        refine lv_iload_n hx hb dX0_isTurnSound_59 rfl (lv_at hl 2 rfl) ?_
        have g := gbind h
        clear h
        obtain ⟨a23, e24, h⟩ := g
        have t25 := (gtk_of e24).2
        rw [(gtk_of e24).1]
        have g := gbind h
        clear h
        obtain ⟨S27, e26, h⟩ := g
        refine g_callV (As := [.int 0, .int x2]) (rest := []) hF hM (c_X3_reverse e26) k_X3_reverse u324 u325 u326 rfl rfl t25 rfl hl.1 rfl (Nat.le_of_ble_eq_true rfl) dX0_isTurnSound_60 ⟨(Nat.le_of_ble_eq_true rfl), (Nat.le_of_ble_eq_true rfl)⟩ ⟨(Nat.le_of_ble_eq_true rfl), (Nat.le_of_ble_eq_true rfl)⟩ (fun H locs hM => ?_)
        refine g_aload_n hx hb dX0_isTurnSound_63 rfl (lv_at hl 0 rfl) ?_
        have g := gbind h
        clear h
        obtain ⟨v28, e29, h⟩ := g
        refine g_getR hF hM fdX0 e29 (by decide) rfl u168 dX0_isTurnSound_64 ?_
        refine lv_iconst (v := 0) hx hb dX0_isTurnSound_67 (by decide) ?_
        refine g_aload_n hx hb dX0_isTurnSound_68 rfl (lv_at hl 1 rfl) ?_
        have g := gbind h
        clear h
        obtain ⟨a30, e31, h⟩ := g
        have t32 := (gtk_of e31).2
        rw [(gtk_of e31).1]
        have g := gbind h
        clear h
        obtain ⟨v34, e33, h⟩ := g
        refine g_callV (As := [.int 0, va_rf x1]) (rest := []) hF hM (c_X1_standsAt e33) k_X1_standsAt u328 u329 u330 rfl rfl t32 rfl hl.1 rfl (Nat.le_of_ble_eq_true rfl) dX0_isTurnSound_69 ⟨(Nat.le_of_ble_eq_true rfl), (Nat.le_of_ble_eq_true rfl)⟩ ⟨(Nat.le_of_ble_eq_true rfl), (Nat.le_of_ble_eq_true rfl)⟩ (fun H locs hM => ?_)
        have g := gckE h
        clear h
        obtain ⟨q35, h⟩ := g
        obtain ⟨q1, q2⟩ := Prod.mk.inj (Option.some.inj h)
        rw [← q1, ← q2]
        exact g_iret hF hM rfl (gnr_of (Or.inr (Or.inl rfl)) q35).1 dX0_isTurnSound_72 (Nat.le_of_ble_eq_true rfl) (Nat.le_of_ble_eq_true rfl)
      · replace h := (if_neg c20).symm.trans h
        refine g_aload_n hx hb dX0_isTurnSound_29 rfl (lv_at hl 0 rfl) ?_
        have g := gbind h
        clear h
        obtain ⟨v36, e37, h⟩ := g
        refine g_getR hF hM fdX0 e37 (by decide) rfl u168 dX0_isTurnSound_30 ?_
        refine lv_iload_n hx hb dX0_isTurnSound_33 rfl (lv_at hl 3 rfl) ?_
        refine g_aload_n hx hb dX0_isTurnSound_34 rfl (lv_at hl 1 rfl) ?_
        refine lv_iload_n hx hb dX0_isTurnSound_35 rfl (lv_at hl 2 rfl) ?_
        refine lv_iconst (v := 1) hx hb dX0_isTurnSound_36 (by decide) ?_
        refine lv_isub hx hb dX0_isTurnSound_37 ?_
        refine lv_iload_n hx hb dX0_isTurnSound_38 rfl (lv_at hl 3 rfl) ?_
        refine lv_isub hx hb dX0_isTurnSound_39 ?_
        have g := gbind h
        clear h
        obtain ⟨a38, e39, h⟩ := g
        have t40 := (gtk_of e39).2
        rw [(gtk_of e39).1]
        have g := gbind h
        clear h
        obtain ⟨v42, e41, h⟩ := g
        refine g_callV (As := [.int x3, va_rf x1, .int ((x2 - 1) - x3)]) (rest := []) hF hM (c_X1_isAlike e41) k_X1_isAlike u310 u311 u312 rfl rfl t40 rfl hl.1 rfl (Nat.le_of_ble_eq_true rfl) dX0_isTurnSound_40 ⟨(Nat.le_of_ble_eq_true rfl), (Nat.le_of_ble_eq_true rfl)⟩ ⟨(Nat.le_of_ble_eq_true rfl), (Nat.le_of_ble_eq_true rfl)⟩ (fun H locs hM => ?_)
        refine lv_if_ne (tgt := 48) hx hb dX0_isTurnSound_43 (by decide) (fun c43 => ?_) (fun c43 => ?_)
        · replace h := (if_neg c43).symm.trans h
          refine lv_iinc (v := (x3 + 1)) (lv' := [(3, .int (x3 + 1)), (0, va_rf (some a0)), (1, va_rf x1), (2, .int x2)]) hx hb dX0_isTurnSound_48 hl (k := 3) rfl rfl (by decide) rfl (fun ls hl => ?_)
          refine lv_goto (tgt := 24) hx hb dX0_isTurnSound_51 (by decide) ?_
          refine W.widen (k := 0) (n := 0) (Nat.le_of_ble_eq_true rfl) (Nat.le_of_ble_eq_true rfl) ?_
          exact ih _ _ _ _ h _ _ _ hM (lv_sub hl [1, 2, 3, 0] rfl)
        · replace h := (if_pos c43).symm.trans h
          refine lv_iconst (v := 0) hx hb dX0_isTurnSound_46 (by decide) ?_
          obtain ⟨q1, q2⟩ := Prod.mk.inj (Option.some.inj h)
          rw [← q1, ← q2]
          exact g_iret hF hM rfl rfl dX0_isTurnSound_47 (Nat.le_of_ble_eq_true rfl) (Nat.le_of_ble_eq_true rfl)
  unfold f_X0_isTurnSound at h
  refine g_aload_n hx hb dX0_isTurnSound_0 rfl (lv_at hl 1 rfl) ?_
  have g := gbind h
  clear h
  obtain ⟨a1, e2, h⟩ := g
  have t3 := (gtk_of e2).2
  rw [(gtk_of e2).1]
  have g := gbind h
  clear h
  obtain ⟨v5, e4, h⟩ := g
  refine g_callV (As := []) (rest := []) hF hM (c_X1_count e4) k_X1_count u257 u196 u197 rfl rfl t3 rfl hl.1 rfl (Nat.le_of_ble_eq_true rfl) dX0_isTurnSound_1 ⟨(Nat.le_of_ble_eq_true rfl), (Nat.le_of_ble_eq_true rfl)⟩ ⟨(Nat.le_of_ble_eq_true rfl), (Nat.le_of_ble_eq_true rfl)⟩ (fun H locs hM => ?_)
  refine lv_istore_n (i := 2) (lv' := [(2, .int v5), (0, va_rf (some a0)), (1, va_rf x1)]) hx hb dX0_isTurnSound_4 rfl hl (by decide) (by simp [rf_cat, ic_cat, lc_cat]) (fun ls hl => ?_)
  refine g_aload_n hx hb dX0_isTurnSound_5 rfl (lv_at hl 1 rfl) ?_
  have g := gbind h
  clear h
  obtain ⟨v6, e7, h⟩ := g
  refine g_getR hF hM fdX0 e7 (by decide) rfl u167 dX0_isTurnSound_6 ?_
  refine g_aload_n hx hb dX0_isTurnSound_9 rfl (lv_at hl 2 rfl) ?_
  have g := gbind h
  clear h
  obtain ⟨a8, e9, h⟩ := g
  have t10 := (gtk_of e9).2
  rw [(gtk_of e9).1]
  have g := gbind h
  clear h
  obtain ⟨S12, e11, h⟩ := g
  refine g_callV (As := [va_rf x1]) (rest := []) hF hM (c_X3_copyThings e11) k_X3_copyThings u272 u273 u274 rfl rfl t10 rfl hl.1 rfl (Nat.le_of_ble_eq_true rfl) dX0_isTurnSound_10 ⟨(Nat.le_of_ble_eq_true rfl), (Nat.le_of_ble_eq_true rfl)⟩ ⟨(Nat.le_of_ble_eq_true rfl), (Nat.le_of_ble_eq_true rfl)⟩ (fun H locs hM => ?_)
  refine g_aload_n hx hb dX0_isTurnSound_13 rfl (lv_at hl 1 rfl) ?_
  have g := gbind h
  clear h
  obtain ⟨v13, e14, h⟩ := g
  refine g_getR hF hM fdX0 e14 (by decide) rfl u167 dX0_isTurnSound_14 ?_
  refine lv_iconst (v := 0) hx hb dX0_isTurnSound_17 (by decide) ?_
  refine lv_iload_n hx hb dX0_isTurnSound_18 rfl (lv_at hl 0 rfl) ?_
  have g := gbind h
  clear h
  obtain ⟨a15, e16, h⟩ := g
  have t17 := (gtk_of e16).2
  rw [(gtk_of e16).1]
  have g := gbind h
  clear h
  obtain ⟨S19, e18, h⟩ := g
  refine g_callV (As := [.int 0, .int v5]) (rest := []) hF hM (c_X3_reverse e18) k_X3_reverse u324 u325 u326 rfl rfl t17 rfl hl.1 rfl (Nat.le_of_ble_eq_true rfl) dX0_isTurnSound_19 ⟨(Nat.le_of_ble_eq_true rfl), (Nat.le_of_ble_eq_true rfl)⟩ ⟨(Nat.le_of_ble_eq_true rfl), (Nat.le_of_ble_eq_true rfl)⟩ (fun H locs hM => ?_)
  refine lv_iconst (v := 0) hx hb dX0_isTurnSound_22 (by decide) ?_
  refine lv_istore_n (i := 3) (lv' := [(3, .int 0), (2, .int v5), (0, va_rf (some a0)), (1, va_rf x1)]) hx hb dX0_isTurnSound_23 rfl hl (by decide) rfl (fun ls hl => ?_)
  refine W.widen (k := 0) (n := 0) (Nat.le_of_ble_eq_true rfl) (Nat.le_of_ble_eq_true rfl) ?_
  exact JL24 gN _ _ _ _ h _ _ _ hM (lv_sub hl [2, 3, 1, 0] rfl)
abbrev rm_X0_isRotateSound : Room := { frames := 4, cells := 0, slots := 0, locals := 93 }
theorem k_X0_isRotateSound : gKc yX0_isRotateSound cX0_isRotateSound 4 (some .boolean) 1 := ⟨u336, u66, by decide +kernel, by decide +kernel, by decide +kernel⟩
set_option maxHeartbeats 4000000 in
set_option maxRecDepth 100000 in
theorem c_X0_isRotateSound {l : Launch} {D : va_G} {Y : Nat → ClassId} {S : GS} {hs : Nat} {a0 : Nat} {x1 : Option Nat} {r : Int32} {S' : GS} (h : f_X0_isRotateSound S a0 x1 = some (r, S')) : gMet l yX0_isRotateSound (gWs yX0_isRotateSound cX0_isRotateSound 4 (some .boolean)) rm_X0_isRotateSound [va_rf (some a0), va_rf x1] D Y S hs (some (.int r)) S' hs := by
  refine g_ofW (by decide +kernel) (Or.inl ⟨(Nat.le_of_ble_eq_true rfl), (List.forall_mem_cons.mpr ⟨rf_cat _, (List.forall_mem_cons.mpr ⟨rf_cat _, (fun _ h => absurd h List.not_mem_nil)⟩)⟩)⟩) ?_
  intro p e s m args below meth c ls hsz hname hF hM hl
  have hl : lv_has ls 4 [(0, va_rf (some a0)), (1, va_rf x1)] := by rw [g_args [va_rf (some a0), va_rf x1] 0 (List.forall_mem_cons.mpr ⟨rf_cat _, (List.forall_mem_cons.mpr ⟨rf_cat _, (fun _ h => absurd h List.not_mem_nil)⟩)⟩)] at hl; exact hl
  have hF : gF p s m args meth c RX0 cX0_isRotateSound 4 (some .boolean) D Y (gA S hs) := hF
  have hx := hF.1
  have hb := hF.2.1
  have JL25 : ∀ (n : Nat) (T25 : GS) (x1 : Option Nat) (x2 : Int32) (x3 : Int32), f_X0_isRotateSound_L25 a0 n T25 x1 x2 x3 = some (r, S') → ∀ (H : Heap) (locs : List Loc) (ls : Array Slot), gM D Y (gA S hs) s.heap T25 hs H locs → lv_has ls 4 [(0, va_rf (some a0)), (1, va_rf x1), (2, .int x2), (3, .int x3)] → W p l e rm_X0_isRotateSound s m args below meth c H locs 0 0 (MQ below (gQ (some (.int r)) D Y S' hs (gA S hs)) args s rm_X0_isRotateSound.cells rm_X0_isRotateSound.slots (gA S hs)) (F0 m 25 ls []) := by
    intro n
    induction n with
    | zero => intro T25 x1 x2 x3 h; unfold f_X0_isRotateSound_L25 at h; exact nomatch h
    | succ n ih =>
      intro T25 x1 x2 x3 h H locs ls hM hl
      unfold f_X0_isRotateSound_L25 at h
      refine lv_iload_n hx hb dX0_isRotateSound_25 rfl (lv_at hl 3 rfl) ?_
      refine lv_iload_n hx hb dX0_isRotateSound_26 rfl (lv_at hl 2 rfl) ?_
      refine lv_icmp_ge (tgt := 55) hx hb dX0_isRotateSound_27 (by decide) (fun c20 => ?_) (fun c20 => ?_)
      · replace h := (if_pos c20).symm.trans h
        refine g_aload_n hx hb dX0_isRotateSound_55 rfl (lv_at hl 0 rfl) ?_
        have g := gbind h
        clear h
        obtain ⟨v21, e22, h⟩ := g
        refine g_getR hF hM fdX0 e22 (by decide) rfl u167 dX0_isRotateSound_56 ?_
        refine lv_iconst (v := 0) hx hb dX0_isRotateSound_59 (by decide) ?_
        refine lv_iload_n hx hb dX0_isRotateSound_60 rfl (lv_at hl 2 rfl) ?_
        refine lv_bipush (v := (-5)) hx hb dX0_isRotateSound_61 (by decide) ?_
        have g := gbind h
        clear h
        obtain ⟨a23, e24, h⟩ := g
        have t25 := (gtk_of e24).2
        rw [(gtk_of e24).1]
        have g := gbind h
        clear h
        obtain ⟨S27, e26, h⟩ := g
        refine g_callV (As := [.int 0, .int x2, .int (-5)]) (rest := []) hF hM (c_X3_moveRound e26) k_X3_moveRound u337 u338 u339 rfl rfl t25 rfl hl.1 rfl (Nat.le_of_ble_eq_true rfl) dX0_isRotateSound_63 ⟨(Nat.le_of_ble_eq_true rfl), (Nat.le_of_ble_eq_true rfl)⟩ ⟨(Nat.le_of_ble_eq_true rfl), (Nat.le_of_ble_eq_true rfl)⟩ (fun H locs hM => ?_)
        refine g_aload_n hx hb dX0_isRotateSound_66 rfl (lv_at hl 0 rfl) ?_
        have g := gbind h
        clear h
        obtain ⟨v28, e29, h⟩ := g
        refine g_getR hF hM fdX0 e29 (by decide) rfl u168 dX0_isRotateSound_67 ?_
        refine lv_iconst (v := 0) hx hb dX0_isRotateSound_70 (by decide) ?_
        refine g_aload_n hx hb dX0_isRotateSound_71 rfl (lv_at hl 1 rfl) ?_
        have g := gbind h
        clear h
        obtain ⟨a30, e31, h⟩ := g
        have t32 := (gtk_of e31).2
        rw [(gtk_of e31).1]
        have g := gbind h
        clear h
        obtain ⟨v34, e33, h⟩ := g
        refine g_callV (As := [.int 0, va_rf x1]) (rest := []) hF hM (c_X1_standsAt e33) k_X1_standsAt u328 u329 u330 rfl rfl t32 rfl hl.1 rfl (Nat.le_of_ble_eq_true rfl) dX0_isRotateSound_72 ⟨(Nat.le_of_ble_eq_true rfl), (Nat.le_of_ble_eq_true rfl)⟩ ⟨(Nat.le_of_ble_eq_true rfl), (Nat.le_of_ble_eq_true rfl)⟩ (fun H locs hM => ?_)
        have g := gckE h
        clear h
        obtain ⟨q35, h⟩ := g
        obtain ⟨q1, q2⟩ := Prod.mk.inj (Option.some.inj h)
        rw [← q1, ← q2]
        exact g_iret hF hM rfl (gnr_of (Or.inr (Or.inl rfl)) q35).1 dX0_isRotateSound_75 (Nat.le_of_ble_eq_true rfl) (Nat.le_of_ble_eq_true rfl)
      · replace h := (if_neg c20).symm.trans h
        refine g_aload_n hx hb dX0_isRotateSound_30 rfl (lv_at hl 0 rfl) ?_
        have g := gbind h
        clear h
        obtain ⟨v36, e37, h⟩ := g
        refine g_getR hF hM fdX0 e37 (by decide) rfl u168 dX0_isRotateSound_31 ?_
        refine lv_iload_n hx hb dX0_isRotateSound_34 rfl (lv_at hl 3 rfl) ?_
        refine lv_iconst (v := 5) hx hb dX0_isRotateSound_35 (by decide) ?_
        refine lv_iadd hx hb dX0_isRotateSound_36 ?_
        refine lv_iload_n hx hb dX0_isRotateSound_37 rfl (lv_at hl 2 rfl) ?_
        have g := gckE h
        clear h
        obtain ⟨q38, h⟩ := g
        refine lv_irem hx hb dX0_isRotateSound_38 (of_decide_eq_true q38) ?_
        refine g_aload_n hx hb dX0_isRotateSound_39 rfl (lv_at hl 1 rfl) ?_
        refine lv_iload_n hx hb dX0_isRotateSound_40 rfl (lv_at hl 3 rfl) ?_
        have g := gbind h
        clear h
        obtain ⟨a39, e40, h⟩ := g
        have t41 := (gtk_of e40).2
        rw [(gtk_of e40).1]
        have g := gbind h
        clear h
        obtain ⟨v43, e42, h⟩ := g
        refine g_callV (As := [.int ((x3 + 5) - (x3 + 5) / x2 * x2), va_rf x1, .int x3]) (rest := []) hF hM (c_X1_isAlike e42) k_X1_isAlike u310 u311 u312 rfl rfl t41 rfl hl.1 rfl (Nat.le_of_ble_eq_true rfl) dX0_isRotateSound_41 ⟨(Nat.le_of_ble_eq_true rfl), (Nat.le_of_ble_eq_true rfl)⟩ ⟨(Nat.le_of_ble_eq_true rfl), (Nat.le_of_ble_eq_true rfl)⟩ (fun H locs hM => ?_)
        refine lv_if_ne (tgt := 49) hx hb dX0_isRotateSound_44 (by decide) (fun c44 => ?_) (fun c44 => ?_)
        · replace h := (if_neg c44).symm.trans h
          refine lv_iinc (v := (x3 + 1)) (lv' := [(3, .int (x3 + 1)), (0, va_rf (some a0)), (1, va_rf x1), (2, .int x2)]) hx hb dX0_isRotateSound_49 hl (k := 3) rfl rfl (by decide) rfl (fun ls hl => ?_)
          refine lv_goto (tgt := 25) hx hb dX0_isRotateSound_52 (by decide) ?_
          refine W.widen (k := 0) (n := 0) (Nat.le_of_ble_eq_true rfl) (Nat.le_of_ble_eq_true rfl) ?_
          exact ih _ _ _ _ h _ _ _ hM (lv_sub hl [1, 2, 3, 0] rfl)
        · replace h := (if_pos c44).symm.trans h
          refine lv_iconst (v := 0) hx hb dX0_isRotateSound_47 (by decide) ?_
          obtain ⟨q1, q2⟩ := Prod.mk.inj (Option.some.inj h)
          rw [← q1, ← q2]
          exact g_iret hF hM rfl rfl dX0_isRotateSound_48 (Nat.le_of_ble_eq_true rfl) (Nat.le_of_ble_eq_true rfl)
  unfold f_X0_isRotateSound at h
  refine g_aload_n hx hb dX0_isRotateSound_0 rfl (lv_at hl 1 rfl) ?_
  have g := gbind h
  clear h
  obtain ⟨a1, e2, h⟩ := g
  have t3 := (gtk_of e2).2
  rw [(gtk_of e2).1]
  have g := gbind h
  clear h
  obtain ⟨v5, e4, h⟩ := g
  refine g_callV (As := []) (rest := []) hF hM (c_X1_count e4) k_X1_count u257 u196 u197 rfl rfl t3 rfl hl.1 rfl (Nat.le_of_ble_eq_true rfl) dX0_isRotateSound_1 ⟨(Nat.le_of_ble_eq_true rfl), (Nat.le_of_ble_eq_true rfl)⟩ ⟨(Nat.le_of_ble_eq_true rfl), (Nat.le_of_ble_eq_true rfl)⟩ (fun H locs hM => ?_)
  refine lv_istore_n (i := 2) (lv' := [(2, .int v5), (0, va_rf (some a0)), (1, va_rf x1)]) hx hb dX0_isRotateSound_4 rfl hl (by decide) (by simp [rf_cat, ic_cat, lc_cat]) (fun ls hl => ?_)
  refine g_aload_n hx hb dX0_isRotateSound_5 rfl (lv_at hl 1 rfl) ?_
  have g := gbind h
  clear h
  obtain ⟨v6, e7, h⟩ := g
  refine g_getR hF hM fdX0 e7 (by decide) rfl u167 dX0_isRotateSound_6 ?_
  refine g_aload_n hx hb dX0_isRotateSound_9 rfl (lv_at hl 2 rfl) ?_
  have g := gbind h
  clear h
  obtain ⟨a8, e9, h⟩ := g
  have t10 := (gtk_of e9).2
  rw [(gtk_of e9).1]
  have g := gbind h
  clear h
  obtain ⟨S12, e11, h⟩ := g
  refine g_callV (As := [va_rf x1]) (rest := []) hF hM (c_X3_copyThings e11) k_X3_copyThings u272 u273 u274 rfl rfl t10 rfl hl.1 rfl (Nat.le_of_ble_eq_true rfl) dX0_isRotateSound_10 ⟨(Nat.le_of_ble_eq_true rfl), (Nat.le_of_ble_eq_true rfl)⟩ ⟨(Nat.le_of_ble_eq_true rfl), (Nat.le_of_ble_eq_true rfl)⟩ (fun H locs hM => ?_)
  refine g_aload_n hx hb dX0_isRotateSound_13 rfl (lv_at hl 1 rfl) ?_
  have g := gbind h
  clear h
  obtain ⟨v13, e14, h⟩ := g
  refine g_getR hF hM fdX0 e14 (by decide) rfl u167 dX0_isRotateSound_14 ?_
  refine lv_iconst (v := 0) hx hb dX0_isRotateSound_17 (by decide) ?_
  refine lv_iload_n hx hb dX0_isRotateSound_18 rfl (lv_at hl 0 rfl) ?_
  refine lv_iconst (v := 5) hx hb dX0_isRotateSound_19 (by decide) ?_
  have g := gbind h
  clear h
  obtain ⟨a15, e16, h⟩ := g
  have t17 := (gtk_of e16).2
  rw [(gtk_of e16).1]
  have g := gbind h
  clear h
  obtain ⟨S19, e18, h⟩ := g
  refine g_callV (As := [.int 0, .int v5, .int 5]) (rest := []) hF hM (c_X3_moveRound e18) k_X3_moveRound u337 u338 u339 rfl rfl t17 rfl hl.1 rfl (Nat.le_of_ble_eq_true rfl) dX0_isRotateSound_20 ⟨(Nat.le_of_ble_eq_true rfl), (Nat.le_of_ble_eq_true rfl)⟩ ⟨(Nat.le_of_ble_eq_true rfl), (Nat.le_of_ble_eq_true rfl)⟩ (fun H locs hM => ?_)
  refine lv_iconst (v := 0) hx hb dX0_isRotateSound_23 (by decide) ?_
  refine lv_istore_n (i := 3) (lv' := [(3, .int 0), (2, .int v5), (0, va_rf (some a0)), (1, va_rf x1)]) hx hb dX0_isRotateSound_24 rfl hl (by decide) rfl (fun ls hl => ?_)
  refine W.widen (k := 0) (n := 0) (Nat.le_of_ble_eq_true rfl) (Nat.le_of_ble_eq_true rfl) ?_
  exact JL25 gN _ _ _ _ h _ _ _ hM (lv_sub hl [2, 3, 1, 0] rfl)
abbrev rm_X0_countedSearch : Room := { frames := 3, cells := 0, slots := 0, locals := 65 }
theorem k_X0_countedSearch : gKc yX0_countedSearch cX0_countedSearch 5 (some .int) 2 := ⟨u357, u66, by decide +kernel, by decide +kernel, by decide +kernel⟩
set_option maxHeartbeats 4000000 in
set_option maxRecDepth 100000 in
theorem c_X0_countedSearch {l : Launch} {D : va_G} {Y : Nat → ClassId} {S : GS} {hs : Nat} {a0 : Nat} {x1 : Option Nat} {x2 : Int32} {r : Int32} (h : f_X0_countedSearch S a0 x1 x2 = some r) : gMet l yX0_countedSearch (gWs yX0_countedSearch cX0_countedSearch 5 (some .int)) rm_X0_countedSearch [va_rf (some a0), va_rf x1, .int x2] D Y S hs (some (.int r)) S hs := by
  refine g_ofW (by decide +kernel) (Or.inl ⟨(Nat.le_of_ble_eq_true rfl), (List.forall_mem_cons.mpr ⟨rf_cat _, (List.forall_mem_cons.mpr ⟨rf_cat _, (List.forall_mem_cons.mpr ⟨rfl, (fun _ h => absurd h List.not_mem_nil)⟩)⟩)⟩)⟩) ?_
  intro p e s m args below meth c ls hsz hname hF hM hl
  have hl : lv_has ls 5 [(0, va_rf (some a0)), (1, va_rf x1), (2, .int x2)] := by rw [g_args [va_rf (some a0), va_rf x1, .int x2] 0 (List.forall_mem_cons.mpr ⟨rf_cat _, (List.forall_mem_cons.mpr ⟨rf_cat _, (List.forall_mem_cons.mpr ⟨rfl, (fun _ h => absurd h List.not_mem_nil)⟩)⟩)⟩)] at hl; exact hl
  have hF : gF p s m args meth c RX0 cX0_countedSearch 5 (some .int) D Y (gA S hs) := hF
  have hx := hF.1
  have hb := hF.2.1
  have Jb27 : ∀ (k5 : Option Nat → Int32 → Int32 → Int32 → Option (Int32)) (hk5 : ∀ (x1 : Option Nat) (x2 : Int32) (x3 : Int32) (x4 : Int32), k5 x1 x2 x3 x4 = some r → ∀ (H : Heap) (locs : List Loc) (ls : Array Slot), gM D Y (gA S hs) s.heap S hs H locs → lv_has ls 5 [(1, va_rf x1), (2, .int x2), (3, .int x3), (4, .int x4)] → W p l e rm_X0_countedSearch s m args below meth c H locs 0 0 (MQ below (gQ (some (.int r)) D Y S hs (gA S hs)) args s rm_X0_countedSearch.cells rm_X0_countedSearch.slots (gA S hs)) (F0 m 5 ls [])) (x1 : Option Nat) (x2 : Int32) (x3 : Int32) (x4 : Int32), f_X0_countedSearch_b27 k5 S a0 x1 x2 x3 x4 = some r → ∀ (H : Heap) (locs : List Loc) (ls : Array Slot), gM D Y (gA S hs) s.heap S hs H locs → lv_has ls 5 [(1, va_rf x1), (2, .int x2), (3, .int x3), (4, .int x4)] → W p l e rm_X0_countedSearch s m args below meth c H locs 0 0 (MQ below (gQ (some (.int r)) D Y S hs (gA S hs)) args s rm_X0_countedSearch.cells rm_X0_countedSearch.slots (gA S hs)) (F0 m 27 ls []) := by
    intro k5 hk5 x1 x2 x3 x4 h H locs ls hM hl
    unfold f_X0_countedSearch_b27 at h
    refine lv_iinc (v := (x4 + 1)) (lv' := [(4, .int (x4 + 1)), (1, va_rf x1), (2, .int x2), (3, .int x3)]) hx hb dX0_countedSearch_27 hl (k := 3) rfl rfl (by decide) rfl (fun ls hl => ?_)
    refine lv_goto (tgt := 5) hx hb dX0_countedSearch_30 (by decide) ?_
    refine W.widen (k := 0) (n := 0) (Nat.le_of_ble_eq_true rfl) (Nat.le_of_ble_eq_true rfl) ?_
    exact hk5 _ _ _ _ h _ _ _ hM (lv_sub hl [1, 2, 3, 0] rfl)
  have JL5 : ∀ (n : Nat) (x1 : Option Nat) (x2 : Int32) (x3 : Int32) (x4 : Int32), f_X0_countedSearch_L5 S a0 n x1 x2 x3 x4 = some r → ∀ (H : Heap) (locs : List Loc) (ls : Array Slot), gM D Y (gA S hs) s.heap S hs H locs → lv_has ls 5 [(1, va_rf x1), (2, .int x2), (3, .int x3), (4, .int x4)] → W p l e rm_X0_countedSearch s m args below meth c H locs 0 0 (MQ below (gQ (some (.int r)) D Y S hs (gA S hs)) args s rm_X0_countedSearch.cells rm_X0_countedSearch.slots (gA S hs)) (F0 m 5 ls []) := by
    intro n
    induction n with
    | zero => intro x1 x2 x3 x4 h; unfold f_X0_countedSearch_L5 at h; exact nomatch h
    | succ n ih =>
      intro x1 x2 x3 x4 h H locs ls hM hl
      unfold f_X0_countedSearch_L5 at h
      refine lv_iload hx hb dX0_countedSearch_5 (lv_at hl 3 rfl) ?_
      refine g_aload_n hx hb dX0_countedSearch_7 rfl (lv_at hl 0 rfl) ?_
      have g := gbind h
      clear h
      obtain ⟨a1, e2, h⟩ := g
      have t3 := (gtk_of e2).2
      rw [(gtk_of e2).1]
      have g := gbind h
      clear h
      obtain ⟨v5, e4, h⟩ := g
      refine g_callV (As := []) (rest := [.int x4]) hF hM (c_X1_count e4) k_X1_count u257 u196 u197 rfl rfl t3 rfl hl.1 rfl (Nat.le_of_ble_eq_true rfl) dX0_countedSearch_8 ⟨(Nat.le_of_ble_eq_true rfl), (Nat.le_of_ble_eq_true rfl)⟩ ⟨(Nat.le_of_ble_eq_true rfl), (Nat.le_of_ble_eq_true rfl)⟩ (fun H locs hM => ?_)
      refine lv_icmp_ge (tgt := 33) hx hb dX0_countedSearch_11 (by decide) (fun c6 => ?_) (fun c6 => ?_)
      · replace h := (if_pos c6).symm.trans h
        refine g_aload_n hx hb dX0_countedSearch_33 rfl (lv_at hl 0 rfl) ?_
        refine lv_iload_n hx hb dX0_countedSearch_34 rfl (lv_at hl 1 rfl) ?_
        have g := gbind h
        clear h
        obtain ⟨a7, e8, h⟩ := g
        have t9 := (gtk_of e8).2
        rw [(gtk_of e8).1]
        have g := gbind h
        clear h
        obtain ⟨v11, e10, h⟩ := g
        refine g_callV (As := [.int x2]) (rest := []) hF hM (c_X1_countKey e10) k_X1_countKey u358 u359 u360 rfl rfl t9 rfl hl.1 rfl (Nat.le_of_ble_eq_true rfl) dX0_countedSearch_35 ⟨(Nat.le_of_ble_eq_true rfl), (Nat.le_of_ble_eq_true rfl)⟩ ⟨(Nat.le_of_ble_eq_true rfl), (Nat.le_of_ble_eq_true rfl)⟩ (fun H locs hM => ?_)
        refine lv_if_le (tgt := 46) hx hb dX0_countedSearch_38 (by decide) (fun c12 => ?_) (fun c12 => ?_)
        · replace h := (if_pos c12).symm.trans h
          refine lv_iconst (v := (-1)) hx hb dX0_countedSearch_46 (by decide) ?_
          refine lv_iload_n hx hb dX0_countedSearch_47 rfl (lv_at hl 2 rfl) ?_
          refine lv_isub hx hb dX0_countedSearch_48 ?_
          rw [← (Option.some.inj h)]
          exact g_iret hF hM rfl rfl dX0_countedSearch_49 (Nat.le_of_ble_eq_true rfl) (Nat.le_of_ble_eq_true rfl)
        · replace h := (if_neg c12).symm.trans h
          refine lv_bipush (v := 100) hx hb dX0_countedSearch_41 (by decide) ?_
          refine lv_goto (tgt := 49) hx hb dX0_countedSearch_43 (by decide) ?_
          rw [← (Option.some.inj h)]
          exact g_iret hF hM rfl rfl dX0_countedSearch_49 (Nat.le_of_ble_eq_true rfl) (Nat.le_of_ble_eq_true rfl)
      · replace h := (if_neg c6).symm.trans h
        refine g_aload_n hx hb dX0_countedSearch_14 rfl (lv_at hl 0 rfl) ?_
        refine lv_iload hx hb dX0_countedSearch_15 (lv_at hl 3 rfl) ?_
        have g := gbind h
        clear h
        obtain ⟨a13, e14, h⟩ := g
        have t15 := (gtk_of e14).2
        rw [(gtk_of e14).1]
        have g := gbind h
        clear h
        obtain ⟨v17, e16, h⟩ := g
        refine g_callV (As := [.int x4]) (rest := []) hF hM (c_X1_keyOf e16) k_X1_keyOf u349 u226 u227 rfl rfl t15 rfl hl.1 rfl (Nat.le_of_ble_eq_true rfl) dX0_countedSearch_17 ⟨(Nat.le_of_ble_eq_true rfl), (Nat.le_of_ble_eq_true rfl)⟩ ⟨(Nat.le_of_ble_eq_true rfl), (Nat.le_of_ble_eq_true rfl)⟩ (fun H locs hM => ?_)
        refine lv_iload_n hx hb dX0_countedSearch_20 rfl (lv_at hl 1 rfl) ?_
        refine lv_icmp_ge (tgt := 27) hx hb dX0_countedSearch_21 (by decide) (fun c18 => ?_) (fun c18 => ?_)
        · replace h := (if_pos c18).symm.trans h
          refine W.widen (k := 0) (n := 0) (Nat.le_of_ble_eq_true rfl) (Nat.le_of_ble_eq_true rfl) ?_
          exact Jb27 _ ih _ _ _ _ h _ _ _ hM (lv_sub hl [0, 1, 2, 3] rfl)
        · replace h := (if_neg c18).symm.trans h
          refine lv_iinc (v := (x3 + 1)) (lv' := [(3, .int (x3 + 1)), (1, va_rf x1), (2, .int x2), (4, .int x4)]) hx hb dX0_countedSearch_24 hl (k := 2) rfl rfl (by decide) rfl (fun ls hl => ?_)
          refine W.widen (k := 0) (n := 0) (Nat.le_of_ble_eq_true rfl) (Nat.le_of_ble_eq_true rfl) ?_
          exact Jb27 _ ih _ _ _ _ h _ _ _ hM (lv_sub hl [1, 2, 0, 3] rfl)
  unfold f_X0_countedSearch at h
  refine lv_iconst (v := 0) hx hb dX0_countedSearch_0 (by decide) ?_
  refine lv_istore_n (i := 3) (lv' := [(3, .int 0), (0, va_rf (some a0)), (1, va_rf x1), (2, .int x2)]) hx hb dX0_countedSearch_1 rfl hl (by decide) rfl (fun ls hl => ?_)
  refine lv_iconst (v := 0) hx hb dX0_countedSearch_2 (by decide) ?_
  refine lv_istore (i := 4) (lv' := [(4, .int 0), (3, .int 0), (0, va_rf (some a0)), (1, va_rf x1), (2, .int x2)]) hx hb dX0_countedSearch_3 hl (by decide) rfl (fun ls hl => ?_)
  refine W.widen (k := 0) (n := 0) (Nat.le_of_ble_eq_true rfl) (Nat.le_of_ble_eq_true rfl) ?_
  exact JL5 gN _ _ _ _ h _ _ _ hM (lv_sub hl [3, 4, 1, 0] rfl)
abbrev rm_X0_isSearchSound : Room := { frames := 4, cells := 0, slots := 0, locals := 91 }
theorem k_X0_isSearchSound : gKc yX0_isSearchSound cX0_isSearchSound 4 (some .boolean) 1 := ⟨u348, u66, by decide +kernel, by decide +kernel, by decide +kernel⟩
set_option maxHeartbeats 4000000 in
set_option maxRecDepth 100000 in
theorem c_X0_isSearchSound {l : Launch} {D : va_G} {Y : Nat → ClassId} {S : GS} {hs : Nat} {a0 : Nat} {x1 : Option Nat} {r : Int32} {S' : GS} (h : f_X0_isSearchSound S a0 x1 = some (r, S')) : gMet l yX0_isSearchSound (gWs yX0_isSearchSound cX0_isSearchSound 4 (some .boolean)) rm_X0_isSearchSound [va_rf (some a0), va_rf x1] D Y S hs (some (.int r)) S' hs := by
  refine g_ofW (by decide +kernel) (Or.inl ⟨(Nat.le_of_ble_eq_true rfl), (List.forall_mem_cons.mpr ⟨rf_cat _, (List.forall_mem_cons.mpr ⟨rf_cat _, (fun _ h => absurd h List.not_mem_nil)⟩)⟩)⟩) ?_
  intro p e s m args below meth c ls hsz hname hF hM hl
  have hl : lv_has ls 4 [(0, va_rf (some a0)), (1, va_rf x1)] := by rw [g_args [va_rf (some a0), va_rf x1] 0 (List.forall_mem_cons.mpr ⟨rf_cat _, (List.forall_mem_cons.mpr ⟨rf_cat _, (fun _ h => absurd h List.not_mem_nil)⟩)⟩)] at hl; exact hl
  have hF : gF p s m args meth c RX0 cX0_isSearchSound 4 (some .boolean) D Y (gA S hs) := hF
  have hx := hF.1
  have hb := hF.2.1
  have JL27 : ∀ (n : Nat) (T27 : GS) (x1 : Option Nat) (x2 : Int32), f_X0_isSearchSound_L27 a0 n T27 x1 x2 = some (r, S') → ∀ (H : Heap) (locs : List Loc) (ls : Array Slot), gM D Y (gA S hs) s.heap T27 hs H locs → lv_has ls 4 [(0, va_rf (some a0)), (1, va_rf x1), (2, .int x2)] → W p l e rm_X0_isSearchSound s m args below meth c H locs 0 0 (MQ below (gQ (some (.int r)) D Y S' hs (gA S hs)) args s rm_X0_isSearchSound.cells rm_X0_isSearchSound.slots (gA S hs)) (F0 m 27 ls []) := by
    intro n
    induction n with
    | zero => intro T27 x1 x2 h; unfold f_X0_isSearchSound_L27 at h; exact nomatch h
    | succ n ih =>
      intro T27 x1 x2 h H locs ls hM hl
      unfold f_X0_isSearchSound_L27 at h
      refine lv_iload_n hx hb dX0_isSearchSound_27 rfl (lv_at hl 2 rfl) ?_
      refine g_aload_n hx hb dX0_isSearchSound_28 rfl (lv_at hl 1 rfl) ?_
      have g := gbind h
      clear h
      obtain ⟨a19, e20, h⟩ := g
      have t21 := (gtk_of e20).2
      rw [(gtk_of e20).1]
      have g := gbind h
      clear h
      obtain ⟨v23, e22, h⟩ := g
      refine g_callV (As := []) (rest := [.int x2]) hF hM (c_X1_count e22) k_X1_count u257 u196 u197 rfl rfl t21 rfl hl.1 rfl (Nat.le_of_ble_eq_true rfl) dX0_isSearchSound_29 ⟨(Nat.le_of_ble_eq_true rfl), (Nat.le_of_ble_eq_true rfl)⟩ ⟨(Nat.le_of_ble_eq_true rfl), (Nat.le_of_ble_eq_true rfl)⟩ (fun H locs hM => ?_)
      refine lv_icmp_ge (tgt := 83) hx hb dX0_isSearchSound_32 (by decide) (fun c24 => ?_) (fun c24 => ?_)
      · replace h := (if_pos c24).symm.trans h
        refine lv_iconst (v := 1) hx hb dX0_isSearchSound_83 (by decide) ?_
        obtain ⟨q1, q2⟩ := Prod.mk.inj (Option.some.inj h)
        rw [← q1, ← q2]
        exact g_iret hF hM rfl rfl dX0_isSearchSound_84 (Nat.le_of_ble_eq_true rfl) (Nat.le_of_ble_eq_true rfl)
      · replace h := (if_neg c24).symm.trans h
        refine g_aload_n hx hb dX0_isSearchSound_35 rfl (lv_at hl 1 rfl) ?_
        refine lv_iload_n hx hb dX0_isSearchSound_36 rfl (lv_at hl 2 rfl) ?_
        have g := gbind h
        clear h
        obtain ⟨a25, e26, h⟩ := g
        have t27 := (gtk_of e26).2
        rw [(gtk_of e26).1]
        have g := gbind h
        clear h
        obtain ⟨v29, e28, h⟩ := g
        refine g_callV (As := [.int x2]) (rest := []) hF hM (c_X1_keyOf e28) k_X1_keyOf u349 u226 u227 rfl rfl t27 rfl hl.1 rfl (Nat.le_of_ble_eq_true rfl) dX0_isSearchSound_37 ⟨(Nat.le_of_ble_eq_true rfl), (Nat.le_of_ble_eq_true rfl)⟩ ⟨(Nat.le_of_ble_eq_true rfl), (Nat.le_of_ble_eq_true rfl)⟩ (fun H locs hM => ?_)
        refine lv_istore_n (i := 3) (lv' := [(3, .int v29), (0, va_rf (some a0)), (1, va_rf x1), (2, .int x2)]) hx hb dX0_isSearchSound_40 rfl hl (by decide) rfl (fun ls hl => ?_)
        refine g_aload_n hx hb dX0_isSearchSound_41 rfl (lv_at hl 1 rfl) ?_
        have g := gbind h
        clear h
        obtain ⟨v30, e31, h⟩ := g
        refine g_getR hF hM fdX0 e31 (by decide) rfl u168 dX0_isSearchSound_42 ?_
        refine lv_iload_n hx hb dX0_isSearchSound_45 rfl (lv_at hl 0 rfl) ?_
        have g := gbind h
        clear h
        obtain ⟨a32, e33, h⟩ := g
        have t34 := (gtk_of e33).2
        rw [(gtk_of e33).1]
        have g := gbind h
        clear h
        obtain ⟨v36, e35, h⟩ := g
        refine g_callV (As := [.int v29]) (rest := []) hF hM (c_X1_searchKey e35) k_X1_searchKey u350 u351 u352 rfl rfl t34 rfl hl.1 rfl (Nat.le_of_ble_eq_true rfl) dX0_isSearchSound_46 ⟨(Nat.le_of_ble_eq_true rfl), (Nat.le_of_ble_eq_true rfl)⟩ ⟨(Nat.le_of_ble_eq_true rfl), (Nat.le_of_ble_eq_true rfl)⟩ (fun H locs hM => ?_)
        refine lv_bipush (v := 100) hx hb dX0_isSearchSound_49 (by decide) ?_
        refine lv_icmp_ne (tgt := 75) hx hb dX0_isSearchSound_51 (by decide) (fun c37 => ?_) (fun c37 => ?_)
        · replace h := (if_neg c37).symm.trans h
          refine lv_iconst (v := 0) hx hb dX0_isSearchSound_75 (by decide) ?_
          obtain ⟨q1, q2⟩ := Prod.mk.inj (Option.some.inj h)
          rw [← q1, ← q2]
          exact g_iret hF hM rfl rfl dX0_isSearchSound_76 (Nat.le_of_ble_eq_true rfl) (Nat.le_of_ble_eq_true rfl)
        · replace h := (if_pos c37).symm.trans h
          refine g_aload_n hx hb dX0_isSearchSound_54 rfl (lv_at hl 1 rfl) ?_
          have g := gbind h
          clear h
          obtain ⟨v38, e39, h⟩ := g
          refine g_getR hF hM fdX0 e39 (by decide) rfl u168 dX0_isSearchSound_55 ?_
          refine lv_iload_n hx hb dX0_isSearchSound_58 rfl (lv_at hl 0 rfl) ?_
          refine lv_iconst (v := 1) hx hb dX0_isSearchSound_59 (by decide) ?_
          refine lv_iadd hx hb dX0_isSearchSound_60 ?_
          have g := gbind h
          clear h
          obtain ⟨a40, e41, h⟩ := g
          have t42 := (gtk_of e41).2
          rw [(gtk_of e41).1]
          have g := gbind h
          clear h
          obtain ⟨v44, e43, h⟩ := g
          refine g_callV (As := [.int (v29 + 1)]) (rest := []) hF hM (c_X1_searchKey e43) k_X1_searchKey u350 u351 u352 rfl rfl t42 rfl hl.1 rfl (Nat.le_of_ble_eq_true rfl) dX0_isSearchSound_61 ⟨(Nat.le_of_ble_eq_true rfl), (Nat.le_of_ble_eq_true rfl)⟩ ⟨(Nat.le_of_ble_eq_true rfl), (Nat.le_of_ble_eq_true rfl)⟩ (fun H locs hM => ?_)
          refine g_aload_n hx hb dX0_isSearchSound_64 rfl (lv_at hl 1 rfl) ?_
          refine g_aload_n hx hb dX0_isSearchSound_65 rfl (lv_at hl 2 rfl) ?_
          refine lv_iload_n hx hb dX0_isSearchSound_66 rfl (lv_at hl 0 rfl) ?_
          refine lv_iconst (v := 1) hx hb dX0_isSearchSound_67 (by decide) ?_
          refine lv_iadd hx hb dX0_isSearchSound_68 ?_
          have g := gckE h
          clear h
          obtain ⟨t45, h⟩ := g
          have t45 := eq_of_beq t45
          have g := gbind h
          clear h
          obtain ⟨v47, e46, h⟩ := g
          refine g_callV (As := [va_rf x1, .int (v29 + 1)]) (rest := [.int v44]) hF hM (c_X0_countedSearch e46) k_X0_countedSearch u354 u356 u8 rfl rfl t45 rfl hl.1 rfl (Nat.le_of_ble_eq_true rfl) dX0_isSearchSound_69 ⟨(Nat.le_of_ble_eq_true rfl), (Nat.le_of_ble_eq_true rfl)⟩ ⟨(Nat.le_of_ble_eq_true rfl), (Nat.le_of_ble_eq_true rfl)⟩ (fun H locs hM => ?_)
          refine lv_icmp_eq (tgt := 77) hx hb dX0_isSearchSound_72 (by decide) (fun c48 => ?_) (fun c48 => ?_)
          · replace h := (if_pos c48).symm.trans h
            refine lv_iinc (v := (x2 + 1)) (lv' := [(2, .int (x2 + 1)), (3, .int v29), (0, va_rf (some a0)), (1, va_rf x1)]) hx hb dX0_isSearchSound_77 hl (k := 3) rfl rfl (by decide) (by simp [rf_cat, ic_cat, lc_cat]) (fun ls hl => ?_)
            refine lv_goto (tgt := 27) hx hb dX0_isSearchSound_80 (by decide) ?_
            refine W.widen (k := 0) (n := 0) (Nat.le_of_ble_eq_true rfl) (Nat.le_of_ble_eq_true rfl) ?_
            exact ih _ _ _ h _ _ _ hM (lv_sub hl [2, 3, 0] rfl)
          · replace h := (if_neg c48).symm.trans h
            refine lv_iconst (v := 0) hx hb dX0_isSearchSound_75 (by decide) ?_
            obtain ⟨q1, q2⟩ := Prod.mk.inj (Option.some.inj h)
            rw [← q1, ← q2]
            exact g_iret hF hM rfl rfl dX0_isSearchSound_76 (Nat.le_of_ble_eq_true rfl) (Nat.le_of_ble_eq_true rfl)
  unfold f_X0_isSearchSound at h
  refine g_aload_n hx hb dX0_isSearchSound_0 rfl (lv_at hl 0 rfl) ?_
  have g := gbind h
  clear h
  obtain ⟨v1, e2, h⟩ := g
  refine g_getR hF hM fdX0 e2 (by decide) rfl u167 dX0_isSearchSound_1 ?_
  refine g_aload_n hx hb dX0_isSearchSound_4 rfl (lv_at hl 1 rfl) ?_
  have g := gbind h
  clear h
  obtain ⟨a3, e4, h⟩ := g
  have t5 := (gtk_of e4).2
  rw [(gtk_of e4).1]
  have g := gbind h
  clear h
  obtain ⟨S7, e6, h⟩ := g
  refine g_callV (As := [va_rf x1]) (rest := []) hF hM (c_X3_copyThings e6) k_X3_copyThings u272 u273 u274 rfl rfl t5 rfl hl.1 rfl (Nat.le_of_ble_eq_true rfl) dX0_isSearchSound_5 ⟨(Nat.le_of_ble_eq_true rfl), (Nat.le_of_ble_eq_true rfl)⟩ ⟨(Nat.le_of_ble_eq_true rfl), (Nat.le_of_ble_eq_true rfl)⟩ (fun H locs hM => ?_)
  refine g_aload_n hx hb dX0_isSearchSound_8 rfl (lv_at hl 0 rfl) ?_
  have g := gbind h
  clear h
  obtain ⟨v8, e9, h⟩ := g
  refine g_getR hF hM fdX0 e9 (by decide) rfl u167 dX0_isSearchSound_9 ?_
  refine lv_iconst (v := 0) hx hb dX0_isSearchSound_12 (by decide) ?_
  refine g_aload_n hx hb dX0_isSearchSound_13 rfl (lv_at hl 0 rfl) ?_
  have g := gbind h
  clear h
  obtain ⟨v10, e11, h⟩ := g
  refine g_getR hF hM fdX0 e11 (by decide) rfl u167 dX0_isSearchSound_14 ?_
  have g := gbind h
  clear h
  obtain ⟨v12, e13, h⟩ := g
  refine g_getI hF hM fdX3 e13 (by decide) rfl u108 dX0_isSearchSound_17 ?_
  refine lv_bipush (v := 107) hx hb dX0_isSearchSound_20 (by decide) ?_
  have g := gbind h
  clear h
  obtain ⟨a14, e15, h⟩ := g
  have t16 := (gtk_of e15).2
  rw [(gtk_of e15).1]
  have g := gbind h
  clear h
  obtain ⟨S18, e17, h⟩ := g
  refine g_callV (As := [.int 0, .int v12, .int 107]) (rest := []) hF hM (c_X3_order e17) k_X3_order u295 u296 u297 rfl rfl t16 rfl hl.1 rfl (Nat.le_of_ble_eq_true rfl) dX0_isSearchSound_22 ⟨(Nat.le_of_ble_eq_true rfl), (Nat.le_of_ble_eq_true rfl)⟩ ⟨(Nat.le_of_ble_eq_true rfl), (Nat.le_of_ble_eq_true rfl)⟩ (fun H locs hM => ?_)
  refine lv_iconst (v := 0) hx hb dX0_isSearchSound_25 (by decide) ?_
  refine lv_istore_n (i := 2) (lv' := [(2, .int 0), (0, va_rf (some a0)), (1, va_rf x1)]) hx hb dX0_isSearchSound_26 rfl hl (by decide) (by simp [rf_cat, ic_cat, lc_cat]) (fun ls hl => ?_)
  refine W.widen (k := 0) (n := 0) (Nat.le_of_ble_eq_true rfl) (Nat.le_of_ble_eq_true rfl) ?_
  exact JL27 gN _ _ _ h _ _ _ hM (lv_sub hl [1, 2, 0] rfl)
abbrev rm_X0_isPaneSound : Room := { frames := 5, cells := 0, slots := 0, locals := 116 }
theorem k_X0_isPaneSound : gKc yX0_isPaneSound cX0_isPaneSound 2 (some .boolean) 1 := ⟨u248, u66, by decide +kernel, by decide +kernel, by decide +kernel⟩
set_option maxHeartbeats 4000000 in
set_option maxRecDepth 100000 in
theorem c_X0_isPaneSound {l : Launch} {D : va_G} {Y : Nat → ClassId} {S : GS} {hs : Nat} {a0 : Nat} {x1 : Option Nat} {r : Int32} {S' : GS} (h : f_X0_isPaneSound S a0 x1 = some (r, S')) : gMet l yX0_isPaneSound (gWs yX0_isPaneSound cX0_isPaneSound 2 (some .boolean)) rm_X0_isPaneSound [va_rf (some a0), va_rf x1] D Y S hs (some (.int r)) S' hs := by
  refine g_ofW (by decide +kernel) (Or.inl ⟨(Nat.le_of_ble_eq_true rfl), (List.forall_mem_cons.mpr ⟨rf_cat _, (List.forall_mem_cons.mpr ⟨rf_cat _, (fun _ h => absurd h List.not_mem_nil)⟩)⟩)⟩) ?_
  intro p e s m args below meth c ls hsz hname hF hM hl
  have hl : lv_has ls 2 [(0, va_rf (some a0)), (1, va_rf x1)] := by rw [g_args [va_rf (some a0), va_rf x1] 0 (List.forall_mem_cons.mpr ⟨rf_cat _, (List.forall_mem_cons.mpr ⟨rf_cat _, (fun _ h => absurd h List.not_mem_nil)⟩)⟩)] at hl; exact hl
  have hF : gF p s m args meth c RX0 cX0_isPaneSound 2 (some .boolean) D Y (gA S hs) := hF
  have hx := hF.1
  have hb := hF.2.1
  unfold f_X0_isPaneSound at h
  refine g_aload_n hx hb dX0_isPaneSound_0 rfl (lv_at hl 1 rfl) ?_
  have g := gbind h
  clear h
  obtain ⟨a1, e2, h⟩ := g
  have t3 := (gtk_of e2).2
  rw [(gtk_of e2).1]
  have g := gbind h
  clear h
  obtain ⟨v5, e4, h⟩ := g
  refine g_callV (As := []) (rest := []) hF hM (c_X1_isList e4) k_X1_isList u249 u250 u251 rfl rfl t3 rfl hl.1 rfl (Nat.le_of_ble_eq_true rfl) dX0_isPaneSound_1 ⟨(Nat.le_of_ble_eq_true rfl), (Nat.le_of_ble_eq_true rfl)⟩ ⟨(Nat.le_of_ble_eq_true rfl), (Nat.le_of_ble_eq_true rfl)⟩ (fun H locs hM => ?_)
  refine lv_if_ne (tgt := 13) hx hb dX0_isPaneSound_4 (by decide) (fun c6 => ?_) (fun c6 => ?_)
  · replace h := (if_neg c6).symm.trans h
    refine g_aload_n hx hb dX0_isPaneSound_13 rfl (lv_at hl 0 rfl) ?_
    refine g_aload_n hx hb dX0_isPaneSound_14 rfl (lv_at hl 1 rfl) ?_
    refine lv_bipush (v := 107) hx hb dX0_isPaneSound_15 (by decide) ?_
    have g := gckE h
    clear h
    obtain ⟨t7, h⟩ := g
    have t7 := eq_of_beq t7
    have g := gb2E h
    clear h
    obtain ⟨v9, S10, e8, h⟩ := g
    refine g_callV (As := [va_rf x1, .int 107]) (rest := []) hF hM (c_X0_isSortSound e8) k_X0_isSortSound u268 u270 u1 rfl rfl t7 rfl hl.1 rfl (Nat.le_of_ble_eq_true rfl) dX0_isPaneSound_17 ⟨(Nat.le_of_ble_eq_true rfl), (Nat.le_of_ble_eq_true rfl)⟩ ⟨(Nat.le_of_ble_eq_true rfl), (Nat.le_of_ble_eq_true rfl)⟩ (fun H locs hM => ?_)
    refine lv_if_eq (tgt := 81) hx hb dX0_isPaneSound_20 (by decide) (fun c11 => ?_) (fun c11 => ?_)
    · replace h := (if_pos c11).symm.trans h
      refine lv_iconst (v := 0) hx hb dX0_isPaneSound_81 (by decide) ?_
      obtain ⟨q1, q2⟩ := Prod.mk.inj (Option.some.inj h)
      rw [← q1, ← q2]
      exact g_iret hF hM rfl rfl dX0_isPaneSound_82 (Nat.le_of_ble_eq_true rfl) (Nat.le_of_ble_eq_true rfl)
    · replace h := (if_neg c11).symm.trans h
      refine g_aload_n hx hb dX0_isPaneSound_23 rfl (lv_at hl 0 rfl) ?_
      refine g_aload_n hx hb dX0_isPaneSound_24 rfl (lv_at hl 1 rfl) ?_
      refine lv_bipush (v := 75) hx hb dX0_isPaneSound_25 (by decide) ?_
      have g := gckE h
      clear h
      obtain ⟨t12, h⟩ := g
      have t12 := eq_of_beq t12
      have g := gb2E h
      clear h
      obtain ⟨v14, S15, e13, h⟩ := g
      refine g_callV (As := [va_rf x1, .int 75]) (rest := []) hF hM (c_X0_isSortSound e13) k_X0_isSortSound u268 u270 u1 rfl rfl t12 rfl hl.1 rfl (Nat.le_of_ble_eq_true rfl) dX0_isPaneSound_27 ⟨(Nat.le_of_ble_eq_true rfl), (Nat.le_of_ble_eq_true rfl)⟩ ⟨(Nat.le_of_ble_eq_true rfl), (Nat.le_of_ble_eq_true rfl)⟩ (fun H locs hM => ?_)
      refine lv_if_eq (tgt := 81) hx hb dX0_isPaneSound_30 (by decide) (fun c16 => ?_) (fun c16 => ?_)
      · replace h := (if_pos c16).symm.trans h
        refine lv_iconst (v := 0) hx hb dX0_isPaneSound_81 (by decide) ?_
        obtain ⟨q1, q2⟩ := Prod.mk.inj (Option.some.inj h)
        rw [← q1, ← q2]
        exact g_iret hF hM rfl rfl dX0_isPaneSound_82 (Nat.le_of_ble_eq_true rfl) (Nat.le_of_ble_eq_true rfl)
      · replace h := (if_neg c16).symm.trans h
        refine g_aload_n hx hb dX0_isPaneSound_33 rfl (lv_at hl 0 rfl) ?_
        refine g_aload_n hx hb dX0_isPaneSound_34 rfl (lv_at hl 1 rfl) ?_
        refine lv_bipush (v := 109) hx hb dX0_isPaneSound_35 (by decide) ?_
        have g := gckE h
        clear h
        obtain ⟨t17, h⟩ := g
        have t17 := eq_of_beq t17
        have g := gb2E h
        clear h
        obtain ⟨v19, S20, e18, h⟩ := g
        refine g_callV (As := [va_rf x1, .int 109]) (rest := []) hF hM (c_X0_isSortSound e18) k_X0_isSortSound u268 u270 u1 rfl rfl t17 rfl hl.1 rfl (Nat.le_of_ble_eq_true rfl) dX0_isPaneSound_37 ⟨(Nat.le_of_ble_eq_true rfl), (Nat.le_of_ble_eq_true rfl)⟩ ⟨(Nat.le_of_ble_eq_true rfl), (Nat.le_of_ble_eq_true rfl)⟩ (fun H locs hM => ?_)
        refine lv_if_eq (tgt := 81) hx hb dX0_isPaneSound_40 (by decide) (fun c21 => ?_) (fun c21 => ?_)
        · replace h := (if_pos c21).symm.trans h
          refine lv_iconst (v := 0) hx hb dX0_isPaneSound_81 (by decide) ?_
          obtain ⟨q1, q2⟩ := Prod.mk.inj (Option.some.inj h)
          rw [← q1, ← q2]
          exact g_iret hF hM rfl rfl dX0_isPaneSound_82 (Nat.le_of_ble_eq_true rfl) (Nat.le_of_ble_eq_true rfl)
        · replace h := (if_neg c21).symm.trans h
          refine g_aload_n hx hb dX0_isPaneSound_43 rfl (lv_at hl 0 rfl) ?_
          refine g_aload_n hx hb dX0_isPaneSound_44 rfl (lv_at hl 1 rfl) ?_
          refine lv_bipush (v := 77) hx hb dX0_isPaneSound_45 (by decide) ?_
          have g := gckE h
          clear h
          obtain ⟨t22, h⟩ := g
          have t22 := eq_of_beq t22
          have g := gb2E h
          clear h
          obtain ⟨v24, S25, e23, h⟩ := g
          refine g_callV (As := [va_rf x1, .int 77]) (rest := []) hF hM (c_X0_isSortSound e23) k_X0_isSortSound u268 u270 u1 rfl rfl t22 rfl hl.1 rfl (Nat.le_of_ble_eq_true rfl) dX0_isPaneSound_47 ⟨(Nat.le_of_ble_eq_true rfl), (Nat.le_of_ble_eq_true rfl)⟩ ⟨(Nat.le_of_ble_eq_true rfl), (Nat.le_of_ble_eq_true rfl)⟩ (fun H locs hM => ?_)
          refine lv_if_eq (tgt := 81) hx hb dX0_isPaneSound_50 (by decide) (fun c26 => ?_) (fun c26 => ?_)
          · replace h := (if_pos c26).symm.trans h
            refine lv_iconst (v := 0) hx hb dX0_isPaneSound_81 (by decide) ?_
            obtain ⟨q1, q2⟩ := Prod.mk.inj (Option.some.inj h)
            rw [← q1, ← q2]
            exact g_iret hF hM rfl rfl dX0_isPaneSound_82 (Nat.le_of_ble_eq_true rfl) (Nat.le_of_ble_eq_true rfl)
          · replace h := (if_neg c26).symm.trans h
            refine g_aload_n hx hb dX0_isPaneSound_53 rfl (lv_at hl 0 rfl) ?_
            refine g_aload_n hx hb dX0_isPaneSound_54 rfl (lv_at hl 1 rfl) ?_
            have g := gckE h
            clear h
            obtain ⟨t27, h⟩ := g
            have t27 := eq_of_beq t27
            have g := gb2E h
            clear h
            obtain ⟨v29, S30, e28, h⟩ := g
            refine g_callV (As := [va_rf x1]) (rest := []) hF hM (c_X0_isTurnSound e28) k_X0_isTurnSound u320 u322 u5 rfl rfl t27 rfl hl.1 rfl (Nat.le_of_ble_eq_true rfl) dX0_isPaneSound_55 ⟨(Nat.le_of_ble_eq_true rfl), (Nat.le_of_ble_eq_true rfl)⟩ ⟨(Nat.le_of_ble_eq_true rfl), (Nat.le_of_ble_eq_true rfl)⟩ (fun H locs hM => ?_)
            refine lv_if_eq (tgt := 81) hx hb dX0_isPaneSound_58 (by decide) (fun c31 => ?_) (fun c31 => ?_)
            · replace h := (if_pos c31).symm.trans h
              refine lv_iconst (v := 0) hx hb dX0_isPaneSound_81 (by decide) ?_
              obtain ⟨q1, q2⟩ := Prod.mk.inj (Option.some.inj h)
              rw [← q1, ← q2]
              exact g_iret hF hM rfl rfl dX0_isPaneSound_82 (Nat.le_of_ble_eq_true rfl) (Nat.le_of_ble_eq_true rfl)
            · replace h := (if_neg c31).symm.trans h
              refine g_aload_n hx hb dX0_isPaneSound_61 rfl (lv_at hl 0 rfl) ?_
              refine g_aload_n hx hb dX0_isPaneSound_62 rfl (lv_at hl 1 rfl) ?_
              have g := gckE h
              clear h
              obtain ⟨t32, h⟩ := g
              have t32 := eq_of_beq t32
              have g := gb2E h
              clear h
              obtain ⟨v34, S35, e33, h⟩ := g
              refine g_callV (As := [va_rf x1]) (rest := []) hF hM (c_X0_isRotateSound e33) k_X0_isRotateSound u333 u335 u6 rfl rfl t32 rfl hl.1 rfl (Nat.le_of_ble_eq_true rfl) dX0_isPaneSound_63 ⟨(Nat.le_of_ble_eq_true rfl), (Nat.le_of_ble_eq_true rfl)⟩ ⟨(Nat.le_of_ble_eq_true rfl), (Nat.le_of_ble_eq_true rfl)⟩ (fun H locs hM => ?_)
              refine lv_if_eq (tgt := 81) hx hb dX0_isPaneSound_66 (by decide) (fun c36 => ?_) (fun c36 => ?_)
              · replace h := (if_pos c36).symm.trans h
                refine lv_iconst (v := 0) hx hb dX0_isPaneSound_81 (by decide) ?_
                obtain ⟨q1, q2⟩ := Prod.mk.inj (Option.some.inj h)
                rw [← q1, ← q2]
                exact g_iret hF hM rfl rfl dX0_isPaneSound_82 (Nat.le_of_ble_eq_true rfl) (Nat.le_of_ble_eq_true rfl)
              · replace h := (if_neg c36).symm.trans h
                refine g_aload_n hx hb dX0_isPaneSound_69 rfl (lv_at hl 0 rfl) ?_
                refine g_aload_n hx hb dX0_isPaneSound_70 rfl (lv_at hl 1 rfl) ?_
                have g := gckE h
                clear h
                obtain ⟨t37, h⟩ := g
                have t37 := eq_of_beq t37
                have g := gb2E h
                clear h
                obtain ⟨v39, S40, e38, h⟩ := g
                refine g_callV (As := [va_rf x1]) (rest := []) hF hM (c_X0_isSearchSound e38) k_X0_isSearchSound u345 u347 u7 rfl rfl t37 rfl hl.1 rfl (Nat.le_of_ble_eq_true rfl) dX0_isPaneSound_71 ⟨(Nat.le_of_ble_eq_true rfl), (Nat.le_of_ble_eq_true rfl)⟩ ⟨(Nat.le_of_ble_eq_true rfl), (Nat.le_of_ble_eq_true rfl)⟩ (fun H locs hM => ?_)
                refine lv_if_eq (tgt := 81) hx hb dX0_isPaneSound_74 (by decide) (fun c41 => ?_) (fun c41 => ?_)
                · replace h := (if_pos c41).symm.trans h
                  refine lv_iconst (v := 0) hx hb dX0_isPaneSound_81 (by decide) ?_
                  obtain ⟨q1, q2⟩ := Prod.mk.inj (Option.some.inj h)
                  rw [← q1, ← q2]
                  exact g_iret hF hM rfl rfl dX0_isPaneSound_82 (Nat.le_of_ble_eq_true rfl) (Nat.le_of_ble_eq_true rfl)
                · replace h := (if_neg c41).symm.trans h
                  refine lv_iconst (v := 1) hx hb dX0_isPaneSound_77 (by decide) ?_
                  refine lv_goto (tgt := 82) hx hb dX0_isPaneSound_78 (by decide) ?_
                  obtain ⟨q1, q2⟩ := Prod.mk.inj (Option.some.inj h)
                  rw [← q1, ← q2]
                  exact g_iret hF hM rfl rfl dX0_isPaneSound_82 (Nat.le_of_ble_eq_true rfl) (Nat.le_of_ble_eq_true rfl)
  · replace h := (if_pos c6).symm.trans h
    refine g_aload_n hx hb dX0_isPaneSound_7 rfl (lv_at hl 0 rfl) ?_
    refine g_aload_n hx hb dX0_isPaneSound_8 rfl (lv_at hl 1 rfl) ?_
    have g := gckE h
    clear h
    obtain ⟨t42, h⟩ := g
    have t42 := eq_of_beq t42
    have g := gbind h
    clear h
    obtain ⟨v44, e43, h⟩ := g
    refine g_callV (As := [va_rf x1]) (rest := []) hF hM (c_X0_areNumbersSound e43) k_X0_areNumbersSound u253 u255 u0 rfl rfl t42 rfl hl.1 rfl (Nat.le_of_ble_eq_true rfl) dX0_isPaneSound_9 ⟨(Nat.le_of_ble_eq_true rfl), (Nat.le_of_ble_eq_true rfl)⟩ ⟨(Nat.le_of_ble_eq_true rfl), (Nat.le_of_ble_eq_true rfl)⟩ (fun H locs hM => ?_)
    have g := gckE h
    clear h
    obtain ⟨q45, h⟩ := g
    obtain ⟨q1, q2⟩ := Prod.mk.inj (Option.some.inj h)
    rw [← q1, ← q2]
    exact g_iret hF hM rfl (gnr_of (Or.inr (Or.inl rfl)) q45).1 dX0_isPaneSound_12 (Nat.le_of_ble_eq_true rfl) (Nat.le_of_ble_eq_true rfl)
abbrev rm_X0_areAllPlacesAlike : Room := { frames := 3, cells := 0, slots := 0, locals := 65 }
theorem k_X0_areAllPlacesAlike : gKc yX0_areAllPlacesAlike cX0_areAllPlacesAlike 5 (some .boolean) 2 := ⟨u386, u66, by decide +kernel, by decide +kernel, by decide +kernel⟩
set_option maxHeartbeats 4000000 in
set_option maxRecDepth 100000 in
theorem c_X0_areAllPlacesAlike {l : Launch} {D : va_G} {Y : Nat → ClassId} {S : GS} {hs : Nat} {a0 : Nat} {x1 : Option Nat} {x2 : Option Nat} {r : Int32} (h : f_X0_areAllPlacesAlike S a0 x1 x2 = some r) : gMet l yX0_areAllPlacesAlike (gWs yX0_areAllPlacesAlike cX0_areAllPlacesAlike 5 (some .boolean)) rm_X0_areAllPlacesAlike [va_rf (some a0), va_rf x1, va_rf x2] D Y S hs (some (.int r)) S hs := by
  refine g_ofW (by decide +kernel) (Or.inl ⟨(Nat.le_of_ble_eq_true rfl), (List.forall_mem_cons.mpr ⟨rf_cat _, (List.forall_mem_cons.mpr ⟨rf_cat _, (List.forall_mem_cons.mpr ⟨rf_cat _, (fun _ h => absurd h List.not_mem_nil)⟩)⟩)⟩)⟩) ?_
  intro p e s m args below meth c ls hsz hname hF hM hl
  have hl : lv_has ls 5 [(0, va_rf (some a0)), (1, va_rf x1), (2, va_rf x2)] := by rw [g_args [va_rf (some a0), va_rf x1, va_rf x2] 0 (List.forall_mem_cons.mpr ⟨rf_cat _, (List.forall_mem_cons.mpr ⟨rf_cat _, (List.forall_mem_cons.mpr ⟨rf_cat _, (fun _ h => absurd h List.not_mem_nil)⟩)⟩)⟩)] at hl; exact hl
  have hF : gF p s m args meth c RX0 cX0_areAllPlacesAlike 5 (some .boolean) D Y (gA S hs) := hF
  have hx := hF.1
  have hb := hF.2.1
  have Jb36 : ∀ (k5 : Option Nat → Option Nat → Int32 → Int32 → Option (Int32)) (hk5 : ∀ (x1 : Option Nat) (x2 : Option Nat) (x3 : Int32) (x4 : Int32), k5 x1 x2 x3 x4 = some r → ∀ (H : Heap) (locs : List Loc) (ls : Array Slot), gM D Y (gA S hs) s.heap S hs H locs → lv_has ls 5 [(1, va_rf x1), (2, va_rf x2), (3, .int x3), (4, .int x4)] → W p l e rm_X0_areAllPlacesAlike s m args below meth c H locs 0 0 (MQ below (gQ (some (.int r)) D Y S hs (gA S hs)) args s rm_X0_areAllPlacesAlike.cells rm_X0_areAllPlacesAlike.slots (gA S hs)) (F0 m 5 ls [])) (x1 : Option Nat) (x2 : Option Nat) (x3 : Int32) (x4 : Int32), f_X0_areAllPlacesAlike_b36 k5 S a0 x1 x2 x3 x4 = some r → ∀ (H : Heap) (locs : List Loc) (ls : Array Slot), gM D Y (gA S hs) s.heap S hs H locs → lv_has ls 5 [(1, va_rf x1), (2, va_rf x2), (3, .int x3), (4, .int x4)] → W p l e rm_X0_areAllPlacesAlike s m args below meth c H locs 0 0 (MQ below (gQ (some (.int r)) D Y S hs (gA S hs)) args s rm_X0_areAllPlacesAlike.cells rm_X0_areAllPlacesAlike.slots (gA S hs)) (F0 m 36 ls []) := by
    intro k5 hk5 x1 x2 x3 x4 h H locs ls hM hl
    unfold f_X0_areAllPlacesAlike_b36 at h
    refine lv_iinc (v := (x4 + 1)) (lv' := [(4, .int (x4 + 1)), (1, va_rf x1), (2, va_rf x2), (3, .int x3)]) hx hb dX0_areAllPlacesAlike_36 hl (k := 3) rfl rfl (by decide) rfl (fun ls hl => ?_)
    refine lv_goto (tgt := 5) hx hb dX0_areAllPlacesAlike_39 (by decide) ?_
    refine W.widen (k := 0) (n := 0) (Nat.le_of_ble_eq_true rfl) (Nat.le_of_ble_eq_true rfl) ?_
    exact hk5 _ _ _ _ h _ _ _ hM (lv_sub hl [1, 2, 3, 0] rfl)
  have JL5 : ∀ (n : Nat) (x1 : Option Nat) (x2 : Option Nat) (x3 : Int32) (x4 : Int32), f_X0_areAllPlacesAlike_L5 S a0 n x1 x2 x3 x4 = some r → ∀ (H : Heap) (locs : List Loc) (ls : Array Slot), gM D Y (gA S hs) s.heap S hs H locs → lv_has ls 5 [(1, va_rf x1), (2, va_rf x2), (3, .int x3), (4, .int x4)] → W p l e rm_X0_areAllPlacesAlike s m args below meth c H locs 0 0 (MQ below (gQ (some (.int r)) D Y S hs (gA S hs)) args s rm_X0_areAllPlacesAlike.cells rm_X0_areAllPlacesAlike.slots (gA S hs)) (F0 m 5 ls []) := by
    intro n
    induction n with
    | zero => intro x1 x2 x3 x4 h; unfold f_X0_areAllPlacesAlike_L5 at h; exact nomatch h
    | succ n ih =>
      intro x1 x2 x3 x4 h H locs ls hM hl
      unfold f_X0_areAllPlacesAlike_L5 at h
      refine lv_iload hx hb dX0_areAllPlacesAlike_5 (lv_at hl 3 rfl) ?_
      refine g_aload_n hx hb dX0_areAllPlacesAlike_7 rfl (lv_at hl 0 rfl) ?_
      have g := gbind h
      clear h
      obtain ⟨a1, e2, h⟩ := g
      have t3 := (gtk_of e2).2
      rw [(gtk_of e2).1]
      have g := gbind h
      clear h
      obtain ⟨v5, e4, h⟩ := g
      refine g_callV (As := []) (rest := [.int x4]) hF hM (c_X1_count e4) k_X1_count u257 u196 u197 rfl rfl t3 rfl hl.1 rfl (Nat.le_of_ble_eq_true rfl) dX0_areAllPlacesAlike_8 ⟨(Nat.le_of_ble_eq_true rfl), (Nat.le_of_ble_eq_true rfl)⟩ ⟨(Nat.le_of_ble_eq_true rfl), (Nat.le_of_ble_eq_true rfl)⟩ (fun H locs hM => ?_)
      refine g_aload_n hx hb dX0_areAllPlacesAlike_11 rfl (lv_at hl 1 rfl) ?_
      have g := gbind h
      clear h
      obtain ⟨a6, e7, h⟩ := g
      have t8 := (gtk_of e7).2
      rw [(gtk_of e7).1]
      have g := gbind h
      clear h
      obtain ⟨v10, e9, h⟩ := g
      refine g_callV (As := []) (rest := [.int v5, .int x4]) hF hM (c_X1_count e9) k_X1_count u257 u196 u197 rfl rfl t8 rfl hl.1 rfl (Nat.le_of_ble_eq_true rfl) dX0_areAllPlacesAlike_12 ⟨(Nat.le_of_ble_eq_true rfl), (Nat.le_of_ble_eq_true rfl)⟩ ⟨(Nat.le_of_ble_eq_true rfl), (Nat.le_of_ble_eq_true rfl)⟩ (fun H locs hM => ?_)
      refine g_mmin hF u387 u388 u389 u78 hl.1 dX0_areAllPlacesAlike_15 ⟨(Nat.le_of_ble_eq_true rfl), (Nat.le_of_ble_eq_true rfl)⟩ (Nat.le_of_ble_eq_true rfl) ⟨(Nat.le_of_ble_eq_true rfl), (Nat.le_of_ble_eq_true rfl)⟩ ?_
      refine lv_icmp_ge (tgt := 42) hx hb dX0_areAllPlacesAlike_18 (by decide) (fun c11 => ?_) (fun c11 => ?_)
      · replace h := (if_pos c11).symm.trans h
        refine lv_iload_n hx hb dX0_areAllPlacesAlike_42 rfl (lv_at hl 2 rfl) ?_
        refine g_aload_n hx hb dX0_areAllPlacesAlike_43 rfl (lv_at hl 0 rfl) ?_
        have g := gbind h
        clear h
        obtain ⟨a12, e13, h⟩ := g
        have t14 := (gtk_of e13).2
        rw [(gtk_of e13).1]
        have g := gbind h
        clear h
        obtain ⟨v16, e15, h⟩ := g
        refine g_callV (As := []) (rest := [.int x3]) hF hM (c_X1_count e15) k_X1_count u257 u196 u197 rfl rfl t14 rfl hl.1 rfl (Nat.le_of_ble_eq_true rfl) dX0_areAllPlacesAlike_44 ⟨(Nat.le_of_ble_eq_true rfl), (Nat.le_of_ble_eq_true rfl)⟩ ⟨(Nat.le_of_ble_eq_true rfl), (Nat.le_of_ble_eq_true rfl)⟩ (fun H locs hM => ?_)
        refine lv_icmp_ne (tgt := 62) hx hb dX0_areAllPlacesAlike_47 (by decide) (fun c17 => ?_) (fun c17 => ?_)
        · replace h := (if_neg c17).symm.trans h
          refine lv_iconst (v := 0) hx hb dX0_areAllPlacesAlike_62 (by decide) ?_
          rw [← (Option.some.inj h)]
          exact g_iret hF hM rfl rfl dX0_areAllPlacesAlike_63 (Nat.le_of_ble_eq_true rfl) (Nat.le_of_ble_eq_true rfl)
        · replace h := (if_pos c17).symm.trans h
          refine lv_iload_n hx hb dX0_areAllPlacesAlike_50 rfl (lv_at hl 2 rfl) ?_
          refine g_aload_n hx hb dX0_areAllPlacesAlike_51 rfl (lv_at hl 1 rfl) ?_
          have g := gbind h
          clear h
          obtain ⟨a18, e19, h⟩ := g
          have t20 := (gtk_of e19).2
          rw [(gtk_of e19).1]
          have g := gbind h
          clear h
          obtain ⟨v22, e21, h⟩ := g
          refine g_callV (As := []) (rest := [.int x3]) hF hM (c_X1_count e21) k_X1_count u257 u196 u197 rfl rfl t20 rfl hl.1 rfl (Nat.le_of_ble_eq_true rfl) dX0_areAllPlacesAlike_52 ⟨(Nat.le_of_ble_eq_true rfl), (Nat.le_of_ble_eq_true rfl)⟩ ⟨(Nat.le_of_ble_eq_true rfl), (Nat.le_of_ble_eq_true rfl)⟩ (fun H locs hM => ?_)
          refine lv_icmp_ne (tgt := 62) hx hb dX0_areAllPlacesAlike_55 (by decide) (fun c23 => ?_) (fun c23 => ?_)
          · replace h := (if_neg c23).symm.trans h
            refine lv_iconst (v := 0) hx hb dX0_areAllPlacesAlike_62 (by decide) ?_
            rw [← (Option.some.inj h)]
            exact g_iret hF hM rfl rfl dX0_areAllPlacesAlike_63 (Nat.le_of_ble_eq_true rfl) (Nat.le_of_ble_eq_true rfl)
          · replace h := (if_pos c23).symm.trans h
            refine lv_iconst (v := 1) hx hb dX0_areAllPlacesAlike_58 (by decide) ?_
            refine lv_goto (tgt := 63) hx hb dX0_areAllPlacesAlike_59 (by decide) ?_
            rw [← (Option.some.inj h)]
            exact g_iret hF hM rfl rfl dX0_areAllPlacesAlike_63 (Nat.le_of_ble_eq_true rfl) (Nat.le_of_ble_eq_true rfl)
      · replace h := (if_neg c11).symm.trans h
        refine g_aload_n hx hb dX0_areAllPlacesAlike_21 rfl (lv_at hl 0 rfl) ?_
        refine lv_iload hx hb dX0_areAllPlacesAlike_22 (lv_at hl 3 rfl) ?_
        refine g_aload_n hx hb dX0_areAllPlacesAlike_24 rfl (lv_at hl 1 rfl) ?_
        refine lv_iload hx hb dX0_areAllPlacesAlike_25 (lv_at hl 3 rfl) ?_
        have g := gbind h
        clear h
        obtain ⟨a24, e25, h⟩ := g
        have t26 := (gtk_of e25).2
        rw [(gtk_of e25).1]
        have g := gbind h
        clear h
        obtain ⟨v28, e27, h⟩ := g
        refine g_callV (As := [.int x4, va_rf x2, .int x4]) (rest := []) hF hM (c_X1_isAlike e27) k_X1_isAlike u310 u311 u312 rfl rfl t26 rfl hl.1 rfl (Nat.le_of_ble_eq_true rfl) dX0_areAllPlacesAlike_27 ⟨(Nat.le_of_ble_eq_true rfl), (Nat.le_of_ble_eq_true rfl)⟩ ⟨(Nat.le_of_ble_eq_true rfl), (Nat.le_of_ble_eq_true rfl)⟩ (fun H locs hM => ?_)
        refine lv_if_eq (tgt := 36) hx hb dX0_areAllPlacesAlike_30 (by decide) (fun c29 => ?_) (fun c29 => ?_)
        · replace h := (if_pos c29).symm.trans h
          refine W.widen (k := 0) (n := 0) (Nat.le_of_ble_eq_true rfl) (Nat.le_of_ble_eq_true rfl) ?_
          exact Jb36 _ ih _ _ _ _ h _ _ _ hM (lv_sub hl [0, 1, 2, 3] rfl)
        · replace h := (if_neg c29).symm.trans h
          refine lv_iinc (v := (x3 + 1)) (lv' := [(3, .int (x3 + 1)), (1, va_rf x1), (2, va_rf x2), (4, .int x4)]) hx hb dX0_areAllPlacesAlike_33 hl (k := 2) rfl rfl (by decide) (by simp [rf_cat, ic_cat, lc_cat]) (fun ls hl => ?_)
          refine W.widen (k := 0) (n := 0) (Nat.le_of_ble_eq_true rfl) (Nat.le_of_ble_eq_true rfl) ?_
          exact Jb36 _ ih _ _ _ _ h _ _ _ hM (lv_sub hl [1, 2, 0, 3] rfl)
  unfold f_X0_areAllPlacesAlike at h
  refine lv_iconst (v := 0) hx hb dX0_areAllPlacesAlike_0 (by decide) ?_
  refine lv_istore_n (i := 3) (lv' := [(3, .int 0), (0, va_rf (some a0)), (1, va_rf x1), (2, va_rf x2)]) hx hb dX0_areAllPlacesAlike_1 rfl hl (by decide) (by simp [rf_cat, ic_cat, lc_cat]) (fun ls hl => ?_)
  refine lv_iconst (v := 0) hx hb dX0_areAllPlacesAlike_2 (by decide) ?_
  refine lv_istore (i := 4) (lv' := [(4, .int 0), (3, .int 0), (0, va_rf (some a0)), (1, va_rf x1), (2, va_rf x2)]) hx hb dX0_areAllPlacesAlike_3 hl (by decide) rfl (fun ls hl => ?_)
  refine W.widen (k := 0) (n := 0) (Nat.le_of_ble_eq_true rfl) (Nat.le_of_ble_eq_true rfl) ?_
  exact JL5 gN _ _ _ _ h _ _ _ hM (lv_sub hl [3, 4, 1, 0] rfl)
abbrev rm_X0_isPairSound : Room := { frames := 5, cells := 0, slots := 0, locals := 109 }
theorem k_X0_isPairSound : gKc yX0_isPairSound cX0_isPairSound 4 (some .boolean) 2 := ⟨u377, u66, by decide +kernel, by decide +kernel, by decide +kernel⟩
set_option maxHeartbeats 4000000 in
set_option maxRecDepth 100000 in
theorem c_X0_isPairSound {l : Launch} {D : va_G} {Y : Nat → ClassId} {S : GS} {hs : Nat} {a0 : Nat} {x1 : Option Nat} {x2 : Option Nat} {r : Int32} (h : f_X0_isPairSound S a0 x1 x2 = some r) : gMet l yX0_isPairSound (gWs yX0_isPairSound cX0_isPairSound 4 (some .boolean)) rm_X0_isPairSound [va_rf (some a0), va_rf x1, va_rf x2] D Y S hs (some (.int r)) S hs := by
  refine g_ofW (by decide +kernel) (Or.inl ⟨(Nat.le_of_ble_eq_true rfl), (List.forall_mem_cons.mpr ⟨rf_cat _, (List.forall_mem_cons.mpr ⟨rf_cat _, (List.forall_mem_cons.mpr ⟨rf_cat _, (fun _ h => absurd h List.not_mem_nil)⟩)⟩)⟩)⟩) ?_
  intro p e s m args below meth c ls hsz hname hF hM hl
  have hl : lv_has ls 4 [(0, va_rf (some a0)), (1, va_rf x1), (2, va_rf x2)] := by rw [g_args [va_rf (some a0), va_rf x1, va_rf x2] 0 (List.forall_mem_cons.mpr ⟨rf_cat _, (List.forall_mem_cons.mpr ⟨rf_cat _, (List.forall_mem_cons.mpr ⟨rf_cat _, (fun _ h => absurd h List.not_mem_nil)⟩)⟩)⟩)] at hl; exact hl
  have hF : gF p s m args meth c RX0 cX0_isPairSound 4 (some .boolean) D Y (gA S hs) := hF
  have hx := hF.1
  have hb := hF.2.1
  have Jb95 : f_X0_isPairSound_b95 S a0 = some r → ∀ (H : Heap) (locs : List Loc) (ls : Array Slot), gM D Y (gA S hs) s.heap S hs H locs → lv_has ls 4 [] → W p l e rm_X0_isPairSound s m args below meth c H locs 0 0 (MQ below (gQ (some (.int r)) D Y S hs (gA S hs)) args s rm_X0_isPairSound.cells rm_X0_isPairSound.slots (gA S hs)) (F0 m 95 ls []) := by
    intro  h H locs ls hM hl
    unfold f_X0_isPairSound_b95 at h
    refine lv_iconst (v := 1) hx hb dX0_isPairSound_95 (by decide) ?_
    refine lv_goto (tgt := 100) hx hb dX0_isPairSound_96 (by decide) ?_
    rw [← (Option.some.inj h)]
    exact g_iret hF hM rfl rfl dX0_isPairSound_100 (Nat.le_of_ble_eq_true rfl) (Nat.le_of_ble_eq_true rfl)
  have Jb51 : ∀ (x1 : Option Nat) (x2 : Option Nat), f_X0_isPairSound_b51 S a0 x1 x2 = some r → ∀ (H : Heap) (locs : List Loc) (ls : Array Slot), gM D Y (gA S hs) s.heap S hs H locs → lv_has ls 4 [(1, va_rf x1), (2, va_rf x2)] → W p l e rm_X0_isPairSound s m args below meth c H locs 0 0 (MQ below (gQ (some (.int r)) D Y S hs (gA S hs)) args s rm_X0_isPairSound.cells rm_X0_isPairSound.slots (gA S hs)) (F0 m 51 ls []) := by
    intro x1 x2 h H locs ls hM hl
    unfold f_X0_isPairSound_b51 at h
    refine g_aload_n hx hb dX0_isPairSound_51 rfl (lv_at hl 0 rfl) ?_
    have g := gbind h
    clear h
    obtain ⟨a7, e8, h⟩ := g
    have t9 := (gtk_of e8).2
    rw [(gtk_of e8).1]
    have g := gbind h
    clear h
    obtain ⟨v11, e10, h⟩ := g
    refine g_callV (As := []) (rest := []) hF hM (c_X1_isMap e10) k_X1_isMap u394 u205 u206 rfl rfl t9 rfl hl.1 rfl (Nat.le_of_ble_eq_true rfl) dX0_isPairSound_52 ⟨(Nat.le_of_ble_eq_true rfl), (Nat.le_of_ble_eq_true rfl)⟩ ⟨(Nat.le_of_ble_eq_true rfl), (Nat.le_of_ble_eq_true rfl)⟩ (fun H locs hM => ?_)
    refine lv_if_eq (tgt := 101) hx hb dX0_isPairSound_55 (by decide) (fun c12 => ?_) (fun c12 => ?_)
    · replace h := (if_pos c12).symm.trans h
      refine lv_iconst (v := 1) hx hb dX0_isPairSound_101 (by decide) ?_
      rw [← (Option.some.inj h)]
      exact g_iret hF hM rfl rfl dX0_isPairSound_102 (Nat.le_of_ble_eq_true rfl) (Nat.le_of_ble_eq_true rfl)
    · replace h := (if_neg c12).symm.trans h
      refine g_aload_n hx hb dX0_isPairSound_58 rfl (lv_at hl 1 rfl) ?_
      have g := gbind h
      clear h
      obtain ⟨a13, e14, h⟩ := g
      have t15 := (gtk_of e14).2
      rw [(gtk_of e14).1]
      have g := gbind h
      clear h
      obtain ⟨v17, e16, h⟩ := g
      refine g_callV (As := []) (rest := []) hF hM (c_X1_isMap e16) k_X1_isMap u394 u205 u206 rfl rfl t15 rfl hl.1 rfl (Nat.le_of_ble_eq_true rfl) dX0_isPairSound_59 ⟨(Nat.le_of_ble_eq_true rfl), (Nat.le_of_ble_eq_true rfl)⟩ ⟨(Nat.le_of_ble_eq_true rfl), (Nat.le_of_ble_eq_true rfl)⟩ (fun H locs hM => ?_)
      refine lv_if_eq (tgt := 101) hx hb dX0_isPairSound_62 (by decide) (fun c18 => ?_) (fun c18 => ?_)
      · replace h := (if_pos c18).symm.trans h
        refine lv_iconst (v := 1) hx hb dX0_isPairSound_101 (by decide) ?_
        rw [← (Option.some.inj h)]
        exact g_iret hF hM rfl rfl dX0_isPairSound_102 (Nat.le_of_ble_eq_true rfl) (Nat.le_of_ble_eq_true rfl)
      · replace h := (if_neg c18).symm.trans h
        refine g_aload_n hx hb dX0_isPairSound_65 rfl (lv_at hl 0 rfl) ?_
        refine g_aload_n hx hb dX0_isPairSound_66 rfl (lv_at hl 1 rfl) ?_
        have g := gbind h
        clear h
        obtain ⟨a19, e20, h⟩ := g
        have t21 := (gtk_of e20).2
        rw [(gtk_of e20).1]
        have g := gbind h
        clear h
        obtain ⟨v23, e22, h⟩ := g
        refine g_callV (As := [va_rf x2]) (rest := []) hF hM (c_X1_isMapLike e22) k_X1_isMapLike u395 u396 u397 rfl rfl t21 rfl hl.1 rfl (Nat.le_of_ble_eq_true rfl) dX0_isPairSound_67 ⟨(Nat.le_of_ble_eq_true rfl), (Nat.le_of_ble_eq_true rfl)⟩ ⟨(Nat.le_of_ble_eq_true rfl), (Nat.le_of_ble_eq_true rfl)⟩ (fun H locs hM => ?_)
        refine lv_istore_n (i := 3) (lv' := [(3, .int v23), (1, va_rf x1), (2, va_rf x2)]) hx hb dX0_isPairSound_70 rfl hl (by decide) (by simp [rf_cat, ic_cat, lc_cat]) (fun ls hl => ?_)
        refine lv_iload_n hx hb dX0_isPairSound_71 rfl (lv_at hl 0 rfl) ?_
        refine g_aload_n hx hb dX0_isPairSound_72 rfl (lv_at hl 2 rfl) ?_
        refine g_aload_n hx hb dX0_isPairSound_73 rfl (lv_at hl 1 rfl) ?_
        have g := gbind h
        clear h
        obtain ⟨a24, e25, h⟩ := g
        have t26 := (gtk_of e25).2
        rw [(gtk_of e25).1]
        have g := gbind h
        clear h
        obtain ⟨v28, e27, h⟩ := g
        refine g_callV (As := [va_rf x1]) (rest := [.int v23]) hF hM (c_X1_isMapLike e27) k_X1_isMapLike u395 u396 u397 rfl rfl t26 rfl hl.1 rfl (Nat.le_of_ble_eq_true rfl) dX0_isPairSound_74 ⟨(Nat.le_of_ble_eq_true rfl), (Nat.le_of_ble_eq_true rfl)⟩ ⟨(Nat.le_of_ble_eq_true rfl), (Nat.le_of_ble_eq_true rfl)⟩ (fun H locs hM => ?_)
        refine lv_icmp_ne (tgt := 99) hx hb dX0_isPairSound_77 (by decide) (fun c29 => ?_) (fun c29 => ?_)
        · replace h := (if_neg c29).symm.trans h
          refine lv_iconst (v := 0) hx hb dX0_isPairSound_99 (by decide) ?_
          rw [← (Option.some.inj h)]
          exact g_iret hF hM rfl rfl dX0_isPairSound_100 (Nat.le_of_ble_eq_true rfl) (Nat.le_of_ble_eq_true rfl)
        · replace h := (if_pos c29).symm.trans h
          refine lv_iload_n hx hb dX0_isPairSound_80 rfl (lv_at hl 0 rfl) ?_
          refine lv_if_eq (tgt := 95) hx hb dX0_isPairSound_81 (by decide) (fun c30 => ?_) (fun c30 => ?_)
          · replace h := (if_pos c30).symm.trans h
            refine W.widen (k := 0) (n := 0) (Nat.le_of_ble_eq_true rfl) (Nat.le_of_ble_eq_true rfl) ?_
            exact Jb95  h _ _ _ hM (lv_sub hl [] rfl)
          · replace h := (if_neg c30).symm.trans h
            refine g_aload_n hx hb dX0_isPairSound_84 rfl (lv_at hl 1 rfl) ?_
            have g := gbind h
            clear h
            obtain ⟨a31, e32, h⟩ := g
            have t33 := (gtk_of e32).2
            rw [(gtk_of e32).1]
            have g := gbind h
            clear h
            obtain ⟨v35, e34, h⟩ := g
            refine g_callV (As := []) (rest := []) hF hM (c_X1_mapHash e34) k_X1_mapHash u400 u401 u402 rfl rfl t33 rfl hl.1 rfl (Nat.le_of_ble_eq_true rfl) dX0_isPairSound_85 ⟨(Nat.le_of_ble_eq_true rfl), (Nat.le_of_ble_eq_true rfl)⟩ ⟨(Nat.le_of_ble_eq_true rfl), (Nat.le_of_ble_eq_true rfl)⟩ (fun H locs hM => ?_)
            refine g_aload_n hx hb dX0_isPairSound_88 rfl (lv_at hl 2 rfl) ?_
            have g := gbind h
            clear h
            obtain ⟨a36, e37, h⟩ := g
            have t38 := (gtk_of e37).2
            rw [(gtk_of e37).1]
            have g := gbind h
            clear h
            obtain ⟨v40, e39, h⟩ := g
            refine g_callV (As := []) (rest := [.int v35]) hF hM (c_X1_mapHash e39) k_X1_mapHash u400 u401 u402 rfl rfl t38 rfl hl.1 rfl (Nat.le_of_ble_eq_true rfl) dX0_isPairSound_89 ⟨(Nat.le_of_ble_eq_true rfl), (Nat.le_of_ble_eq_true rfl)⟩ ⟨(Nat.le_of_ble_eq_true rfl), (Nat.le_of_ble_eq_true rfl)⟩ (fun H locs hM => ?_)
            refine lv_icmp_ne (tgt := 99) hx hb dX0_isPairSound_92 (by decide) (fun c41 => ?_) (fun c41 => ?_)
            · replace h := (if_neg c41).symm.trans h
              refine lv_iconst (v := 0) hx hb dX0_isPairSound_99 (by decide) ?_
              rw [← (Option.some.inj h)]
              exact g_iret hF hM rfl rfl dX0_isPairSound_100 (Nat.le_of_ble_eq_true rfl) (Nat.le_of_ble_eq_true rfl)
            · replace h := (if_pos c41).symm.trans h
              refine W.widen (k := 0) (n := 0) (Nat.le_of_ble_eq_true rfl) (Nat.le_of_ble_eq_true rfl) ?_
              exact Jb95  h _ _ _ hM (lv_sub hl [] rfl)
  have Jb45 : f_X0_isPairSound_b45 S a0 = some r → ∀ (H : Heap) (locs : List Loc) (ls : Array Slot), gM D Y (gA S hs) s.heap S hs H locs → lv_has ls 4 [] → W p l e rm_X0_isPairSound s m args below meth c H locs 0 0 (MQ below (gQ (some (.int r)) D Y S hs (gA S hs)) args s rm_X0_isPairSound.cells rm_X0_isPairSound.slots (gA S hs)) (F0 m 45 ls []) := by
    intro  h H locs ls hM hl
    unfold f_X0_isPairSound_b45 at h
    refine lv_iconst (v := 1) hx hb dX0_isPairSound_45 (by decide) ?_
    refine lv_goto (tgt := 50) hx hb dX0_isPairSound_46 (by decide) ?_
    rw [← (Option.some.inj h)]
    exact g_iret hF hM rfl rfl dX0_isPairSound_50 (Nat.le_of_ble_eq_true rfl) (Nat.le_of_ble_eq_true rfl)
  unfold f_X0_isPairSound at h
  refine g_aload_n hx hb dX0_isPairSound_0 rfl (lv_at hl 1 rfl) ?_
  have g := gbind h
  clear h
  obtain ⟨a1, e2, h⟩ := g
  have t3 := (gtk_of e2).2
  rw [(gtk_of e2).1]
  have g := gbind h
  clear h
  obtain ⟨v5, e4, h⟩ := g
  refine g_callV (As := []) (rest := []) hF hM (c_X1_isList e4) k_X1_isList u249 u250 u251 rfl rfl t3 rfl hl.1 rfl (Nat.le_of_ble_eq_true rfl) dX0_isPairSound_1 ⟨(Nat.le_of_ble_eq_true rfl), (Nat.le_of_ble_eq_true rfl)⟩ ⟨(Nat.le_of_ble_eq_true rfl), (Nat.le_of_ble_eq_true rfl)⟩ (fun H locs hM => ?_)
  refine lv_if_eq (tgt := 51) hx hb dX0_isPairSound_4 (by decide) (fun c6 => ?_) (fun c6 => ?_)
  · replace h := (if_pos c6).symm.trans h
    refine W.widen (k := 0) (n := 0) (Nat.le_of_ble_eq_true rfl) (Nat.le_of_ble_eq_true rfl) ?_
    exact Jb51 _ _ h _ _ _ hM (lv_sub hl [1, 2] rfl)
  · replace h := (if_neg c6).symm.trans h
    refine g_aload_n hx hb dX0_isPairSound_7 rfl (lv_at hl 2 rfl) ?_
    have g := gbind h
    clear h
    obtain ⟨a42, e43, h⟩ := g
    have t44 := (gtk_of e43).2
    rw [(gtk_of e43).1]
    have g := gbind h
    clear h
    obtain ⟨v46, e45, h⟩ := g
    refine g_callV (As := []) (rest := []) hF hM (c_X1_isList e45) k_X1_isList u249 u250 u251 rfl rfl t44 rfl hl.1 rfl (Nat.le_of_ble_eq_true rfl) dX0_isPairSound_8 ⟨(Nat.le_of_ble_eq_true rfl), (Nat.le_of_ble_eq_true rfl)⟩ ⟨(Nat.le_of_ble_eq_true rfl), (Nat.le_of_ble_eq_true rfl)⟩ (fun H locs hM => ?_)
    refine lv_if_eq (tgt := 51) hx hb dX0_isPairSound_11 (by decide) (fun c47 => ?_) (fun c47 => ?_)
    · replace h := (if_pos c47).symm.trans h
      refine W.widen (k := 0) (n := 0) (Nat.le_of_ble_eq_true rfl) (Nat.le_of_ble_eq_true rfl) ?_
      exact Jb51 _ _ h _ _ _ hM (lv_sub hl [1, 2] rfl)
    · replace h := (if_neg c47).symm.trans h
      refine g_aload_n hx hb dX0_isPairSound_14 rfl (lv_at hl 1 rfl) ?_
      refine g_aload_n hx hb dX0_isPairSound_15 rfl (lv_at hl 2 rfl) ?_
      have g := gbind h
      clear h
      obtain ⟨a48, e49, h⟩ := g
      have t50 := (gtk_of e49).2
      rw [(gtk_of e49).1]
      have g := gbind h
      clear h
      obtain ⟨v52, e51, h⟩ := g
      refine g_callV (As := [va_rf x2]) (rest := []) hF hM (c_X1_isListLike e51) k_X1_isListLike u378 u379 u380 rfl rfl t50 rfl hl.1 rfl (Nat.le_of_ble_eq_true rfl) dX0_isPairSound_16 ⟨(Nat.le_of_ble_eq_true rfl), (Nat.le_of_ble_eq_true rfl)⟩ ⟨(Nat.le_of_ble_eq_true rfl), (Nat.le_of_ble_eq_true rfl)⟩ (fun H locs hM => ?_)
      refine lv_istore_n (i := 3) (lv' := [(3, .int v52), (0, va_rf (some a0)), (1, va_rf x1), (2, va_rf x2)]) hx hb dX0_isPairSound_19 rfl hl (by decide) (by simp [rf_cat, ic_cat, lc_cat]) (fun ls hl => ?_)
      refine lv_iload_n hx hb dX0_isPairSound_20 rfl (lv_at hl 0 rfl) ?_
      refine g_aload_n hx hb dX0_isPairSound_21 rfl (lv_at hl 1 rfl) ?_
      refine g_aload_n hx hb dX0_isPairSound_22 rfl (lv_at hl 2 rfl) ?_
      refine g_aload_n hx hb dX0_isPairSound_23 rfl (lv_at hl 3 rfl) ?_
      have g := gckE h
      clear h
      obtain ⟨t53, h⟩ := g
      have t53 := eq_of_beq t53
      have g := gbind h
      clear h
      obtain ⟨v55, e54, h⟩ := g
      refine g_callV (As := [va_rf x1, va_rf x2]) (rest := [.int v52]) hF hM (c_X0_areAllPlacesAlike e54) k_X0_areAllPlacesAlike u383 u385 u11 rfl rfl t53 rfl hl.1 rfl (Nat.le_of_ble_eq_true rfl) dX0_isPairSound_24 ⟨(Nat.le_of_ble_eq_true rfl), (Nat.le_of_ble_eq_true rfl)⟩ ⟨(Nat.le_of_ble_eq_true rfl), (Nat.le_of_ble_eq_true rfl)⟩ (fun H locs hM => ?_)
      refine lv_icmp_ne (tgt := 49) hx hb dX0_isPairSound_27 (by decide) (fun c56 => ?_) (fun c56 => ?_)
      · replace h := (if_neg c56).symm.trans h
        refine lv_iconst (v := 0) hx hb dX0_isPairSound_49 (by decide) ?_
        rw [← (Option.some.inj h)]
        exact g_iret hF hM rfl rfl dX0_isPairSound_50 (Nat.le_of_ble_eq_true rfl) (Nat.le_of_ble_eq_true rfl)
      · replace h := (if_pos c56).symm.trans h
        refine lv_iload_n hx hb dX0_isPairSound_30 rfl (lv_at hl 0 rfl) ?_
        refine lv_if_eq (tgt := 45) hx hb dX0_isPairSound_31 (by decide) (fun c57 => ?_) (fun c57 => ?_)
        · replace h := (if_pos c57).symm.trans h
          refine W.widen (k := 0) (n := 0) (Nat.le_of_ble_eq_true rfl) (Nat.le_of_ble_eq_true rfl) ?_
          exact Jb45  h _ _ _ hM (lv_sub hl [] rfl)
        · replace h := (if_neg c57).symm.trans h
          refine g_aload_n hx hb dX0_isPairSound_34 rfl (lv_at hl 2 rfl) ?_
          have g := gbind h
          clear h
          obtain ⟨a58, e59, h⟩ := g
          have t60 := (gtk_of e59).2
          rw [(gtk_of e59).1]
          have g := gbind h
          clear h
          obtain ⟨v62, e61, h⟩ := g
          refine g_callV (As := []) (rest := []) hF hM (c_X1_listHash e61) k_X1_listHash u390 u391 u392 rfl rfl t60 rfl hl.1 rfl (Nat.le_of_ble_eq_true rfl) dX0_isPairSound_35 ⟨(Nat.le_of_ble_eq_true rfl), (Nat.le_of_ble_eq_true rfl)⟩ ⟨(Nat.le_of_ble_eq_true rfl), (Nat.le_of_ble_eq_true rfl)⟩ (fun H locs hM => ?_)
          refine g_aload_n hx hb dX0_isPairSound_38 rfl (lv_at hl 3 rfl) ?_
          have g := gbind h
          clear h
          obtain ⟨a63, e64, h⟩ := g
          have t65 := (gtk_of e64).2
          rw [(gtk_of e64).1]
          have g := gbind h
          clear h
          obtain ⟨v67, e66, h⟩ := g
          refine g_callV (As := []) (rest := [.int v62]) hF hM (c_X1_listHash e66) k_X1_listHash u390 u391 u392 rfl rfl t65 rfl hl.1 rfl (Nat.le_of_ble_eq_true rfl) dX0_isPairSound_39 ⟨(Nat.le_of_ble_eq_true rfl), (Nat.le_of_ble_eq_true rfl)⟩ ⟨(Nat.le_of_ble_eq_true rfl), (Nat.le_of_ble_eq_true rfl)⟩ (fun H locs hM => ?_)
          refine lv_icmp_ne (tgt := 49) hx hb dX0_isPairSound_42 (by decide) (fun c68 => ?_) (fun c68 => ?_)
          · replace h := (if_neg c68).symm.trans h
            refine lv_iconst (v := 0) hx hb dX0_isPairSound_49 (by decide) ?_
            rw [← (Option.some.inj h)]
            exact g_iret hF hM rfl rfl dX0_isPairSound_50 (Nat.le_of_ble_eq_true rfl) (Nat.le_of_ble_eq_true rfl)
          · replace h := (if_pos c68).symm.trans h
            refine W.widen (k := 0) (n := 0) (Nat.le_of_ble_eq_true rfl) (Nat.le_of_ble_eq_true rfl) ?_
            exact Jb45  h _ _ _ hM (lv_sub hl [] rfl)
