abbrev rm_J0_isLatin1_aae02 : Room := { frames := 0, cells := 0, slots := 0, locals := 0 }
theorem k_J0_isLatin1_aae02 : gKc yJ0_isLatin1_aae02 cJ0_isLatin1_aae02 1 (some .boolean) 0 := ⟨u1165, u73, by decide +kernel, by decide +kernel, by decide +kernel⟩
set_option maxHeartbeats 4000000 in
set_option maxRecDepth 100000 in
theorem c_J0_isLatin1_aae02 {l : Launch} {D : va_G} {Y : Nat → ClassId} {S : GS} {hs : Nat} {a0 : Nat} {r : Int32} (h : f_J0_isLatin1_aae02 S a0 = some r) : gMet l yJ0_isLatin1_aae02 (gWs yJ0_isLatin1_aae02 cJ0_isLatin1_aae02 1 (some .boolean)) rm_J0_isLatin1_aae02 [.ref (Y (100 + a0))] D Y S hs (some (.int r)) S hs := by
  refine g_ofW (by decide +kernel) (Or.inl ⟨(Nat.le_of_ble_eq_true rfl), (List.forall_mem_cons.mpr ⟨rfl, (fun _ h => absurd h List.not_mem_nil)⟩)⟩) ?_
  intro p e s m args below meth c ls hsz hname hF hM hl
  have hl : lv_has ls 1 [(0, .ref (Y (100 + a0)))] := by rw [g_args [.ref (Y (100 + a0))] 0 (List.forall_mem_cons.mpr ⟨rfl, (fun _ h => absurd h List.not_mem_nil)⟩)] at hl; exact hl
  have hF : gF p s m args meth c RJ0 cJ0_isLatin1_aae02 1 (some .boolean) D Y (gA S hs) := hF
  have hx := hF.1
  have hb := hF.2.1
  unfold f_J0_isLatin1_aae02 at h
  refine g_gcs hF hM u1166 dJ0_isLatin1_aae02_0 ?_
  refine lv_if_eq (tgt := 17) hx hb dJ0_isLatin1_aae02_3 (by decide) (fun c1 => ?_) (fun c1 => ?_)
  · replace h := (if_pos c1).symm.trans h
    refine lv_iconst (v := 0) hx hb dJ0_isLatin1_aae02_17 (by decide) ?_
    rw [← (Option.some.inj h)]
    exact g_iret hF hM rfl rfl dJ0_isLatin1_aae02_18 (Nat.le_of_ble_eq_true rfl) (Nat.le_of_ble_eq_true rfl)
  · replace h := (if_neg c1).symm.trans h
    refine lv_aload_n hx hb dJ0_isLatin1_aae02_6 rfl (lv_at hl 0 rfl) ?_
    have g := gckE h
    clear h
    obtain ⟨q2, h⟩ := g
    refine g_scod hF hM (of_decide_eq_true q2) u1589 dJ0_isLatin1_aae02_7 ?_
    refine lv_if_ne (tgt := 17) hx hb dJ0_isLatin1_aae02_10 (by decide) (fun c3 => ?_) (fun c3 => ?_)
    · replace h := (if_neg c3).symm.trans h
      refine lv_iconst (v := 0) hx hb dJ0_isLatin1_aae02_17 (by decide) ?_
      rw [← (Option.some.inj h)]
      exact g_iret hF hM rfl rfl dJ0_isLatin1_aae02_18 (Nat.le_of_ble_eq_true rfl) (Nat.le_of_ble_eq_true rfl)
    · replace h := (if_pos c3).symm.trans h
      refine lv_iconst (v := 1) hx hb dJ0_isLatin1_aae02_13 (by decide) ?_
      refine lv_goto (tgt := 18) hx hb dJ0_isLatin1_aae02_14 (by decide) ?_
      rw [← (Option.some.inj h)]
      exact g_iret hF hM rfl rfl dJ0_isLatin1_aae02_18 (Nat.le_of_ble_eq_true rfl) (Nat.le_of_ble_eq_true rfl)
abbrev rm_J0_coder_7d493 : Room := { frames := 0, cells := 0, slots := 0, locals := 0 }
theorem k_J0_coder_7d493 : gKc yJ0_coder_7d493 cJ0_coder_7d493 1 (some .byte) 0 := ⟨u1175, u73, by decide +kernel, by decide +kernel, by decide +kernel⟩
set_option maxHeartbeats 4000000 in
set_option maxRecDepth 100000 in
theorem c_J0_coder_7d493 {l : Launch} {D : va_G} {Y : Nat → ClassId} {S : GS} {hs : Nat} {a0 : Nat} {r : Int32} (h : f_J0_coder_7d493 S a0 = some r) : gMet l yJ0_coder_7d493 (gWs yJ0_coder_7d493 cJ0_coder_7d493 1 (some .byte)) rm_J0_coder_7d493 [.ref (Y (100 + a0))] D Y S hs (some (.int r)) S hs := by
  refine g_ofW (by decide +kernel) (Or.inl ⟨(Nat.le_of_ble_eq_true rfl), (List.forall_mem_cons.mpr ⟨rfl, (fun _ h => absurd h List.not_mem_nil)⟩)⟩) ?_
  intro p e s m args below meth c ls hsz hname hF hM hl
  have hl : lv_has ls 1 [(0, .ref (Y (100 + a0)))] := by rw [g_args [.ref (Y (100 + a0))] 0 (List.forall_mem_cons.mpr ⟨rfl, (fun _ h => absurd h List.not_mem_nil)⟩)] at hl; exact hl
  have hF : gF p s m args meth c RJ0 cJ0_coder_7d493 1 (some .byte) D Y (gA S hs) := hF
  have hx := hF.1
  have hb := hF.2.1
  unfold f_J0_coder_7d493 at h
  refine g_gcs hF hM u1166 dJ0_coder_7d493_0 ?_
  refine lv_if_eq (tgt := 13) hx hb dJ0_coder_7d493_3 (by decide) (fun c1 => ?_) (fun c1 => ?_)
  · replace h := (if_pos c1).symm.trans h
    refine lv_iconst (v := 1) hx hb dJ0_coder_7d493_13 (by decide) ?_
    rw [← (Option.some.inj h)]
    exact g_iret hF hM rfl rfl dJ0_coder_7d493_14 (Nat.le_of_ble_eq_true rfl) (Nat.le_of_ble_eq_true rfl)
  · replace h := (if_neg c1).symm.trans h
    refine lv_aload_n hx hb dJ0_coder_7d493_6 rfl (lv_at hl 0 rfl) ?_
    have g := gckE h
    clear h
    obtain ⟨q2, h⟩ := g
    refine g_scod hF hM (of_decide_eq_true q2) u1589 dJ0_coder_7d493_7 ?_
    refine lv_goto (tgt := 14) hx hb dJ0_coder_7d493_10 (by decide) ?_
    rw [← (Option.some.inj h)]
    exact g_iret hF hM rfl rfl dJ0_coder_7d493_14 (Nat.le_of_ble_eq_true rfl) (Nat.le_of_ble_eq_true rfl)
abbrev rm_J0_length_8abf5 : Room := { frames := 1, cells := 0, slots := 0, locals := 20 }
theorem k_J0_length_8abf5 : gKc yJ0_length_8abf5 cJ0_length_8abf5 1 (some .int) 0 := ⟨u1171, u73, by decide +kernel, by decide +kernel, by decide +kernel⟩
set_option maxHeartbeats 4000000 in
set_option maxRecDepth 100000 in
theorem c_J0_length_8abf5 {l : Launch} {D : va_G} {Y : Nat → ClassId} {S : GS} {hs : Nat} {a0 : Nat} {r : Int32} (h : f_J0_length_8abf5 S a0 = some r) : gMet l yJ0_length_8abf5 (gWs yJ0_length_8abf5 cJ0_length_8abf5 1 (some .int)) rm_J0_length_8abf5 [.ref (Y (100 + a0))] D Y S hs (some (.int r)) S hs := by
  refine g_ofW (by decide +kernel) (Or.inl ⟨(Nat.le_of_ble_eq_true rfl), (List.forall_mem_cons.mpr ⟨rfl, (fun _ h => absurd h List.not_mem_nil)⟩)⟩) ?_
  intro p e s m args below meth c ls hsz hname hF hM hl
  have hl : lv_has ls 1 [(0, .ref (Y (100 + a0)))] := by rw [g_args [.ref (Y (100 + a0))] 0 (List.forall_mem_cons.mpr ⟨rfl, (fun _ h => absurd h List.not_mem_nil)⟩)] at hl; exact hl
  have hF : gF p s m args meth c RJ0 cJ0_length_8abf5 1 (some .int) D Y (gA S hs) := hF
  have hx := hF.1
  have hb := hF.2.1
  unfold f_J0_length_8abf5 at h
  refine lv_aload_n hx hb dJ0_length_8abf5_0 rfl (lv_at hl 0 rfl) ?_
  have g := gckE h
  clear h
  obtain ⟨q1, h⟩ := g
  refine g_sval hF hM (of_decide_eq_true q1) u1590 dJ0_length_8abf5_1 ?_
  have g := gckE h
  clear h
  obtain ⟨q2, h⟩ := g
  refine g_blen hF hM (of_decide_eq_true q2) dJ0_length_8abf5_4 ?_
  refine lv_aload_n hx hb dJ0_length_8abf5_5 rfl (lv_at hl 0 rfl) ?_
  have g := gckE h
  clear h
  obtain ⟨q3, h⟩ := g
  have q3 := of_decide_eq_true q3
  have g := gbind h
  clear h
  obtain ⟨v5, e4, h⟩ := g
  refine g_callT (As := []) (rest := [.int (gLen a0)]) hF hM (c_J0_coder_7d493 e4) k_J0_coder_7d493 u1172 u1173 u1174 rfl q3 rfl hl.1 rfl (Nat.le_of_ble_eq_true rfl) dJ0_length_8abf5_6 ⟨(Nat.le_of_ble_eq_true rfl), (Nat.le_of_ble_eq_true rfl)⟩ ⟨(Nat.le_of_ble_eq_true rfl), (Nat.le_of_ble_eq_true rfl)⟩ (fun H locs hM => ?_)
  refine lv_ishr hx hb dJ0_length_8abf5_9 ?_
  rw [← (Option.some.inj h)]
  exact g_iret hF hM rfl rfl dJ0_length_8abf5_10 (Nat.le_of_ble_eq_true rfl) (Nat.le_of_ble_eq_true rfl)
abbrev rm_J1_canEncode_9a6ad : Room := { frames := 0, cells := 0, slots := 0, locals := 0 }
theorem k_J1_canEncode_9a6ad : gKc yJ1_canEncode_9a6ad cJ1_canEncode_9a6ad 1 (some .boolean) 1 := ⟨u1181, u77, by decide +kernel, by decide +kernel, by decide +kernel⟩
set_option maxHeartbeats 4000000 in
set_option maxRecDepth 100000 in
theorem c_J1_canEncode_9a6ad {l : Launch} {D : va_G} {Y : Nat → ClassId} {S : GS} {hs : Nat} {x0 : Int32} {r : Int32} (h : f_J1_canEncode_9a6ad S x0 = some r) : gMet l yJ1_canEncode_9a6ad (gWs yJ1_canEncode_9a6ad cJ1_canEncode_9a6ad 1 (some .boolean)) rm_J1_canEncode_9a6ad [.int x0] D Y S hs (some (.int r)) S hs := by
  refine g_ofW (by decide +kernel) (Or.inl ⟨(Nat.le_of_ble_eq_true rfl), (List.forall_mem_cons.mpr ⟨rfl, (fun _ h => absurd h List.not_mem_nil)⟩)⟩) ?_
  intro p e s m args below meth c ls hsz hname hF hM hl
  have hl : lv_has ls 1 [(0, .int x0)] := by rw [g_args [.int x0] 0 (List.forall_mem_cons.mpr ⟨rfl, (fun _ h => absurd h List.not_mem_nil)⟩)] at hl; exact hl
  have hF : gF p s m args meth c RJ1 cJ1_canEncode_9a6ad 1 (some .boolean) D Y (gA S hs) := hF
  have hx := hF.1
  have hb := hF.2.1
  unfold f_J1_canEncode_9a6ad at h
  refine lv_iload_n hx hb dJ1_canEncode_9a6ad_0 rfl (lv_at hl 0 rfl) ?_
  refine lv_if_lt (tgt := 15) hx hb dJ1_canEncode_9a6ad_1 (by decide) (fun c1 => ?_) (fun c1 => ?_)
  · replace h := (if_pos c1).symm.trans h
    refine lv_iconst (v := 0) hx hb dJ1_canEncode_9a6ad_15 (by decide) ?_
    rw [← (Option.some.inj h)]
    exact g_iret hF hM rfl rfl dJ1_canEncode_9a6ad_16 (Nat.le_of_ble_eq_true rfl) (Nat.le_of_ble_eq_true rfl)
  · replace h := (if_neg c1).symm.trans h
    refine lv_iload_n hx hb dJ1_canEncode_9a6ad_4 rfl (lv_at hl 0 rfl) ?_
    refine lv_sipush (v := 255) hx hb dJ1_canEncode_9a6ad_5 (by decide) ?_
    refine lv_icmp_gt (tgt := 15) hx hb dJ1_canEncode_9a6ad_8 (by decide) (fun c2 => ?_) (fun c2 => ?_)
    · replace h := (if_pos c2).symm.trans h
      refine lv_iconst (v := 0) hx hb dJ1_canEncode_9a6ad_15 (by decide) ?_
      rw [← (Option.some.inj h)]
      exact g_iret hF hM rfl rfl dJ1_canEncode_9a6ad_16 (Nat.le_of_ble_eq_true rfl) (Nat.le_of_ble_eq_true rfl)
    · replace h := (if_neg c2).symm.trans h
      refine lv_iconst (v := 1) hx hb dJ1_canEncode_9a6ad_11 (by decide) ?_
      refine lv_goto (tgt := 16) hx hb dJ1_canEncode_9a6ad_12 (by decide) ?_
      rw [← (Option.some.inj h)]
      exact g_iret hF hM rfl rfl dJ1_canEncode_9a6ad_16 (Nat.le_of_ble_eq_true rfl) (Nat.le_of_ble_eq_true rfl)
abbrev rm_J1_indexOfChar_4cfef : Room := { frames := 0, cells := 0, slots := 0, locals := 0 }
theorem k_J1_indexOfChar_4cfef : gKc yJ1_indexOfChar_4cfef cJ1_indexOfChar_4cfef 6 (some .int) 4 := ⟨u1186, u77, by decide +kernel, by decide +kernel, by decide +kernel⟩
set_option maxHeartbeats 4000000 in
set_option maxRecDepth 100000 in
theorem c_J1_indexOfChar_4cfef {l : Launch} {D : va_G} {Y : Nat → ClassId} {S : GS} {hs : Nat} {x0 : Nat} {x1 : Int32} {x2 : Int32} {x3 : Int32} {r : Int32} (h : f_J1_indexOfChar_4cfef S x0 x1 x2 x3 = some r) : gMet l yJ1_indexOfChar_4cfef (gWs yJ1_indexOfChar_4cfef cJ1_indexOfChar_4cfef 6 (some .int)) rm_J1_indexOfChar_4cfef [.ref (Y (120 + x0)), .int x1, .int x2, .int x3] D Y S hs (some (.int r)) S hs := by
  refine g_ofW (by decide +kernel) (Or.inl ⟨(Nat.le_of_ble_eq_true rfl), (List.forall_mem_cons.mpr ⟨rfl, (List.forall_mem_cons.mpr ⟨rfl, (List.forall_mem_cons.mpr ⟨rfl, (List.forall_mem_cons.mpr ⟨rfl, (fun _ h => absurd h List.not_mem_nil)⟩)⟩)⟩)⟩)⟩) ?_
  intro p e s m args below meth c ls hsz hname hF hM hl
  have hl : lv_has ls 6 [(0, .ref (Y (120 + x0))), (1, .int x1), (2, .int x2), (3, .int x3)] := by rw [g_args [.ref (Y (120 + x0)), .int x1, .int x2, .int x3] 0 (List.forall_mem_cons.mpr ⟨rfl, (List.forall_mem_cons.mpr ⟨rfl, (List.forall_mem_cons.mpr ⟨rfl, (List.forall_mem_cons.mpr ⟨rfl, (fun _ h => absurd h List.not_mem_nil)⟩)⟩)⟩)⟩)] at hl; exact hl
  have hF : gF p s m args meth c RJ1 cJ1_indexOfChar_4cfef 6 (some .int) D Y (gA S hs) := hF
  have hx := hF.1
  have hb := hF.2.1
  have JL7 : ∀ (n : Nat) (x0 : Nat) (x3 : Int32) (x4 : Int32) (x5 : Int32), f_J1_indexOfChar_4cfef_L7 S n x0 x3 x4 x5 = some r → ∀ (H : Heap) (locs : List Loc) (ls : Array Slot), gM D Y (gA S hs) s.heap S hs H locs → lv_has ls 6 [(0, .ref (Y (120 + x0))), (3, .int x3), (4, .int x4), (5, .int x5)] → W p l e rm_J1_indexOfChar_4cfef s m args below meth c H locs 0 0 (MQ below (gQ (some (.int r)) D Y S hs (gA S hs)) args s rm_J1_indexOfChar_4cfef.cells rm_J1_indexOfChar_4cfef.slots (gA S hs)) (F0 m 7 ls []) := by
    intro n
    induction n with
    | zero => intro x0 x3 x4 x5 h; unfold f_J1_indexOfChar_4cfef_L7 at h; exact nomatch h
    | succ n ih =>
      intro x0 x3 x4 x5 h H locs ls hM hl
      unfold f_J1_indexOfChar_4cfef_L7 at h
      refine lv_iload hx hb dJ1_indexOfChar_4cfef_7 (lv_at hl 3 rfl) ?_
      refine lv_iload_n hx hb dJ1_indexOfChar_4cfef_9 rfl (lv_at hl 1 rfl) ?_
      refine lv_icmp_ge (tgt := 31) hx hb dJ1_indexOfChar_4cfef_10 (by decide) (fun c1 => ?_) (fun c1 => ?_)
      · replace h := (if_pos c1).symm.trans h
        refine lv_iconst (v := (-1)) hx hb dJ1_indexOfChar_4cfef_31 (by decide) ?_
        rw [← (Option.some.inj h)]
        exact g_iret hF hM rfl rfl dJ1_indexOfChar_4cfef_32 (Nat.le_of_ble_eq_true rfl) (Nat.le_of_ble_eq_true rfl)
      · replace h := (if_neg c1).symm.trans h
        refine lv_aload_n hx hb dJ1_indexOfChar_4cfef_13 rfl (lv_at hl 0 rfl) ?_
        refine lv_iload hx hb dJ1_indexOfChar_4cfef_14 (lv_at hl 3 rfl) ?_
        have g := gckE h
        clear h
        obtain ⟨q2, h⟩ := g
        refine g_bald hF hM (of_decide_eq_true q2) dJ1_indexOfChar_4cfef_16 ?_
        refine lv_iload hx hb dJ1_indexOfChar_4cfef_17 (lv_at hl 2 rfl) ?_
        refine lv_icmp_ne (tgt := 25) hx hb dJ1_indexOfChar_4cfef_19 (by decide) (fun c3 => ?_) (fun c3 => ?_)
        · replace h := (if_neg c3).symm.trans h
          refine lv_iinc (v := (x5 + 1)) (lv' := [(5, .int (x5 + 1)), (0, .ref (Y (120 + x0))), (3, .int x3), (4, .int x4)]) hx hb dJ1_indexOfChar_4cfef_25 hl (k := 3) rfl rfl (by decide) rfl (fun ls hl => ?_)
          refine lv_goto (tgt := 7) hx hb dJ1_indexOfChar_4cfef_28 (by decide) ?_
          refine W.widen (k := 0) (n := 0) (Nat.le_of_ble_eq_true rfl) (Nat.le_of_ble_eq_true rfl) ?_
          exact ih _ _ _ _ h _ _ _ hM (lv_sub hl [1, 2, 3, 0] rfl)
        · replace h := (if_pos c3).symm.trans h
          refine lv_iload hx hb dJ1_indexOfChar_4cfef_22 (lv_at hl 3 rfl) ?_
          rw [← (Option.some.inj h)]
          exact g_iret hF hM rfl rfl dJ1_indexOfChar_4cfef_24 (Nat.le_of_ble_eq_true rfl) (Nat.le_of_ble_eq_true rfl)
  unfold f_J1_indexOfChar_4cfef at h
  refine lv_iload_n hx hb dJ1_indexOfChar_4cfef_0 rfl (lv_at hl 1 rfl) ?_
  refine lv_i2b hx hb dJ1_indexOfChar_4cfef_1 rfl ?_
  refine lv_istore (i := 4) (lv' := [(4, .int ((x1).toInt8.toInt32)), (0, .ref (Y (120 + x0))), (1, .int x1), (2, .int x2), (3, .int x3)]) hx hb dJ1_indexOfChar_4cfef_2 hl (by decide) rfl (fun ls hl => ?_)
  refine lv_iload_n hx hb dJ1_indexOfChar_4cfef_4 rfl (lv_at hl 3 rfl) ?_
  refine lv_istore (i := 5) (lv' := [(5, .int x2), (4, .int ((x1).toInt8.toInt32)), (0, .ref (Y (120 + x0))), (1, .int x1), (2, .int x2), (3, .int x3)]) hx hb dJ1_indexOfChar_4cfef_5 hl (by decide) rfl (fun ls hl => ?_)
  refine W.widen (k := 0) (n := 0) (Nat.le_of_ble_eq_true rfl) (Nat.le_of_ble_eq_true rfl) ?_
  exact JL7 gN _ _ _ _ h _ _ _ hM (lv_sub hl [2, 5, 1, 0] rfl)
abbrev rm_J1_indexOf_4cfef : Room := { frames := 2, cells := 0, slots := 0, locals := 60 }
theorem k_J1_indexOf_4cfef : gKc yJ1_indexOf_4cfef cJ1_indexOf_4cfef 4 (some .int) 4 := ⟨u1178, u77, by decide +kernel, by decide +kernel, by decide +kernel⟩
set_option maxHeartbeats 4000000 in
set_option maxRecDepth 100000 in
theorem c_J1_indexOf_4cfef {l : Launch} {D : va_G} {Y : Nat → ClassId} {S : GS} {hs : Nat} {x0 : Nat} {x1 : Int32} {x2 : Int32} {x3 : Int32} {r : Int32} (h : f_J1_indexOf_4cfef S x0 x1 x2 x3 = some r) : gMet l yJ1_indexOf_4cfef (gWs yJ1_indexOf_4cfef cJ1_indexOf_4cfef 4 (some .int)) rm_J1_indexOf_4cfef [.ref (Y (120 + x0)), .int x1, .int x2, .int x3] D Y S hs (some (.int r)) S hs := by
  refine g_ofW (by decide +kernel) (Or.inl ⟨(Nat.le_of_ble_eq_true rfl), (List.forall_mem_cons.mpr ⟨rfl, (List.forall_mem_cons.mpr ⟨rfl, (List.forall_mem_cons.mpr ⟨rfl, (List.forall_mem_cons.mpr ⟨rfl, (fun _ h => absurd h List.not_mem_nil)⟩)⟩)⟩)⟩)⟩) ?_
  intro p e s m args below meth c ls hsz hname hF hM hl
  have hl : lv_has ls 4 [(0, .ref (Y (120 + x0))), (1, .int x1), (2, .int x2), (3, .int x3)] := by rw [g_args [.ref (Y (120 + x0)), .int x1, .int x2, .int x3] 0 (List.forall_mem_cons.mpr ⟨rfl, (List.forall_mem_cons.mpr ⟨rfl, (List.forall_mem_cons.mpr ⟨rfl, (List.forall_mem_cons.mpr ⟨rfl, (fun _ h => absurd h List.not_mem_nil)⟩)⟩)⟩)⟩)] at hl; exact hl
  have hF : gF p s m args meth c RJ1 cJ1_indexOf_4cfef 4 (some .int) D Y (gA S hs) := hF
  have hx := hF.1
  have hb := hF.2.1
  unfold f_J1_indexOf_4cfef at h
  refine lv_iload_n hx hb dJ1_indexOf_4cfef_0 rfl (lv_at hl 1 rfl) ?_
  have g := gbind h
  clear h
  obtain ⟨v2, e1, h⟩ := g
  refine g_callS (As := [.int x1]) (rest := []) hF hM (c_J1_canEncode_9a6ad e1) k_J1_canEncode_9a6ad u1179 u1180 rfl hl.1 rfl (Nat.le_of_ble_eq_true rfl) dJ1_indexOf_4cfef_1 ⟨(Nat.le_of_ble_eq_true rfl), (Nat.le_of_ble_eq_true rfl)⟩ ⟨(Nat.le_of_ble_eq_true rfl), (Nat.le_of_ble_eq_true rfl)⟩ (fun H locs hM => ?_)
  refine lv_if_ne (tgt := 9) hx hb dJ1_indexOf_4cfef_4 (by decide) (fun c3 => ?_) (fun c3 => ?_)
  · replace h := (if_neg c3).symm.trans h
    refine lv_iload_n hx hb dJ1_indexOf_4cfef_9 rfl (lv_at hl 2 rfl) ?_
    refine lv_iconst (v := 0) hx hb dJ1_indexOf_4cfef_10 (by decide) ?_
    refine g_mmax hF u1182 u962 u963 u78 hl.1 dJ1_indexOf_4cfef_11 ⟨(Nat.le_of_ble_eq_true rfl), (Nat.le_of_ble_eq_true rfl)⟩ (Nat.le_of_ble_eq_true rfl) ⟨(Nat.le_of_ble_eq_true rfl), (Nat.le_of_ble_eq_true rfl)⟩ ?_
    refine lv_istore_n (i := 2) (lv' := [(2, .int (gmax x2 0)), (0, .ref (Y (120 + x0))), (1, .int x1), (3, .int x3)]) hx hb dJ1_indexOf_4cfef_14 rfl hl (by decide) rfl (fun ls hl => ?_)
    refine lv_iload_n hx hb dJ1_indexOf_4cfef_15 rfl (lv_at hl 3 rfl) ?_
    refine lv_aload_n hx hb dJ1_indexOf_4cfef_16 rfl (lv_at hl 1 rfl) ?_
    have g := gckE h
    clear h
    obtain ⟨q4, h⟩ := g
    refine g_blen hF hM (of_decide_eq_true q4) dJ1_indexOf_4cfef_17 ?_
    refine g_mmin hF u1183 u388 u389 u78 hl.1 dJ1_indexOf_4cfef_18 ⟨(Nat.le_of_ble_eq_true rfl), (Nat.le_of_ble_eq_true rfl)⟩ (Nat.le_of_ble_eq_true rfl) ⟨(Nat.le_of_ble_eq_true rfl), (Nat.le_of_ble_eq_true rfl)⟩ ?_
    refine lv_istore_n (i := 3) (lv' := [(3, .int (gmin x3 (gLen x0))), (2, .int (gmax x2 0)), (0, .ref (Y (120 + x0))), (1, .int x1)]) hx hb dJ1_indexOf_4cfef_21 rfl hl (by decide) rfl (fun ls hl => ?_)
    refine lv_iload_n hx hb dJ1_indexOf_4cfef_22 rfl (lv_at hl 1 rfl) ?_
    refine lv_iload_n hx hb dJ1_indexOf_4cfef_23 rfl (lv_at hl 0 rfl) ?_
    refine lv_icmp_lt (tgt := 29) hx hb dJ1_indexOf_4cfef_24 (by decide) (fun c5 => ?_) (fun c5 => ?_)
    · replace h := (if_pos c5).symm.trans h
      refine lv_aload_n hx hb dJ1_indexOf_4cfef_29 rfl (lv_at hl 2 rfl) ?_
      refine lv_iload_n hx hb dJ1_indexOf_4cfef_30 rfl (lv_at hl 3 rfl) ?_
      refine lv_iload_n hx hb dJ1_indexOf_4cfef_31 rfl (lv_at hl 1 rfl) ?_
      refine lv_iload_n hx hb dJ1_indexOf_4cfef_32 rfl (lv_at hl 0 rfl) ?_
      have g := gbind h
      clear h
      obtain ⟨v7, e6, h⟩ := g
      refine g_callS (As := [.ref (Y (120 + x0)), .int x1, .int (gmax x2 0), .int (gmin x3 (gLen x0))]) (rest := []) hF hM (c_J1_indexOfChar_4cfef e6) k_J1_indexOfChar_4cfef u1184 u1185 rfl hl.1 rfl (Nat.le_of_ble_eq_true rfl) dJ1_indexOf_4cfef_33 ⟨(Nat.le_of_ble_eq_true rfl), (Nat.le_of_ble_eq_true rfl)⟩ ⟨(Nat.le_of_ble_eq_true rfl), (Nat.le_of_ble_eq_true rfl)⟩ (fun H locs hM => ?_)
      rw [← (Option.some.inj h)]
      exact g_iret hF hM rfl rfl dJ1_indexOf_4cfef_36 (Nat.le_of_ble_eq_true rfl) (Nat.le_of_ble_eq_true rfl)
    · replace h := (if_neg c5).symm.trans h
      refine lv_iconst (v := (-1)) hx hb dJ1_indexOf_4cfef_27 (by decide) ?_
      rw [← (Option.some.inj h)]
      exact g_iret hF hM rfl rfl dJ1_indexOf_4cfef_28 (Nat.le_of_ble_eq_true rfl) (Nat.le_of_ble_eq_true rfl)
  · replace h := (if_pos c3).symm.trans h
    refine lv_iconst (v := (-1)) hx hb dJ1_indexOf_4cfef_7 (by decide) ?_
    rw [← (Option.some.inj h)]
    exact g_iret hF hM rfl rfl dJ1_indexOf_4cfef_8 (Nat.le_of_ble_eq_true rfl) (Nat.le_of_ble_eq_true rfl)
abbrev rm_J0_indexOf_7cf53 : Room := { frames := 3, cells := 0, slots := 0, locals := 83 }
theorem k_J0_indexOf_7cf53 : gKc yJ0_indexOf_7cf53 cJ0_indexOf_7cf53 3 (some .int) 2 := ⟨u1161, u73, by decide +kernel, by decide +kernel, by decide +kernel⟩
set_option maxHeartbeats 4000000 in
set_option maxRecDepth 100000 in
theorem c_J0_indexOf_7cf53 {l : Launch} {D : va_G} {Y : Nat → ClassId} {S : GS} {hs : Nat} {a0 : Nat} {x1 : Int32} {x2 : Int32} {r : Int32} (h : f_J0_indexOf_7cf53 S a0 x1 x2 = some r) : gMet l yJ0_indexOf_7cf53 (gWs yJ0_indexOf_7cf53 cJ0_indexOf_7cf53 3 (some .int)) rm_J0_indexOf_7cf53 [.ref (Y (100 + a0)), .int x1, .int x2] D Y S hs (some (.int r)) S hs := by
  refine g_ofW (by decide +kernel) (Or.inl ⟨(Nat.le_of_ble_eq_true rfl), (List.forall_mem_cons.mpr ⟨rfl, (List.forall_mem_cons.mpr ⟨rfl, (List.forall_mem_cons.mpr ⟨rfl, (fun _ h => absurd h List.not_mem_nil)⟩)⟩)⟩)⟩) ?_
  intro p e s m args below meth c ls hsz hname hF hM hl
  have hl : lv_has ls 3 [(0, .ref (Y (100 + a0))), (1, .int x1), (2, .int x2)] := by rw [g_args [.ref (Y (100 + a0)), .int x1, .int x2] 0 (List.forall_mem_cons.mpr ⟨rfl, (List.forall_mem_cons.mpr ⟨rfl, (List.forall_mem_cons.mpr ⟨rfl, (fun _ h => absurd h List.not_mem_nil)⟩)⟩)⟩)] at hl; exact hl
  have hF : gF p s m args meth c RJ0 cJ0_indexOf_7cf53 3 (some .int) D Y (gA S hs) := hF
  have hx := hF.1
  have hb := hF.2.1
  unfold f_J0_indexOf_7cf53 at h
  refine lv_aload_n hx hb dJ0_indexOf_7cf53_0 rfl (lv_at hl 0 rfl) ?_
  have g := gckE h
  clear h
  obtain ⟨q1, h⟩ := g
  have q1 := of_decide_eq_true q1
  have g := gbind h
  clear h
  obtain ⟨v3, e2, h⟩ := g
  refine g_callT (As := []) (rest := []) hF hM (c_J0_isLatin1_aae02 e2) k_J0_isLatin1_aae02 u1162 u1163 u1164 rfl q1 rfl hl.1 rfl (Nat.le_of_ble_eq_true rfl) dJ0_indexOf_7cf53_1 ⟨(Nat.le_of_ble_eq_true rfl), (Nat.le_of_ble_eq_true rfl)⟩ ⟨(Nat.le_of_ble_eq_true rfl), (Nat.le_of_ble_eq_true rfl)⟩ (fun H locs hM => ?_)
  refine lv_if_eq (tgt := 23) hx hb dJ0_indexOf_7cf53_4 (by decide) (fun c4 => ?_) (fun c4 => ?_)
  · replace h := (if_pos c4).symm.trans h
    refine lv_aload_n hx hb dJ0_indexOf_7cf53_23 rfl (lv_at hl 0 rfl) ?_
    have g := gckE h
    clear h
    obtain ⟨q5, h⟩ := g
    refine g_sval hF hM (of_decide_eq_true q5) u1590 dJ0_indexOf_7cf53_24 ?_
    refine lv_iload_n hx hb dJ0_indexOf_7cf53_27 rfl (lv_at hl 1 rfl) ?_
    refine lv_iload_n hx hb dJ0_indexOf_7cf53_28 rfl (lv_at hl 2 rfl) ?_
    refine lv_aload_n hx hb dJ0_indexOf_7cf53_29 rfl (lv_at hl 0 rfl) ?_
    have g := gckE h
    clear h
    obtain ⟨q6, h⟩ := g
    have q6 := of_decide_eq_true q6
    have g := gbind h
    clear h
    obtain ⟨v8, e7, h⟩ := g
    refine g_callT (As := []) (rest := [.int x2, .int x1, .ref (Y (120 + a0))]) hF hM (c_J0_length_8abf5 e7) k_J0_length_8abf5 u1168 u1169 u1170 rfl q6 rfl hl.1 rfl (Nat.le_of_ble_eq_true rfl) dJ0_indexOf_7cf53_30 ⟨(Nat.le_of_ble_eq_true rfl), (Nat.le_of_ble_eq_true rfl)⟩ ⟨(Nat.le_of_ble_eq_true rfl), (Nat.le_of_ble_eq_true rfl)⟩ (fun H locs hM => ?_)
    exact nomatch h
  · replace h := (if_neg c4).symm.trans h
    refine lv_aload_n hx hb dJ0_indexOf_7cf53_7 rfl (lv_at hl 0 rfl) ?_
    have g := gckE h
    clear h
    obtain ⟨q9, h⟩ := g
    refine g_sval hF hM (of_decide_eq_true q9) u1590 dJ0_indexOf_7cf53_8 ?_
    refine lv_iload_n hx hb dJ0_indexOf_7cf53_11 rfl (lv_at hl 1 rfl) ?_
    refine lv_iload_n hx hb dJ0_indexOf_7cf53_12 rfl (lv_at hl 2 rfl) ?_
    refine lv_aload_n hx hb dJ0_indexOf_7cf53_13 rfl (lv_at hl 0 rfl) ?_
    have g := gckE h
    clear h
    obtain ⟨q10, h⟩ := g
    have q10 := of_decide_eq_true q10
    have g := gbind h
    clear h
    obtain ⟨v12, e11, h⟩ := g
    refine g_callT (As := []) (rest := [.int x2, .int x1, .ref (Y (120 + a0))]) hF hM (c_J0_length_8abf5 e11) k_J0_length_8abf5 u1168 u1169 u1170 rfl q10 rfl hl.1 rfl (Nat.le_of_ble_eq_true rfl) dJ0_indexOf_7cf53_14 ⟨(Nat.le_of_ble_eq_true rfl), (Nat.le_of_ble_eq_true rfl)⟩ ⟨(Nat.le_of_ble_eq_true rfl), (Nat.le_of_ble_eq_true rfl)⟩ (fun H locs hM => ?_)
    have g := gbind h
    clear h
    obtain ⟨v14, e13, h⟩ := g
    refine g_callS (As := [.ref (Y (120 + a0)), .int x1, .int x2, .int v12]) (rest := []) hF hM (c_J1_indexOf_4cfef e13) k_J1_indexOf_4cfef u1176 u1177 rfl hl.1 rfl (Nat.le_of_ble_eq_true rfl) dJ0_indexOf_7cf53_17 ⟨(Nat.le_of_ble_eq_true rfl), (Nat.le_of_ble_eq_true rfl)⟩ ⟨(Nat.le_of_ble_eq_true rfl), (Nat.le_of_ble_eq_true rfl)⟩ (fun H locs hM => ?_)
    refine lv_goto (tgt := 36) hx hb dJ0_indexOf_7cf53_20 (by decide) ?_
    rw [← (Option.some.inj h)]
    exact g_iret hF hM rfl rfl dJ0_indexOf_7cf53_36 (Nat.le_of_ble_eq_true rfl) (Nat.le_of_ble_eq_true rfl)
abbrev rm_J0_indexOf_0f7a4 : Room := { frames := 4, cells := 0, slots := 0, locals := 105 }
theorem k_J0_indexOf_0f7a4 : gKc yJ0_indexOf_0f7a4 cJ0_indexOf_0f7a4 2 (some .int) 1 := ⟨u1157, u73, by decide +kernel, by decide +kernel, by decide +kernel⟩
set_option maxHeartbeats 4000000 in
set_option maxRecDepth 100000 in
theorem c_J0_indexOf_0f7a4 {l : Launch} {D : va_G} {Y : Nat → ClassId} {S : GS} {hs : Nat} {a0 : Nat} {x1 : Int32} {r : Int32} (h : f_J0_indexOf_0f7a4 S a0 x1 = some r) : gMet l yJ0_indexOf_0f7a4 (gWs yJ0_indexOf_0f7a4 cJ0_indexOf_0f7a4 2 (some .int)) rm_J0_indexOf_0f7a4 [.ref (Y (100 + a0)), .int x1] D Y S hs (some (.int r)) S hs := by
  refine g_ofW (by decide +kernel) (Or.inl ⟨(Nat.le_of_ble_eq_true rfl), (List.forall_mem_cons.mpr ⟨rfl, (List.forall_mem_cons.mpr ⟨rfl, (fun _ h => absurd h List.not_mem_nil)⟩)⟩)⟩) ?_
  intro p e s m args below meth c ls hsz hname hF hM hl
  have hl : lv_has ls 2 [(0, .ref (Y (100 + a0))), (1, .int x1)] := by rw [g_args [.ref (Y (100 + a0)), .int x1] 0 (List.forall_mem_cons.mpr ⟨rfl, (List.forall_mem_cons.mpr ⟨rfl, (fun _ h => absurd h List.not_mem_nil)⟩)⟩)] at hl; exact hl
  have hF : gF p s m args meth c RJ0 cJ0_indexOf_0f7a4 2 (some .int) D Y (gA S hs) := hF
  have hx := hF.1
  have hb := hF.2.1
  unfold f_J0_indexOf_0f7a4 at h
  refine lv_aload_n hx hb dJ0_indexOf_0f7a4_0 rfl (lv_at hl 0 rfl) ?_
  refine lv_iload_n hx hb dJ0_indexOf_0f7a4_1 rfl (lv_at hl 1 rfl) ?_
  refine lv_iconst (v := 0) hx hb dJ0_indexOf_0f7a4_2 (by decide) ?_
  have g := gckE h
  clear h
  obtain ⟨q1, h⟩ := g
  have q1 := of_decide_eq_true q1
  have g := gbind h
  clear h
  obtain ⟨v3, e2, h⟩ := g
  refine g_callT (As := [.int x1, .int 0]) (rest := []) hF hM (c_J0_indexOf_7cf53 e2) k_J0_indexOf_7cf53 u1158 u1159 u1160 rfl q1 rfl hl.1 rfl (Nat.le_of_ble_eq_true rfl) dJ0_indexOf_0f7a4_3 ⟨(Nat.le_of_ble_eq_true rfl), (Nat.le_of_ble_eq_true rfl)⟩ ⟨(Nat.le_of_ble_eq_true rfl), (Nat.le_of_ble_eq_true rfl)⟩ (fun H locs hM => ?_)
  rw [← (Option.some.inj h)]
  exact g_iret hF hM rfl rfl dJ0_indexOf_0f7a4_6 (Nat.le_of_ble_eq_true rfl) (Nat.le_of_ble_eq_true rfl)
