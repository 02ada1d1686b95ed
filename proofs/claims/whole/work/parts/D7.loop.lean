/-! the law's last two cases, and its loop -/
theorem lp_gt {i L : Nat} (h1 : L < i + 5) (h2 : i ≤ 4096) (h3 : L ≤ 2560) : Int32.ofNat L - 5 < nI i := by
  rw [Int32.lt_iff_toInt_lt, Int32.toInt_sub]
  have e1 : (nI i).toInt = i := nI_toInt (by omega)
  have e2 : (Int32.ofNat L).toInt = L := nI_toInt (by omega)
  have e3 : (5 : Int32).toInt = 5 := by decide
  rw [e1, e2, e3, Int.bmod_eq_of_le (by omega) (by omega)]
  omega
set_option maxHeartbeats 4000000 in
set_option maxRecDepth 100000 in
theorem lc_checksum {p : Program} {l : Launch} {e : Env} {R : Room} {s : State} {m : MethodId} {args : Array Value} {below : List Frame} {meth : Method} {c : Code} {H : Heap} {locs : List Loc} {cells slots : Nat} {Q : State → Prop} {ls : Array Slot} {D : va_G} {Y : Nat → ClassId} {Af : Nat → Prop} {rt : Option FieldType} {yl yd : ClassId} {o1 o2 b r n bs L i : Nat} {xs : Nat → Int32} (C : lCx p l s m args meth c rt D Y Af R yl yd bs L xs) (I : lInv D Y Af s.heap yl yd o1 o2 b r n H locs) (hn : n ≤ 511) (hi : i + 5 ≤ L) (hls : lv_has ls 9 (lLs bs b r o1 o2 i)) (hf : cells + 8 ≤ R.cells ∧ slots + 6000 ≤ R.slots)
    (kk : ∀ (H1 : Heap) (locs1 : List Loc) (ls1 : Array Slot), lInv D Y Af s.heap yl yd o1 o2 b r (n + 1) H1 locs1 → lv_has ls1 9 (lLs bs b r o1 o2 i) → W p l e R s m args below meth c H1 locs1 (cells + 8) (slots + 6000) Q (F0 m 3541 ls1 [])) : W p l e R s m args below meth c H locs cells slots Q (F0 m 3514 ls []) := by
  obtain ⟨hF, hNc, hA1, hA2, hfl, hX, hbl, hbA, hL, hR⟩ := C
  obtain ⟨Sc, Sr, dq, cap, A, v1, v2, hJ, hc, hq⟩ := I
  have hx := hF.1
  have hb := hF.2.1
  obtain ⟨hw, hp, pa, ch, hr⟩ := id hc
  refine g_aload_n hx hb dL_law_3514 rfl (lv_at hls 1 rfl) ?_
  refine l_callV (As := []) (rest := []) hF hJ hq.fre (c_X4_checksum (c_checksum hr hw)) k_X4_checksum u188 u189 u190 rfl rfl hc.tag rfl hls.1 rfl (Nat.le_of_ble_eq_true rfl) dL_law_3515 ⟨Nat.le_trans (Nat.le_of_ble_eq_true rfl) hR.1, Nat.le_trans (Nat.le_of_ble_eq_true rfl) hR.2⟩ ⟨by show cells + 0 ≤ _; omega, by show slots + 0 ≤ _; omega⟩ (fun H1 locs1 z1 z2 J1 => ?_)
  refine g_aload_n hx hb dL_law_3518 rfl (lv_at hls 2 rfl) ?_
  have hq1 := hq.mono z2
  refine l_callR (As := []) (rest := [.long (q_checksum A)]) hF J1 (hc.mono z2).fre (c_X5_checksum (r_checksum hq1 hw)) k_X5_checksum u1562 u1563 u1564 rfl rfl hq.tag rfl hls.1 rfl (Nat.le_of_ble_eq_true rfl) dL_law_3519 ⟨Nat.le_trans (Nat.le_of_ble_eq_true rfl) hR.1, Nat.le_trans (Nat.le_of_ble_eq_true rfl) hR.2⟩ ⟨by show cells + 0 + 0 ≤ _; omega, by show slots + 0 + 0 ≤ _; omega⟩ (fun H2 locs2 z3 z4 J2 => ?_)
  refine lv_lcmp hx hb dL_law_3522 ?_
  rw [lc0]
  refine lv_if_eq (tgt := 3541) hx hb dL_law_3523 (by decide) (fun _ => ?_) (fun h => absurd rfl h)
  refine W.widen (k := cells + 8) (n := slots + 6000) (by show cells + 0 + 0 ≤ _; omega) (by show slots + 0 + 0 ≤ _; omega) (kk H2 locs2 ls ⟨Sc, _, dq, cap, A, v1, v2, J2, ?_, ?_⟩ hls)
  · exact (hc.up (by omega)).mono (by omega)
  · exact (hq1.thr 0).mono z4
set_option maxHeartbeats 4000000 in
set_option maxRecDepth 100000 in
theorem lc_isSound {p : Program} {l : Launch} {e : Env} {R : Room} {s : State} {m : MethodId} {args : Array Value} {below : List Frame} {meth : Method} {c : Code} {H : Heap} {locs : List Loc} {cells slots : Nat} {Q : State → Prop} {ls : Array Slot} {D : va_G} {Y : Nat → ClassId} {Af : Nat → Prop} {rt : Option FieldType} {yl yd : ClassId} {o1 o2 b r n bs L i : Nat} {xs : Nat → Int32} (C : lCx p l s m args meth c rt D Y Af R yl yd bs L xs) (I : lInv D Y Af s.heap yl yd o1 o2 b r n H locs) (hn : n ≤ 511) (hi : i + 5 ≤ L) (hls : lv_has ls 9 (lLs bs b r o1 o2 i)) (hf : cells + 8 ≤ R.cells ∧ slots + 6000 ≤ R.slots)
    (kk : ∀ (H1 : Heap) (locs1 : List Loc) (ls1 : Array Slot), lInv D Y Af s.heap yl yd o1 o2 b r (n + 1) H1 locs1 → lv_has ls1 9 (lLs bs b r o1 o2 i) → W p l e R s m args below meth c H1 locs1 (cells + 8) (slots + 6000) Q (F0 m 3541 ls1 [])) : W p l e R s m args below meth c H locs cells slots Q (F0 m 3528 ls []) := by
  obtain ⟨hF, hNc, hA1, hA2, hfl, hX, hbl, hbA, hL, hR⟩ := C
  obtain ⟨Sc, Sr, dq, cap, A, v1, v2, hJ, hc, hq⟩ := I
  have hx := hF.1
  have hb := hF.2.1
  obtain ⟨hw, hp, pa, ch, hr⟩ := id hc
  obtain ⟨S', hS, hc'⟩ := c_isSound hc
  refine g_aload_n hx hb dL_law_3528 rfl (lv_at hls 1 rfl) ?_
  refine l_callV (As := []) (rest := []) hF hJ hq.fre (c_X4_isSound hS) k_X4_isSound u241 u242 u243 rfl rfl hc.tag rfl hls.1 rfl (Nat.le_of_ble_eq_true rfl) dL_law_3529 ⟨Nat.le_trans (Nat.le_of_ble_eq_true rfl) hR.1, Nat.le_trans (Nat.le_of_ble_eq_true rfl) hR.2⟩ ⟨by show cells + 0 ≤ _; omega, by show slots + 0 ≤ _; omega⟩ (fun H1 locs1 z1 z2 J1 => ?_)
  refine g_aload_n hx hb dL_law_3532 rfl (lv_at hls 2 rfl) ?_
  have hq1 := hq.mono z2
  refine l_callR (As := []) (rest := [.int 1]) hF J1 (hc'.mono z2).fre (c_X5_isSound (r_isSound hq1)) k_X5_isSound u1566 u1567 u1568 rfl rfl hq.tag rfl hls.1 rfl (Nat.le_of_ble_eq_true rfl) dL_law_3533 ⟨Nat.le_trans (Nat.le_of_ble_eq_true rfl) hR.1, Nat.le_trans (Nat.le_of_ble_eq_true rfl) hR.2⟩ ⟨by show cells + 0 + 0 ≤ _; omega, by show slots + 0 + 0 ≤ _; omega⟩ (fun H2 locs2 z3 z4 J2 => ?_)
  refine lv_icmp_eq (tgt := 3541) hx hb dL_law_3536 (by decide) (fun _ => ?_) (fun h => absurd rfl h)
  refine W.widen (k := cells + 8) (n := slots + 6000) (by show cells + 0 + 0 ≤ _; omega) (by show slots + 0 + 0 ≤ _; omega) (kk H2 locs2 ls ⟨S', _, dq, cap, A, v1, v2, J2, ?_, ?_⟩ hls)
  · exact (hc'.up (by omega)).mono (by omega)
  · exact (hq1.thr 0).mono z4
theorem sw_nI (x : Int32) : ∃ j : Nat, j < 64 ∧ x &&& 63 = nI j := by
  refine ⟨x.toBitVec.toNat % 64, Nat.mod_lt _ (by decide), ?_⟩
  apply Int32.toBitVec_inj.mp
  apply BitVec.eq_of_toNat_eq
  have e : (x &&& 63).toBitVec = x.toBitVec &&& 63#32 := rfl
  rw [e, BitVec.toNat_and]
  have e2 : (63#32).toNat = 2 ^ 6 - 1 := by decide
  rw [e2, Nat.and_two_pow_sub_one_eq_mod]
  show x.toBitVec.toNat % 2 ^ 6 = (BitVec.ofNat 32 (x.toBitVec.toNat % 64)).toNat
  rw [BitVec.toNat_ofNat]
  generalize x.toBitVec.toNat = y
  omega
set_option maxHeartbeats 4000000 in
set_option maxRecDepth 100000 in
theorem l_loop {p : Program} {l : Launch} {e : Env} {R : Room} {s : State} {m : MethodId} {args : Array Value} {below : List Frame} {meth : Method} {c : Code} {Q : State → Prop} {D : va_G} {Y : Nat → ClassId} {Af : Nat → Prop} {rt : Option FieldType} {yl yd : ClassId} {o1 o2 b r bs L c0 s0 : Nat} {xs : Nat → Int32} (C : lCx p l s m args meth c rt D Y Af R yl yd bs L xs) (hR8 : c0 + 8 * 512 ≤ R.cells ∧ s0 + 6000 * 512 ≤ R.slots)
    (kend : ∀ (H : Heap) (locs : List Loc) (ls : Array Slot), va_S Af s.heap H locs → W p l e R s m args below meth c H locs (c0 + 8 * 512) (s0 + 6000 * 512) Q (F0 m 3547 ls [])) : ∀ (t n : Nat) (H : Heap) (locs : List Loc) (ls : Array Slot), lInv D Y Af s.heap yl yd o1 o2 b r n H locs → lv_has ls 9 (lLs bs b r o1 o2 (5 * n)) → n ≤ 512 → L ≤ 5 * n + 5 * t + 4 → W p l e R s m args below meth c H locs (c0 + 8 * n) (s0 + 6000 * n) Q (F0 m 28 ls []) := by
  obtain ⟨hF, hNc, hA1, hA2, hfl, hX, hbl, hbA, hL, hR⟩ := id C
  have hx := hF.1
  have hb := hF.2.1
  intro t
  induction t with
  | zero =>
    intro n H locs ls I hls hn hL2
    have hS : va_S Af s.heap H locs := I.choose_spec.choose_spec.choose_spec.choose_spec.choose_spec.choose_spec.choose_spec.1.1.2.2.2.1
    refine lv_iload hx hb dL_law_28 (lv_at hls 5 rfl) ?_
    refine g_aload_n hx hb dL_law_30 rfl (lv_at hls 0 rfl) ?_
    refine va_slen hx hb hX hbl hbA hS dL_law_31 ?_
    refine lv_iconst (v := 5) hx hb dL_law_32 (by decide) ?_
    refine lv_isub hx hb dL_law_33 ?_
    refine lv_icmp_gt (tgt := 3547) hx hb dL_law_34 (by decide) (fun _ => ?_) (fun h => absurd ?_ h)
    · exact W.widen (by omega) (by omega) (kend H locs ls hS)
    · exact lp_gt (by omega) (by omega) (by omega)
  | succ t ih =>
    intro n H locs ls I hls hn hL2
    have hS : va_S Af s.heap H locs := I.choose_spec.choose_spec.choose_spec.choose_spec.choose_spec.choose_spec.choose_spec.1.1.2.2.2.1
    refine lv_iload hx hb dL_law_28 (lv_at hls 5 rfl) ?_
    refine g_aload_n hx hb dL_law_30 rfl (lv_at hls 0 rfl) ?_
    refine va_slen hx hb hX hbl hbA hS dL_law_31 ?_
    refine lv_iconst (v := 5) hx hb dL_law_32 (by decide) ?_
    refine lv_isub hx hb dL_law_33 ?_
    refine lv_icmp_gt (tgt := 3547) hx hb dL_law_34 (by decide) (fun _ => ?_) (fun h => ?_)
    · exact W.widen (by omega) (by omega) (kend H locs ls hS)
    have hi : 5 * n + 5 ≤ L := by
      by_cases z : 5 * n + 5 ≤ L
      · exact z
      · exact absurd (lp_gt (by omega) (by omega) (by omega)) h
    have hn1 : n ≤ 511 := by omega
    have back : ∀ (H1 : Heap) (locs1 : List Loc) (ls1 : Array Slot), lInv D Y Af s.heap yl yd o1 o2 b r (n + 1) H1 locs1 → lv_has ls1 9 (lLs bs b r o1 o2 (5 * n)) → W p l e R s m args below meth c H1 locs1 (c0 + 8 * n + 8) (s0 + 6000 * n + 6000) Q (F0 m 3541 ls1 []) := by
      intro H1 locs1 ls1 I1 hl1
      have e5 : nI (5 * n) + Int32.ofInt 5 = nI (5 * (n + 1)) := by
        rw [show (5 * (n + 1)) = 5 * n + 5 by omega, ← nI_add]
        rfl
      refine lv_iinc (k := 5) (lv' := [(5, .int (nI (5 * (n + 1)))), (0, va_rf (some bs)), (1, va_rf (some b)), (2, va_rf (some r)), (3, va_rf (some o1)), (4, va_rf (some o2))]) hx hb dL_law_3541 hl1 rfl e5 (by decide) rfl (fun ls2 hl2 => ?_)
      refine lv_goto (tgt := 28) hx hb dL_law_3544 (by decide) ?_
      rw [show c0 + 8 * n + 8 = c0 + 8 * (n + 1) by omega, show s0 + 6000 * n + 6000 = s0 + 6000 * (n + 1) by omega]
      exact ih (n + 1) H1 locs1 ls2 I1 (lv_sub hl2 [1, 2, 3, 4, 5, 0] rfl) (by omega) (by omega)
    refine g_aload_n hx hb dL_law_37 rfl (lv_at hls 0 rfl) ?_
    refine lv_iload hx hb dL_law_38 (lv_at hls 5 rfl) ?_
    refine va_sld hx hb hX hbl hbA hS (i := nI (5 * n)) (by rw [vp_in_iff, nI_toInt (by omega)]; omega) dL_law_40 ?_
    refine lv_bipush (v := 63) hx hb dL_law_41 (by decide) ?_
    refine lv_iand hx hb dL_law_43 ?_
    obtain ⟨j, hj, ej⟩ := sw_nI (xs (nI (5 * n)).toNatClampNeg)
    rw [ej]
    have hf : c0 + 8 * n + 8 ≤ R.cells ∧ s0 + 6000 * n + 6000 ≤ R.slots := by omega
    by_cases h45 : 45 ≤ j
    · refine lv_tableOut (tgt := 3541) hx hb dL_law_44 (Or.inr (by rw [nI_toInt (by omega)]; omega)) (by decide) ?_
      refine W.widen (k := c0 + 8 * n + 8) (n := s0 + 6000 * n + 6000) (by omega) (by omega) (back H locs ls ?_ hls)
      obtain ⟨Sc, Sr, dq, cap, A, v1, v2, hJ, hc, hq⟩ := I
      exact ⟨Sc, Sr, dq, cap, A, v1, v2, hJ, hc.up (by omega), hq⟩
    rcases (show j = 0 ∨ j = 1 ∨ j = 2 ∨ j = 3 ∨ j = 4 ∨ j = 5 ∨ j = 6 ∨ j = 7 ∨ j = 8 ∨ j = 9 ∨ j = 10 ∨ j = 11 ∨ j = 12 ∨ j = 13 ∨ j = 14 ∨ j = 15 ∨ j = 16 ∨ j = 17 ∨ j = 18 ∨ j = 19 ∨ j = 20 ∨ j = 21 ∨ j = 22 ∨ j = 23 ∨ j = 24 ∨ j = 25 ∨ j = 26 ∨ j = 27 ∨ j = 28 ∨ j = 29 ∨ j = 30 ∨ j = 31 ∨ j = 32 ∨ j = 33 ∨ j = 34 ∨ j = 35 ∨ j = 36 ∨ j = 37 ∨ j = 38 ∨ j = 39 ∨ j = 40 ∨ j = 41 ∨ j = 42 ∨ j = 43 ∨ j = 44 by omega) with rfl | rfl | rfl | rfl | rfl | rfl | rfl | rfl | rfl | rfl | rfl | rfl | rfl | rfl | rfl | rfl | rfl | rfl | rfl | rfl | rfl | rfl | rfl | rfl | rfl | rfl | rfl | rfl | rfl | rfl | rfl | rfl | rfl | rfl | rfl | rfl | rfl | rfl | rfl | rfl | rfl | rfl | rfl | rfl | rfl
    · exact lv_tableIn (tgt := 240) hx hb dL_law_44 (by decide) (by decide) (off := 196) rfl (by decide) (lc_part C I hn1 hi hls hf back)
    · exact lv_tableIn (tgt := 332) hx hb dL_law_44 (by decide) (by decide) (off := 288) rfl (by decide) (lc_fixed C I hn1 hi hls hf back)
    · exact lv_tableIn (tgt := 400) hx hb dL_law_44 (by decide) (by decide) (off := 356) rfl (by decide) (lc_copies C I hn1 hi hls hf back)
    · exact lv_tableIn (tgt := 492) hx hb dL_law_44 (by decide) (by decide) (off := 448) rfl (by decide) (lc_alone C I hn1 hi hls hf back)
    · exact lv_tableIn (tgt := 572) hx hb dL_law_44 (by decide) (by decide) (off := 528) rfl (by decide) (lc_none C I hn1 hi hls hf back)
    · exact lv_tableIn (tgt := 628) hx hb dL_law_44 (by decide) (by decide) (off := 584) rfl (by decide) (lc_keys C I hn1 hi hls hf back)
    · exact lv_tableIn (tgt := 696) hx hb dL_law_44 (by decide) (by decide) (off := 652) rfl (by decide) (lc_values C I hn1 hi hls hf back)
    · exact lv_tableIn (tgt := 764) hx hb dL_law_44 (by decide) (by decide) (off := 720) rfl (by decide) (lc_kind C I hn1 hi hls hf back)
    · exact lv_tableIn (tgt := 820) hx hb dL_law_44 (by decide) (by decide) (off := 776) rfl (by decide) (lc_size C I hn1 hi hls hf back)
    · exact lv_tableIn (tgt := 876) hx hb dL_law_44 (by decide) (by decide) (off := 832) rfl (by decide) (lc_walk C I hn1 hi hls hf back)
    · exact lv_tableIn (tgt := 959) hx hb dL_law_44 (by decide) (by decide) (off := 915) rfl (by decide) (lc_isSame C I hn1 hi hls hf back)
    · exact lv_tableIn (tgt := 1034) hx hb dL_law_44 (by decide) (by decide) (off := 990) rfl (by decide) (lc_hash C I hn1 hi hls hf back)
    · exact lv_tableIn (tgt := 1090) hx hb dL_law_44 (by decide) (by decide) (off := 1046) rfl (by decide) (lc_keyAt C I hn1 hi hls hf back)
    · exact lv_tableIn (tgt := 1158) hx hb dL_law_44 (by decide) (by decide) (off := 1114) rfl (by decide) (lc_markAt C I hn1 hi hls hf back)
    · exact lv_tableIn (tgt := 1226) hx hb dL_law_44 (by decide) (by decide) (off := 1182) rfl (by decide) (lc_placeOf C I hn1 hi hls hf back)
    · exact lv_tableIn (tgt := 1334) hx hb dL_law_44 (by decide) (by decide) (off := 1290) rfl (by decide) (lc_put C I hn1 hi hls hf back)
    · exact lv_tableIn (tgt := 1426) hx hb dL_law_44 (by decide) (by decide) (off := 1382) rfl (by decide) (lc_set C I hn1 hi hls hf back)
    · exact lv_tableIn (tgt := 1518) hx hb dL_law_44 (by decide) (by decide) (off := 1474) rfl (by decide) (lc_take C I hn1 hi hls hf back)
    · exact lv_tableIn (tgt := 1586) hx hb dL_law_44 (by decide) (by decide) (off := 1542) rfl (by decide) (lc_drop C I hn1 hi hls hf back)
    · exact lv_tableIn (tgt := 1673) hx hb dL_law_44 (by decide) (by decide) (off := 1629) rfl (by decide) (lc_wipe C I hn1 hi hls hf back)
    · exact lv_tableIn (tgt := 1729) hx hb dL_law_44 (by decide) (by decide) (off := 1685) rfl (by decide) (lc_putAll C I hn1 hi hls hf back)
    · exact lv_tableIn (tgt := 1809) hx hb dL_law_44 (by decide) (by decide) (off := 1765) rfl (by decide) (lc_keep C I hn1 hi hls hf back)
    · exact lv_tableIn (tgt := 1905) hx hb dL_law_44 (by decide) (by decide) (off := 1861) rfl (by decide) (lc_strip C I hn1 hi hls hf back)
    · exact lv_tableIn (tgt := 1973) hx hb dL_law_44 (by decide) (by decide) (off := 1929) rfl (by decide) (lc_weave C I hn1 hi hls hf back)
    · exact lv_tableIn (tgt := 2053) hx hb dL_law_44 (by decide) (by decide) (off := 2009) rfl (by decide) (lc_raise C I hn1 hi hls hf back)
    · exact lv_tableIn (tgt := 2121) hx hb dL_law_44 (by decide) (by decide) (off := 2077) rfl (by decide) (lc_sort C I hn1 hi hls hf back)
    · exact lv_tableIn (tgt := 2191) hx hb dL_law_44 (by decide) (by decide) (off := 2147) rfl (by decide) (lc_search C I hn1 hi hls hf back)
    · exact lv_tableIn (tgt := 2259) hx hb dL_law_44 (by decide) (by decide) (off := 2215) rfl (by decide) (lc_turn C I hn1 hi hls hf back)
    · exact lv_tableIn (tgt := 2315) hx hb dL_law_44 (by decide) (by decide) (off := 2271) rfl (by decide) (lc_swap C I hn1 hi hls hf back)
    · exact lv_tableIn (tgt := 2395) hx hb dL_law_44 (by decide) (by decide) (off := 2351) rfl (by decide) (lc_rotate C I hn1 hi hls hf back)
    · exact lv_tableIn (tgt := 2463) hx hb dL_law_44 (by decide) (by decide) (off := 2419) rfl (by decide) (lc_fill C I hn1 hi hls hf back)
    · exact lv_tableIn (tgt := 2543) hx hb dL_law_44 (by decide) (by decide) (off := 2499) rfl (by decide) (lc_rowIn C I hn1 hi hls hf back)
    · exact lv_tableIn (tgt := 2639) hx hb dL_law_44 (by decide) (by decide) (off := 2595) rfl (by decide) (lc_often C I hn1 hi hls hf back)
    · exact lv_tableIn (tgt := 2719) hx hb dL_law_44 (by decide) (by decide) (off := 2675) rfl (by decide) (lc_areApart C I hn1 hi hls hf back)
    · exact lv_tableIn (tgt := 2794) hx hb dL_law_44 (by decide) (by decide) (off := 2750) rfl (by decide) (lc_end C I hn1 hi hls hf back)
    · exact lv_tableIn (tgt := 2878) hx hb dL_law_44 (by decide) (by decide) (off := 2834) rfl (by decide) (lc_enter C I hn1 hi hls hf back)
    · exact lv_tableIn (tgt := 2977) hx hb dL_law_44 (by decide) (by decide) (off := 2933) rfl (by decide) (lc_strike C I hn1 hi hls hf back)
    · exact lv_tableIn (tgt := 3052) hx hb dL_law_44 (by decide) (by decide) (off := 3008) rfl (by decide) (lc_hasNumber C I hn1 hi hls hf back)
    · exact lv_tableIn (tgt := 3127) hx hb dL_law_44 (by decide) (by decide) (off := 3083) rfl (by decide) (lc_thingOf C I hn1 hi hls hf back)
    · exact lv_tableIn (tgt := 3195) hx hb dL_law_44 (by decide) (by decide) (off := 3151) rfl (by decide) (lc_numberAt C I hn1 hi hls hf back)
    · exact lv_tableIn (tgt := 3263) hx hb dL_law_44 (by decide) (by decide) (off := 3219) rfl (by decide) (lc_keepKeys C I hn1 hi hls hf back)
    · exact lv_tableIn (tgt := 3359) hx hb dL_law_44 (by decide) (by decide) (off := 3315) rfl (by decide) (lc_share C I hn1 hi hls hf back)
    · exact lv_tableIn (tgt := 3437) hx hb dL_law_44 (by decide) (by decide) (off := 3393) rfl (by decide) (lc_meanKey C I hn1 hi hls hf back)
    · exact lv_tableIn (tgt := 3514) hx hb dL_law_44 (by decide) (by decide) (off := 3470) rfl (by decide) (lc_checksum C I hn1 hi hls hf back)
    · exact lv_tableIn (tgt := 3528) hx hb dL_law_44 (by decide) (by decide) (off := 3484) rfl (by decide) (lc_isSound C I hn1 hi hls hf back)
