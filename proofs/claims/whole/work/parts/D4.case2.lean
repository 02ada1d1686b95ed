/-! the law's cases: hash, keyAt, markAt, placeOf, put, set, take, drop, wipe, putAll, keep -/
theorem lz_hash {l : Launch} {D : va_G} {Y : Nat → ClassId} {Sc Sr : GS} {hs : Nat} {yl : ClassId} {o : Nat} {c0 : Value} {b r n cap : Nat} {dq : Nat → Nat} {A : AS} (hfl : l.stackTraces = false) (hc : Rc b n Sc hs A) (hq : Rq r dq cap Sr hs A) (hn : n ≤ 511) (x1 : Int32) : lZ l yL_hash (lWs yL_hash cL_hash 4 [(0, 9, 12, 13), (0, 9, 15, 15)]) [va_rf (some b), .int x1, va_rf (some o)] D Y Sc hs .long yl o c0 b r (n + 1) (fun c v => c = .long v.toInt64) (fun hs2 => rL hs2 (f_X5_hash Sr r x1)) := by
  obtain ⟨hw, hp, pa, ch, hr⟩ := id hc
  exact lZ_ask (lx := [1, 2]) (rm1 := rmL_hash) (rm2 := rmLx_hash) (g := fun v => .long v.toInt64) hc hq hn ⟨by decide, by decide⟩ ⟨(Nat.le_of_ble_eq_true rfl), (Nat.le_of_ble_eq_true rfl), (Nat.le_of_ble_eq_true rfl), (Nat.le_of_ble_eq_true rfl)⟩ ⟨(Nat.le_of_ble_eq_true rfl), (Nat.le_of_ble_eq_true rfl), (Nat.le_of_ble_eq_true rfl), (Nat.le_of_ble_eq_true rfl)⟩ (c_hash hr hw x1) (r_hash hq hw x1) (hz_same (V := Int32) (g := fun v => .long v.toInt64) (Ok := fun c v => c = .long v.toInt64) fun v _ => rfl) (fun v e => cL_hash_r e hc.tag) (fun x i e hi => cL_hash_x hfl e hc.tag hi)
set_option maxHeartbeats 4000000 in
set_option maxRecDepth 100000 in
theorem lc_hash {p : Program} {l : Launch} {e : Env} {R : Room} {s : State} {m : MethodId} {args : Array Value} {below : List Frame} {meth : Method} {c : Code} {H : Heap} {locs : List Loc} {cells slots : Nat} {Q : State → Prop} {ls : Array Slot} {D : va_G} {Y : Nat → ClassId} {Af : Nat → Prop} {rt : Option FieldType} {yl yd : ClassId} {o1 o2 b r n bs L i : Nat} {xs : Nat → Int32} (C : lCx p l s m args meth c rt D Y Af R yl yd bs L xs) (I : lInv D Y Af s.heap yl yd o1 o2 b r n H locs) (hn : n ≤ 511) (hi : i + 5 ≤ L) (hls : lv_has ls 9 (lLs bs b r o1 o2 i)) (hf : cells + 8 ≤ R.cells ∧ slots + 6000 ≤ R.slots)
    (kk : ∀ (H1 : Heap) (locs1 : List Loc) (ls1 : Array Slot), lInv D Y Af s.heap yl yd o1 o2 b r (n + 1) H1 locs1 → lv_has ls1 9 (lLs bs b r o1 o2 i) → W p l e R s m args below meth c H1 locs1 (cells + 8) (slots + 6000) Q (F0 m 3541 ls1 [])) : W p l e R s m args below meth c H locs cells slots Q (F0 m 1034 ls []) := by
  obtain ⟨hF, hNc, hA1, hA2, hfl, hX, hbl, hbA, hL, hR⟩ := C
  obtain ⟨Sc, Sr, dq, cap, A, v1, v2, hJ, hc, hq⟩ := I
  have hx := hF.1
  have hb := hF.2.1
  have g5 : lRm5 rm_X5_hash := ⟨(Nat.le_of_ble_eq_true rfl), (Nat.le_of_ble_eq_true rfl), (Nat.le_of_ble_eq_true rfl), (Nat.le_of_ble_eq_true rfl)⟩
  obtain ⟨rm, k, c1, Sc', hs', hrm, hMet, hOK⟩ := lz_hash (D := D) (Y := Y) (yl := yl) (o := o1) (c0 := v1) hfl hc hq hn (xs (i + 1))
  refine g_aload_n hx hb dL_law_1034 rfl (lv_at hls 1 rfl) ?_
  refine l_arg (jj := 1) hx hb hX hbl hbA hJ.1.2.2.2.1 (lv_at hls 0 rfl) (lv_at hls 5 rfl) (by omega) hL dL_law_1035 dL_law_1036 dL_law_1038 (by decide) dL_law_1039 dL_law_1040 ?_
  refine g_aload_n hx hb dL_law_1041 rfl (lv_at hls 3 rfl) ?_
  refine l_callW (rest := []) hF hNc hA1 hJ hq.fre hMet kL_hash u673 u674 rfl hls.1 rfl (Nat.le_of_ble_eq_true rfl) dL_law_1042 (hrm.fit hR (Nat.le_of_ble_eq_true rfl)) (hrm.fit2 hf) (fun H1 locs1 z1 z2 J1 => ?_)
  obtain ⟨v, Sr', hs3, dq', cap', A', h5, hle, hk, hOk, hc', hq'⟩ := hOK H1.size z1
  refine lv_istore (i := 6) (lv' := (6, .int k) :: lLs bs b r o1 o2 i) hx hb dL_law_1045 hls (by decide) rfl (fun ls1 hl1 => ?_)
  refine g_aload_n hx hb dL_law_1047 rfl (lv_at hl1 3 rfl) ?_
  refine l_arg (jj := 1) hx hb hX hbl hbA J1.1.2.2.2.1 (lv_at hl1 1 rfl) (lv_at hl1 6 rfl) (by omega) hL dL_law_1048 dL_law_1049 dL_law_1051 (by decide) dL_law_1052 dL_law_1053 ?_
  obtain ⟨h6, rfl⟩ := rL_of h5
  refine l_callR (As := [.int (xs (i + 1))]) (rest := []) hF J1 hc'.fre (c_X5_hash h6) k_X5_hash u1538 u1539 u1540 rfl rfl hq.tag rfl hl1.1 rfl (Nat.le_of_ble_eq_true rfl) dL_law_1054 (g5.fit hR (Nat.le_of_ble_eq_true rfl)) (lRm5.fit2 hrm g5 hf) (fun H2 locs2 z3 z4 J2 => ?_)
  refine lv_istore (i := 7) (lv' := (7, .int v) :: (6, .int k) :: lLs bs b r o1 o2 i) hx hb dL_law_1057 hl1 (by decide) rfl (fun ls2 hl2 => ?_)
  refine l_thr hF J2 (hc'.mono z4).fre hq'.tag hk (lv_at hl2 4 rfl) (lv_at hl2 1 rfl) hl2.1 u1132 u1133 u1134 hR (lRm5.fit2 hrm g5 hf) dL_law_1059 dL_law_1060 dL_law_1063 dL_law_1065 (fun H3 locs3 z5 J3 => ?_)
  refine l_cmpI hF hA1 J3 (lv_at hl2 5 rfl) (lv_at hl2 1 rfl) (lv_at hl2 0 rfl) hOk dL_law_1070 dL_law_1072 dL_law_1075 dL_law_1076 dL_law_1077 dL_law_1078 dL_law_1080 dL_law_1081 dL_law_1082 dL_law_1087 (by decide) ?_
  refine W.widen (lRm5.fit3 (slots := slots) hrm g5).1 (lRm5.fit3 (cells := cells) hrm g5).2 (kk H3 locs3 ls2 ⟨Sc', Sr', dq', cap', A', c1, v2, J3, ?_, ?_⟩ (lv_sub hl2 [2, 3, 4, 5, 6, 7] rfl))
  · exact hc'.mono (by omega)
  · exact hq'.mono (by omega)
theorem lz_keyAt {l : Launch} {D : va_G} {Y : Nat → ClassId} {Sc Sr : GS} {hs : Nat} {yl : ClassId} {o : Nat} {c0 : Value} {b r n cap : Nat} {dq : Nat → Nat} {A : AS} (hfl : l.stackTraces = false) (hc : Rc b n Sc hs A) (hq : Rq r dq cap Sr hs A) (hn : n ≤ 511) (x1 x2 : Int32) : lZ l yL_keyAt (lWs yL_keyAt cL_keyAt 5 [(0, 10, 13, 13), (0, 10, 17, 15), (0, 10, 21, 17)]) [va_rf (some b), .int x1, .int x2, va_rf (some o)] D Y Sc hs .long yl o c0 b r (n + 1) (fun c v => c = .long v.toInt64) (fun hs2 => rL hs2 (f_X5_keyAt Sr r x1 x2)) := by
  obtain ⟨hw, hp, pa, ch, hr⟩ := id hc
  exact lZ_ask (lx := [1, 2, 4]) (rm1 := rmL_keyAt) (rm2 := rmLx_keyAt) (g := fun v => .long v.toInt64) hc hq hn ⟨by decide, by decide⟩ ⟨(Nat.le_of_ble_eq_true rfl), (Nat.le_of_ble_eq_true rfl), (Nat.le_of_ble_eq_true rfl), (Nat.le_of_ble_eq_true rfl)⟩ ⟨(Nat.le_of_ble_eq_true rfl), (Nat.le_of_ble_eq_true rfl), (Nat.le_of_ble_eq_true rfl), (Nat.le_of_ble_eq_true rfl)⟩ (c_keyAt hr hw x1 x2) (r_keyAt hq hw x1 x2) (hz_same (V := Int32) (g := fun v => .long v.toInt64) (Ok := fun c v => c = .long v.toInt64) fun v _ => rfl) (fun v e => cL_keyAt_r e hc.tag) (fun x i e hi => cL_keyAt_x hfl e hc.tag hi)
set_option maxHeartbeats 4000000 in
set_option maxRecDepth 100000 in
theorem lc_keyAt {p : Program} {l : Launch} {e : Env} {R : Room} {s : State} {m : MethodId} {args : Array Value} {below : List Frame} {meth : Method} {c : Code} {H : Heap} {locs : List Loc} {cells slots : Nat} {Q : State → Prop} {ls : Array Slot} {D : va_G} {Y : Nat → ClassId} {Af : Nat → Prop} {rt : Option FieldType} {yl yd : ClassId} {o1 o2 b r n bs L i : Nat} {xs : Nat → Int32} (C : lCx p l s m args meth c rt D Y Af R yl yd bs L xs) (I : lInv D Y Af s.heap yl yd o1 o2 b r n H locs) (hn : n ≤ 511) (hi : i + 5 ≤ L) (hls : lv_has ls 9 (lLs bs b r o1 o2 i)) (hf : cells + 8 ≤ R.cells ∧ slots + 6000 ≤ R.slots)
    (kk : ∀ (H1 : Heap) (locs1 : List Loc) (ls1 : Array Slot), lInv D Y Af s.heap yl yd o1 o2 b r (n + 1) H1 locs1 → lv_has ls1 9 (lLs bs b r o1 o2 i) → W p l e R s m args below meth c H1 locs1 (cells + 8) (slots + 6000) Q (F0 m 3541 ls1 [])) : W p l e R s m args below meth c H locs cells slots Q (F0 m 1090 ls []) := by
  obtain ⟨hF, hNc, hA1, hA2, hfl, hX, hbl, hbA, hL, hR⟩ := C
  obtain ⟨Sc, Sr, dq, cap, A, v1, v2, hJ, hc, hq⟩ := I
  have hx := hF.1
  have hb := hF.2.1
  have g5 : lRm5 rm_X5_keyAt := ⟨(Nat.le_of_ble_eq_true rfl), (Nat.le_of_ble_eq_true rfl), (Nat.le_of_ble_eq_true rfl), (Nat.le_of_ble_eq_true rfl)⟩
  obtain ⟨rm, k, c1, Sc', hs', hrm, hMet, hOK⟩ := lz_keyAt (D := D) (Y := Y) (yl := yl) (o := o1) (c0 := v1) hfl hc hq hn (xs (i + 1)) (xs (i + 2))
  refine g_aload_n hx hb dL_law_1090 rfl (lv_at hls 1 rfl) ?_
  refine l_arg (jj := 1) hx hb hX hbl hbA hJ.1.2.2.2.1 (lv_at hls 0 rfl) (lv_at hls 5 rfl) (by omega) hL dL_law_1091 dL_law_1092 dL_law_1094 (by decide) dL_law_1095 dL_law_1096 ?_
  refine l_arg (jj := 2) hx hb hX hbl hbA hJ.1.2.2.2.1 (lv_at hls 0 rfl) (lv_at hls 5 rfl) (by omega) hL dL_law_1097 dL_law_1098 dL_law_1100 (by decide) dL_law_1101 dL_law_1102 ?_
  refine g_aload_n hx hb dL_law_1103 rfl (lv_at hls 3 rfl) ?_
  refine l_callW (rest := []) hF hNc hA1 hJ hq.fre hMet kL_keyAt u685 u686 rfl hls.1 rfl (Nat.le_of_ble_eq_true rfl) dL_law_1104 (hrm.fit hR (Nat.le_of_ble_eq_true rfl)) (hrm.fit2 hf) (fun H1 locs1 z1 z2 J1 => ?_)
  obtain ⟨v, Sr', hs3, dq', cap', A', h5, hle, hk, hOk, hc', hq'⟩ := hOK H1.size z1
  refine lv_istore (i := 6) (lv' := (6, .int k) :: lLs bs b r o1 o2 i) hx hb dL_law_1107 hls (by decide) rfl (fun ls1 hl1 => ?_)
  refine g_aload_n hx hb dL_law_1109 rfl (lv_at hl1 3 rfl) ?_
  refine l_arg (jj := 1) hx hb hX hbl hbA J1.1.2.2.2.1 (lv_at hl1 1 rfl) (lv_at hl1 6 rfl) (by omega) hL dL_law_1110 dL_law_1111 dL_law_1113 (by decide) dL_law_1114 dL_law_1115 ?_
  refine l_arg (jj := 2) hx hb hX hbl hbA J1.1.2.2.2.1 (lv_at hl1 1 rfl) (lv_at hl1 6 rfl) (by omega) hL dL_law_1116 dL_law_1117 dL_law_1119 (by decide) dL_law_1120 dL_law_1121 ?_
  obtain ⟨h6, rfl⟩ := rL_of h5
  refine l_callR (As := [.int (xs (i + 1)), .int (xs (i + 2))]) (rest := []) hF J1 hc'.fre (c_X5_keyAt h6) k_X5_keyAt u1542 u1543 u1544 rfl rfl hq.tag rfl hl1.1 rfl (Nat.le_of_ble_eq_true rfl) dL_law_1122 (g5.fit hR (Nat.le_of_ble_eq_true rfl)) (lRm5.fit2 hrm g5 hf) (fun H2 locs2 z3 z4 J2 => ?_)
  refine lv_istore (i := 7) (lv' := (7, .int v) :: (6, .int k) :: lLs bs b r o1 o2 i) hx hb dL_law_1125 hl1 (by decide) rfl (fun ls2 hl2 => ?_)
  refine l_thr hF J2 (hc'.mono z4).fre hq'.tag hk (lv_at hl2 4 rfl) (lv_at hl2 1 rfl) hl2.1 u1132 u1133 u1134 hR (lRm5.fit2 hrm g5 hf) dL_law_1127 dL_law_1128 dL_law_1131 dL_law_1133 (fun H3 locs3 z5 J3 => ?_)
  refine l_cmpI hF hA1 J3 (lv_at hl2 5 rfl) (lv_at hl2 1 rfl) (lv_at hl2 0 rfl) hOk dL_law_1138 dL_law_1140 dL_law_1143 dL_law_1144 dL_law_1145 dL_law_1146 dL_law_1148 dL_law_1149 dL_law_1150 dL_law_1155 (by decide) ?_
  refine W.widen (lRm5.fit3 (slots := slots) hrm g5).1 (lRm5.fit3 (cells := cells) hrm g5).2 (kk H3 locs3 ls2 ⟨Sc', Sr', dq', cap', A', c1, v2, J3, ?_, ?_⟩ (lv_sub hl2 [2, 3, 4, 5, 6, 7] rfl))
  · exact hc'.mono (by omega)
  · exact hq'.mono (by omega)
theorem lz_markAt {l : Launch} {D : va_G} {Y : Nat → ClassId} {Sc Sr : GS} {hs : Nat} {yl : ClassId} {o : Nat} {c0 : Value} {b r n cap : Nat} {dq : Nat → Nat} {A : AS} (hfl : l.stackTraces = false) (hc : Rc b n Sc hs A) (hq : Rq r dq cap Sr hs A) (hn : n ≤ 511) (x1 x2 : Int32) : lZ l yL_markAt (lWs yL_markAt cL_markAt 5 [(0, 10, 13, 13), (0, 10, 17, 15), (0, 10, 21, 17)]) [va_rf (some b), .int x1, .int x2, va_rf (some o)] D Y Sc hs .long yl o c0 b r (n + 1) (fun c v => c = .long v.toInt64) (fun hs2 => rL hs2 (f_X5_markAt Sr r x1 x2)) := by
  obtain ⟨hw, hp, pa, ch, hr⟩ := id hc
  exact lZ_ask (lx := [1, 2, 4]) (rm1 := rmL_markAt) (rm2 := rmLx_markAt) (g := fun v => .long v.toInt64) hc hq hn ⟨by decide, by decide⟩ ⟨(Nat.le_of_ble_eq_true rfl), (Nat.le_of_ble_eq_true rfl), (Nat.le_of_ble_eq_true rfl), (Nat.le_of_ble_eq_true rfl)⟩ ⟨(Nat.le_of_ble_eq_true rfl), (Nat.le_of_ble_eq_true rfl), (Nat.le_of_ble_eq_true rfl), (Nat.le_of_ble_eq_true rfl)⟩ (c_markAt hr hw x1 x2) (r_markAt hq hw x1 x2) (hz_same (V := Int32) (g := fun v => .long v.toInt64) (Ok := fun c v => c = .long v.toInt64) fun v _ => rfl) (fun v e => cL_markAt_r e hc.tag) (fun x i e hi => cL_markAt_x hfl e hc.tag hi)
set_option maxHeartbeats 4000000 in
set_option maxRecDepth 100000 in
theorem lc_markAt {p : Program} {l : Launch} {e : Env} {R : Room} {s : State} {m : MethodId} {args : Array Value} {below : List Frame} {meth : Method} {c : Code} {H : Heap} {locs : List Loc} {cells slots : Nat} {Q : State → Prop} {ls : Array Slot} {D : va_G} {Y : Nat → ClassId} {Af : Nat → Prop} {rt : Option FieldType} {yl yd : ClassId} {o1 o2 b r n bs L i : Nat} {xs : Nat → Int32} (C : lCx p l s m args meth c rt D Y Af R yl yd bs L xs) (I : lInv D Y Af s.heap yl yd o1 o2 b r n H locs) (hn : n ≤ 511) (hi : i + 5 ≤ L) (hls : lv_has ls 9 (lLs bs b r o1 o2 i)) (hf : cells + 8 ≤ R.cells ∧ slots + 6000 ≤ R.slots)
    (kk : ∀ (H1 : Heap) (locs1 : List Loc) (ls1 : Array Slot), lInv D Y Af s.heap yl yd o1 o2 b r (n + 1) H1 locs1 → lv_has ls1 9 (lLs bs b r o1 o2 i) → W p l e R s m args below meth c H1 locs1 (cells + 8) (slots + 6000) Q (F0 m 3541 ls1 [])) : W p l e R s m args below meth c H locs cells slots Q (F0 m 1158 ls []) := by
  obtain ⟨hF, hNc, hA1, hA2, hfl, hX, hbl, hbA, hL, hR⟩ := C
  obtain ⟨Sc, Sr, dq, cap, A, v1, v2, hJ, hc, hq⟩ := I
  have hx := hF.1
  have hb := hF.2.1
  have g5 : lRm5 rm_X5_markAt := ⟨(Nat.le_of_ble_eq_true rfl), (Nat.le_of_ble_eq_true rfl), (Nat.le_of_ble_eq_true rfl), (Nat.le_of_ble_eq_true rfl)⟩
  obtain ⟨rm, k, c1, Sc', hs', hrm, hMet, hOK⟩ := lz_markAt (D := D) (Y := Y) (yl := yl) (o := o1) (c0 := v1) hfl hc hq hn (xs (i + 1)) (xs (i + 2))
  refine g_aload_n hx hb dL_law_1158 rfl (lv_at hls 1 rfl) ?_
  refine l_arg (jj := 1) hx hb hX hbl hbA hJ.1.2.2.2.1 (lv_at hls 0 rfl) (lv_at hls 5 rfl) (by omega) hL dL_law_1159 dL_law_1160 dL_law_1162 (by decide) dL_law_1163 dL_law_1164 ?_
  refine l_arg (jj := 2) hx hb hX hbl hbA hJ.1.2.2.2.1 (lv_at hls 0 rfl) (lv_at hls 5 rfl) (by omega) hL dL_law_1165 dL_law_1166 dL_law_1168 (by decide) dL_law_1169 dL_law_1170 ?_
  refine g_aload_n hx hb dL_law_1171 rfl (lv_at hls 3 rfl) ?_
  refine l_callW (rest := []) hF hNc hA1 hJ hq.fre hMet kL_markAt u700 u701 rfl hls.1 rfl (Nat.le_of_ble_eq_true rfl) dL_law_1172 (hrm.fit hR (Nat.le_of_ble_eq_true rfl)) (hrm.fit2 hf) (fun H1 locs1 z1 z2 J1 => ?_)
  obtain ⟨v, Sr', hs3, dq', cap', A', h5, hle, hk, hOk, hc', hq'⟩ := hOK H1.size z1
  refine lv_istore (i := 6) (lv' := (6, .int k) :: lLs bs b r o1 o2 i) hx hb dL_law_1175 hls (by decide) rfl (fun ls1 hl1 => ?_)
  refine g_aload_n hx hb dL_law_1177 rfl (lv_at hl1 3 rfl) ?_
  refine l_arg (jj := 1) hx hb hX hbl hbA J1.1.2.2.2.1 (lv_at hl1 1 rfl) (lv_at hl1 6 rfl) (by omega) hL dL_law_1178 dL_law_1179 dL_law_1181 (by decide) dL_law_1182 dL_law_1183 ?_
  refine l_arg (jj := 2) hx hb hX hbl hbA J1.1.2.2.2.1 (lv_at hl1 1 rfl) (lv_at hl1 6 rfl) (by omega) hL dL_law_1184 dL_law_1185 dL_law_1187 (by decide) dL_law_1188 dL_law_1189 ?_
  obtain ⟨h6, rfl⟩ := rL_of h5
  refine l_callR (As := [.int (xs (i + 1)), .int (xs (i + 2))]) (rest := []) hF J1 hc'.fre (c_X5_markAt h6) k_X5_markAt u1546 u1547 u1548 rfl rfl hq.tag rfl hl1.1 rfl (Nat.le_of_ble_eq_true rfl) dL_law_1190 (g5.fit hR (Nat.le_of_ble_eq_true rfl)) (lRm5.fit2 hrm g5 hf) (fun H2 locs2 z3 z4 J2 => ?_)
  refine lv_istore (i := 7) (lv' := (7, .int v) :: (6, .int k) :: lLs bs b r o1 o2 i) hx hb dL_law_1193 hl1 (by decide) rfl (fun ls2 hl2 => ?_)
  refine l_thr hF J2 (hc'.mono z4).fre hq'.tag hk (lv_at hl2 4 rfl) (lv_at hl2 1 rfl) hl2.1 u1132 u1133 u1134 hR (lRm5.fit2 hrm g5 hf) dL_law_1195 dL_law_1196 dL_law_1199 dL_law_1201 (fun H3 locs3 z5 J3 => ?_)
  refine l_cmpI hF hA1 J3 (lv_at hl2 5 rfl) (lv_at hl2 1 rfl) (lv_at hl2 0 rfl) hOk dL_law_1206 dL_law_1208 dL_law_1211 dL_law_1212 dL_law_1213 dL_law_1214 dL_law_1216 dL_law_1217 dL_law_1218 dL_law_1223 (by decide) ?_
  refine W.widen (lRm5.fit3 (slots := slots) hrm g5).1 (lRm5.fit3 (cells := cells) hrm g5).2 (kk H3 locs3 ls2 ⟨Sc', Sr', dq', cap', A', c1, v2, J3, ?_, ?_⟩ (lv_sub hl2 [2, 3, 4, 5, 6, 7] rfl))
  · exact hc'.mono (by omega)
  · exact hq'.mono (by omega)
theorem lz_placeOf {l : Launch} {D : va_G} {Y : Nat → ClassId} {Sc Sr : GS} {hs : Nat} {yl : ClassId} {o : Nat} {c0 : Value} {b r n cap : Nat} {dq : Nat → Nat} {A : AS} (hfl : l.stackTraces = false) (hc : Rc b n Sc hs A) (hq : Rq r dq cap Sr hs A) (hn : n ≤ 511) (x1 x2 x3 x4 : Int32) : lZ l yL_placeOf (lWs yL_placeOf cL_placeOf 7 [(0, 14, 17, 13), (0, 14, 21, 15)]) [va_rf (some b), .int x1, .int x2, .int x3, .int x4, va_rf (some o)] D Y Sc hs .long yl o c0 b r (n + 1) (fun c v => c = .long v.toInt64) (fun hs2 => rL hs2 (f_X5_placeOf Sr r x1 x2 x3 x4)) := by
  obtain ⟨hw, hp, pa, ch, hr⟩ := id hc
  exact lZ_ask (lx := [1, 2]) (rm1 := rmL_placeOf) (rm2 := rmLx_placeOf) (g := fun v => .long v.toInt64) hc hq hn ⟨by decide, by decide⟩ ⟨(Nat.le_of_ble_eq_true rfl), (Nat.le_of_ble_eq_true rfl), (Nat.le_of_ble_eq_true rfl), (Nat.le_of_ble_eq_true rfl)⟩ ⟨(Nat.le_of_ble_eq_true rfl), (Nat.le_of_ble_eq_true rfl), (Nat.le_of_ble_eq_true rfl), (Nat.le_of_ble_eq_true rfl)⟩ (c_placeOf hr hw x1 x2 x3 x4) (r_placeOf hq hw x1 x2 x3 x4) (hz_same (V := Int32) (g := fun v => .long v.toInt64) (Ok := fun c v => c = .long v.toInt64) fun v _ => rfl) (fun v e => cL_placeOf_r e hc.tag) (fun x i e hi => cL_placeOf_x hfl e hc.tag hi)
set_option maxHeartbeats 4000000 in
set_option maxRecDepth 100000 in
theorem lc_placeOf {p : Program} {l : Launch} {e : Env} {R : Room} {s : State} {m : MethodId} {args : Array Value} {below : List Frame} {meth : Method} {c : Code} {H : Heap} {locs : List Loc} {cells slots : Nat} {Q : State → Prop} {ls : Array Slot} {D : va_G} {Y : Nat → ClassId} {Af : Nat → Prop} {rt : Option FieldType} {yl yd : ClassId} {o1 o2 b r n bs L i : Nat} {xs : Nat → Int32} (C : lCx p l s m args meth c rt D Y Af R yl yd bs L xs) (I : lInv D Y Af s.heap yl yd o1 o2 b r n H locs) (hn : n ≤ 511) (hi : i + 5 ≤ L) (hls : lv_has ls 9 (lLs bs b r o1 o2 i)) (hf : cells + 8 ≤ R.cells ∧ slots + 6000 ≤ R.slots)
    (kk : ∀ (H1 : Heap) (locs1 : List Loc) (ls1 : Array Slot), lInv D Y Af s.heap yl yd o1 o2 b r (n + 1) H1 locs1 → lv_has ls1 9 (lLs bs b r o1 o2 i) → W p l e R s m args below meth c H1 locs1 (cells + 8) (slots + 6000) Q (F0 m 3541 ls1 [])) : W p l e R s m args below meth c H locs cells slots Q (F0 m 1226 ls []) := by
  obtain ⟨hF, hNc, hA1, hA2, hfl, hX, hbl, hbA, hL, hR⟩ := C
  obtain ⟨Sc, Sr, dq, cap, A, v1, v2, hJ, hc, hq⟩ := I
  have hx := hF.1
  have hb := hF.2.1
  have g5 : lRm5 rm_X5_placeOf := ⟨(Nat.le_of_ble_eq_true rfl), (Nat.le_of_ble_eq_true rfl), (Nat.le_of_ble_eq_true rfl), (Nat.le_of_ble_eq_true rfl)⟩
  obtain ⟨rm, k, c1, Sc', hs', hrm, hMet, hOK⟩ := lz_placeOf (D := D) (Y := Y) (yl := yl) (o := o1) (c0 := v1) hfl hc hq hn (xs (i + 1)) (xs (i + 2)) (xs (i + 3)) (bz (xs (i + 4)))
  refine g_aload_n hx hb dL_law_1226 rfl (lv_at hls 1 rfl) ?_
  refine l_arg (jj := 1) hx hb hX hbl hbA hJ.1.2.2.2.1 (lv_at hls 0 rfl) (lv_at hls 5 rfl) (by omega) hL dL_law_1227 dL_law_1228 dL_law_1230 (by decide) dL_law_1231 dL_law_1232 ?_
  refine l_arg (jj := 2) hx hb hX hbl hbA hJ.1.2.2.2.1 (lv_at hls 0 rfl) (lv_at hls 5 rfl) (by omega) hL dL_law_1233 dL_law_1234 dL_law_1236 (by decide) dL_law_1237 dL_law_1238 ?_
  refine l_arg (jj := 3) hx hb hX hbl hbA hJ.1.2.2.2.1 (lv_at hls 0 rfl) (lv_at hls 5 rfl) (by omega) hL dL_law_1239 dL_law_1240 dL_law_1242 (by decide) dL_law_1243 dL_law_1244 ?_
  refine l_arg (jj := 4) hx hb hX hbl hbA hJ.1.2.2.2.1 (lv_at hls 0 rfl) (lv_at hls 5 rfl) (by omega) hL dL_law_1245 dL_law_1246 dL_law_1248 (by decide) dL_law_1249 dL_law_1250 ?_
  refine l_bool hx hb dL_law_1251 dL_law_1254 dL_law_1255 dL_law_1258 ?_
  refine g_aload_n hx hb dL_law_1259 rfl (lv_at hls 3 rfl) ?_
  refine l_callW (rest := []) hF hNc hA1 hJ hq.fre hMet kL_placeOf u708 u709 rfl hls.1 rfl (Nat.le_of_ble_eq_true rfl) dL_law_1260 (hrm.fit hR (Nat.le_of_ble_eq_true rfl)) (hrm.fit2 hf) (fun H1 locs1 z1 z2 J1 => ?_)
  obtain ⟨v, Sr', hs3, dq', cap', A', h5, hle, hk, hOk, hc', hq'⟩ := hOK H1.size z1
  refine lv_istore (i := 6) (lv' := (6, .int k) :: lLs bs b r o1 o2 i) hx hb dL_law_1263 hls (by decide) rfl (fun ls1 hl1 => ?_)
  refine g_aload_n hx hb dL_law_1265 rfl (lv_at hl1 3 rfl) ?_
  refine l_arg (jj := 1) hx hb hX hbl hbA J1.1.2.2.2.1 (lv_at hl1 1 rfl) (lv_at hl1 6 rfl) (by omega) hL dL_law_1266 dL_law_1267 dL_law_1269 (by decide) dL_law_1270 dL_law_1271 ?_
  refine l_arg (jj := 2) hx hb hX hbl hbA J1.1.2.2.2.1 (lv_at hl1 1 rfl) (lv_at hl1 6 rfl) (by omega) hL dL_law_1272 dL_law_1273 dL_law_1275 (by decide) dL_law_1276 dL_law_1277 ?_
  refine l_arg (jj := 3) hx hb hX hbl hbA J1.1.2.2.2.1 (lv_at hl1 1 rfl) (lv_at hl1 6 rfl) (by omega) hL dL_law_1278 dL_law_1279 dL_law_1281 (by decide) dL_law_1282 dL_law_1283 ?_
  refine l_arg (jj := 4) hx hb hX hbl hbA J1.1.2.2.2.1 (lv_at hl1 1 rfl) (lv_at hl1 6 rfl) (by omega) hL dL_law_1284 dL_law_1285 dL_law_1287 (by decide) dL_law_1288 dL_law_1289 ?_
  refine l_bool hx hb dL_law_1290 dL_law_1293 dL_law_1294 dL_law_1297 ?_
  obtain ⟨h6, rfl⟩ := rL_of h5
  refine l_callR (As := [.int (xs (i + 1)), .int (xs (i + 2)), .int (xs (i + 3)), .int (bz (xs (i + 4)))]) (rest := []) hF J1 hc'.fre (c_X5_placeOf h6) k_X5_placeOf u1550 u1551 u1552 rfl rfl hq.tag rfl hl1.1 rfl (Nat.le_of_ble_eq_true rfl) dL_law_1298 (g5.fit hR (Nat.le_of_ble_eq_true rfl)) (lRm5.fit2 hrm g5 hf) (fun H2 locs2 z3 z4 J2 => ?_)
  refine lv_istore (i := 7) (lv' := (7, .int v) :: (6, .int k) :: lLs bs b r o1 o2 i) hx hb dL_law_1301 hl1 (by decide) rfl (fun ls2 hl2 => ?_)
  refine l_thr hF J2 (hc'.mono z4).fre hq'.tag hk (lv_at hl2 4 rfl) (lv_at hl2 1 rfl) hl2.1 u1132 u1133 u1134 hR (lRm5.fit2 hrm g5 hf) dL_law_1303 dL_law_1304 dL_law_1307 dL_law_1309 (fun H3 locs3 z5 J3 => ?_)
  refine l_cmpI hF hA1 J3 (lv_at hl2 5 rfl) (lv_at hl2 1 rfl) (lv_at hl2 0 rfl) hOk dL_law_1314 dL_law_1316 dL_law_1319 dL_law_1320 dL_law_1321 dL_law_1322 dL_law_1324 dL_law_1325 dL_law_1326 dL_law_1331 (by decide) ?_
  refine W.widen (lRm5.fit3 (slots := slots) hrm g5).1 (lRm5.fit3 (cells := cells) hrm g5).2 (kk H3 locs3 ls2 ⟨Sc', Sr', dq', cap', A', c1, v2, J3, ?_, ?_⟩ (lv_sub hl2 [2, 3, 4, 5, 6, 7] rfl))
  · exact hc'.mono (by omega)
  · exact hq'.mono (by omega)
theorem lz_put {l : Launch} {D : va_G} {Y : Nat → ClassId} {Sc Sr : GS} {hs : Nat} {yl : ClassId} {o : Nat} {c0 : Value} {b r n cap : Nat} {dq : Nat → Nat} {A : AS} (hfl : l.stackTraces = false) (hc : Rc b n Sc hs A) (hq : Rq r dq cap Sr hs A) (hn : n ≤ 511) (x1 x2 x3 x4 : Int32) : lZ l yL_put (lWs yL_put cL_put 7 [(0, 14, 17, 13), (0, 14, 21, 15), (0, 14, 25, 71), (0, 14, 29, 17), (0, 14, 33, 73)]) [va_rf (some b), .int x1, .int x2, .int x3, .int x4, va_rf (some o)] D Y Sc hs .long yl o c0 b r (n + 1) (fun c v => c = .long v.toInt64) (fun hs2 => f_X5_put Sr hs2 r x1 x2 x3 x4) := by
  exact lZ_chg (lx := [1, 2, 3, 4, 5]) (rm1 := rmL_put) (rm2 := rmLx_put) (g := fun v => .long v.toInt64) hc hn ⟨by decide, by decide⟩ ⟨(Nat.le_of_ble_eq_true rfl), (Nat.le_of_ble_eq_true rfl), (Nat.le_of_ble_eq_true rfl), (Nat.le_of_ble_eq_true rfl)⟩ ⟨(Nat.le_of_ble_eq_true rfl), (Nat.le_of_ble_eq_true rfl), (Nat.le_of_ble_eq_true rfl), (Nat.le_of_ble_eq_true rfl)⟩ (c_put hc (by omega) x1 x2 x3 x4) (fun hs2 h2 => r_put (hq.mono h2) hc.1 (by have := hc.2.1; omega) x1 x2 x3 x4) (fun v => rfl) (fun v S' e => cL_put_r e hc.tag) (fun x i e hi => cL_put_x hfl e hc.tag hi)
set_option maxHeartbeats 4000000 in
set_option maxRecDepth 100000 in
theorem lc_put {p : Program} {l : Launch} {e : Env} {R : Room} {s : State} {m : MethodId} {args : Array Value} {below : List Frame} {meth : Method} {c : Code} {H : Heap} {locs : List Loc} {cells slots : Nat} {Q : State → Prop} {ls : Array Slot} {D : va_G} {Y : Nat → ClassId} {Af : Nat → Prop} {rt : Option FieldType} {yl yd : ClassId} {o1 o2 b r n bs L i : Nat} {xs : Nat → Int32} (C : lCx p l s m args meth c rt D Y Af R yl yd bs L xs) (I : lInv D Y Af s.heap yl yd o1 o2 b r n H locs) (hn : n ≤ 511) (hi : i + 5 ≤ L) (hls : lv_has ls 9 (lLs bs b r o1 o2 i)) (hf : cells + 8 ≤ R.cells ∧ slots + 6000 ≤ R.slots)
    (kk : ∀ (H1 : Heap) (locs1 : List Loc) (ls1 : Array Slot), lInv D Y Af s.heap yl yd o1 o2 b r (n + 1) H1 locs1 → lv_has ls1 9 (lLs bs b r o1 o2 i) → W p l e R s m args below meth c H1 locs1 (cells + 8) (slots + 6000) Q (F0 m 3541 ls1 [])) : W p l e R s m args below meth c H locs cells slots Q (F0 m 1334 ls []) := by
  obtain ⟨hF, hNc, hA1, hA2, hfl, hX, hbl, hbA, hL, hR⟩ := C
  obtain ⟨Sc, Sr, dq, cap, A, v1, v2, hJ, hc, hq⟩ := I
  have hx := hF.1
  have hb := hF.2.1
  have g5 : lRm5 rm_X5_put := ⟨(Nat.le_of_ble_eq_true rfl), (Nat.le_of_ble_eq_true rfl), (Nat.le_of_ble_eq_true rfl), (Nat.le_of_ble_eq_true rfl)⟩
  obtain ⟨rm, k, c1, Sc', hs', hrm, hMet, hOK⟩ := lz_put (D := D) (Y := Y) (yl := yl) (o := o1) (c0 := v1) hfl hc hq hn (xs (i + 1)) (xs (i + 2)) (xs (i + 3)) (xs (i + 4))
  refine g_aload_n hx hb dL_law_1334 rfl (lv_at hls 1 rfl) ?_
  refine l_arg (jj := 1) hx hb hX hbl hbA hJ.1.2.2.2.1 (lv_at hls 0 rfl) (lv_at hls 5 rfl) (by omega) hL dL_law_1335 dL_law_1336 dL_law_1338 (by decide) dL_law_1339 dL_law_1340 ?_
  refine l_arg (jj := 2) hx hb hX hbl hbA hJ.1.2.2.2.1 (lv_at hls 0 rfl) (lv_at hls 5 rfl) (by omega) hL dL_law_1341 dL_law_1342 dL_law_1344 (by decide) dL_law_1345 dL_law_1346 ?_
  refine l_arg (jj := 3) hx hb hX hbl hbA hJ.1.2.2.2.1 (lv_at hls 0 rfl) (lv_at hls 5 rfl) (by omega) hL dL_law_1347 dL_law_1348 dL_law_1350 (by decide) dL_law_1351 dL_law_1352 ?_
  refine l_arg (jj := 4) hx hb hX hbl hbA hJ.1.2.2.2.1 (lv_at hls 0 rfl) (lv_at hls 5 rfl) (by omega) hL dL_law_1353 dL_law_1354 dL_law_1356 (by decide) dL_law_1357 dL_law_1358 ?_
  refine g_aload_n hx hb dL_law_1359 rfl (lv_at hls 3 rfl) ?_
  refine l_callW (rest := []) hF hNc hA1 hJ hq.fre hMet kL_put u723 u724 rfl hls.1 rfl (Nat.le_of_ble_eq_true rfl) dL_law_1360 (hrm.fit hR (Nat.le_of_ble_eq_true rfl)) (hrm.fit2 hf) (fun H1 locs1 z1 z2 J1 => ?_)
  obtain ⟨v, Sr', hs3, dq', cap', A', h5, hle, hk, hOk, hc', hq'⟩ := hOK H1.size z1
  refine lv_istore (i := 6) (lv' := (6, .int k) :: lLs bs b r o1 o2 i) hx hb dL_law_1363 hls (by decide) rfl (fun ls1 hl1 => ?_)
  refine g_aload_n hx hb dL_law_1365 rfl (lv_at hl1 3 rfl) ?_
  refine l_arg (jj := 1) hx hb hX hbl hbA J1.1.2.2.2.1 (lv_at hl1 1 rfl) (lv_at hl1 6 rfl) (by omega) hL dL_law_1366 dL_law_1367 dL_law_1369 (by decide) dL_law_1370 dL_law_1371 ?_
  refine l_arg (jj := 2) hx hb hX hbl hbA J1.1.2.2.2.1 (lv_at hl1 1 rfl) (lv_at hl1 6 rfl) (by omega) hL dL_law_1372 dL_law_1373 dL_law_1375 (by decide) dL_law_1376 dL_law_1377 ?_
  refine l_arg (jj := 3) hx hb hX hbl hbA J1.1.2.2.2.1 (lv_at hl1 1 rfl) (lv_at hl1 6 rfl) (by omega) hL dL_law_1378 dL_law_1379 dL_law_1381 (by decide) dL_law_1382 dL_law_1383 ?_
  refine l_arg (jj := 4) hx hb hX hbl hbA J1.1.2.2.2.1 (lv_at hl1 1 rfl) (lv_at hl1 6 rfl) (by omega) hL dL_law_1384 dL_law_1385 dL_law_1387 (by decide) dL_law_1388 dL_law_1389 ?_
  have h5 : f_X5_put Sr H1.size r (xs (i + 1)) (xs (i + 2)) (xs (i + 3)) (xs (i + 4)) = some (v, Sr', hs3) := h5
  refine l_callR (As := [.int (xs (i + 1)), .int (xs (i + 2)), .int (xs (i + 3)), .int (xs (i + 4))]) (rest := []) hF J1 hc'.fre (c_X5_put h5) k_X5_put u1305 u1306 u1307 rfl rfl hq.tag rfl hl1.1 rfl (Nat.le_of_ble_eq_true rfl) dL_law_1390 (g5.fit hR (Nat.le_of_ble_eq_true rfl)) (lRm5.fit2 hrm g5 hf) (fun H2 locs2 z3 z4 J2 => ?_)
  refine lv_istore (i := 7) (lv' := (7, .int v) :: (6, .int k) :: lLs bs b r o1 o2 i) hx hb dL_law_1393 hl1 (by decide) rfl (fun ls2 hl2 => ?_)
  refine l_thr hF J2 (hc'.mono z4).fre hq'.tag hk (lv_at hl2 4 rfl) (lv_at hl2 1 rfl) hl2.1 u1132 u1133 u1134 hR (lRm5.fit2 hrm g5 hf) dL_law_1395 dL_law_1396 dL_law_1399 dL_law_1401 (fun H3 locs3 z5 J3 => ?_)
  refine l_cmpI hF hA1 J3 (lv_at hl2 5 rfl) (lv_at hl2 1 rfl) (lv_at hl2 0 rfl) hOk dL_law_1406 dL_law_1408 dL_law_1411 dL_law_1412 dL_law_1413 dL_law_1414 dL_law_1416 dL_law_1417 dL_law_1418 dL_law_1423 (by decide) ?_
  refine W.widen (lRm5.fit3 (slots := slots) hrm g5).1 (lRm5.fit3 (cells := cells) hrm g5).2 (kk H3 locs3 ls2 ⟨Sc', Sr', dq', cap', A', c1, v2, J3, ?_, ?_⟩ (lv_sub hl2 [2, 3, 4, 5, 6, 7] rfl))
  · exact hc'.mono (by omega)
  · exact hq'.mono (by omega)
theorem lz_set {l : Launch} {D : va_G} {Y : Nat → ClassId} {Sc Sr : GS} {hs : Nat} {yl : ClassId} {o : Nat} {c0 : Value} {b r n cap : Nat} {dq : Nat → Nat} {A : AS} (hfl : l.stackTraces = false) (hc : Rc b n Sc hs A) (hq : Rq r dq cap Sr hs A) (hn : n ≤ 511) (x1 x2 x3 x4 : Int32) : lZ l yL_set (lWs yL_set cL_set 7 [(0, 14, 17, 13), (0, 14, 21, 15), (0, 14, 25, 71), (0, 14, 29, 17)]) [va_rf (some b), .int x1, .int x2, .int x3, .int x4, va_rf (some o)] D Y Sc hs .long yl o c0 b r (n + 1) (fun c v => c = .long v.toInt64) (fun hs2 => rL hs2 (f_X5_set Sr r x1 x2 x3 x4)) := by
  exact lZ_chg (lx := [1, 2, 3, 4]) (rm1 := rmL_set) (rm2 := rmLx_set) (g := fun v => .long v.toInt64) hc hn ⟨by decide, by decide⟩ ⟨(Nat.le_of_ble_eq_true rfl), (Nat.le_of_ble_eq_true rfl), (Nat.le_of_ble_eq_true rfl), (Nat.le_of_ble_eq_true rfl)⟩ ⟨(Nat.le_of_ble_eq_true rfl), (Nat.le_of_ble_eq_true rfl), (Nat.le_of_ble_eq_true rfl), (Nat.le_of_ble_eq_true rfl)⟩ (c_set hc (by omega) x1 x2 x3 x4) (fun hs2 h2 => r_set (hq.mono h2) hc.1 (by have := hc.2.1; omega) x1 x2 x3 x4) (fun v => rfl) (fun v S' e => cL_set_r e hc.tag) (fun x i e hi => cL_set_x hfl e hc.tag hi)
set_option maxHeartbeats 4000000 in
set_option maxRecDepth 100000 in
theorem lc_set {p : Program} {l : Launch} {e : Env} {R : Room} {s : State} {m : MethodId} {args : Array Value} {below : List Frame} {meth : Method} {c : Code} {H : Heap} {locs : List Loc} {cells slots : Nat} {Q : State → Prop} {ls : Array Slot} {D : va_G} {Y : Nat → ClassId} {Af : Nat → Prop} {rt : Option FieldType} {yl yd : ClassId} {o1 o2 b r n bs L i : Nat} {xs : Nat → Int32} (C : lCx p l s m args meth c rt D Y Af R yl yd bs L xs) (I : lInv D Y Af s.heap yl yd o1 o2 b r n H locs) (hn : n ≤ 511) (hi : i + 5 ≤ L) (hls : lv_has ls 9 (lLs bs b r o1 o2 i)) (hf : cells + 8 ≤ R.cells ∧ slots + 6000 ≤ R.slots)
    (kk : ∀ (H1 : Heap) (locs1 : List Loc) (ls1 : Array Slot), lInv D Y Af s.heap yl yd o1 o2 b r (n + 1) H1 locs1 → lv_has ls1 9 (lLs bs b r o1 o2 i) → W p l e R s m args below meth c H1 locs1 (cells + 8) (slots + 6000) Q (F0 m 3541 ls1 [])) : W p l e R s m args below meth c H locs cells slots Q (F0 m 1426 ls []) := by
  obtain ⟨hF, hNc, hA1, hA2, hfl, hX, hbl, hbA, hL, hR⟩ := C
  obtain ⟨Sc, Sr, dq, cap, A, v1, v2, hJ, hc, hq⟩ := I
  have hx := hF.1
  have hb := hF.2.1
  have g5 : lRm5 rm_X5_set := ⟨(Nat.le_of_ble_eq_true rfl), (Nat.le_of_ble_eq_true rfl), (Nat.le_of_ble_eq_true rfl), (Nat.le_of_ble_eq_true rfl)⟩
  obtain ⟨rm, k, c1, Sc', hs', hrm, hMet, hOK⟩ := lz_set (D := D) (Y := Y) (yl := yl) (o := o1) (c0 := v1) hfl hc hq hn (xs (i + 1)) (xs (i + 2)) (xs (i + 3)) (xs (i + 4))
  refine g_aload_n hx hb dL_law_1426 rfl (lv_at hls 1 rfl) ?_
  refine l_arg (jj := 1) hx hb hX hbl hbA hJ.1.2.2.2.1 (lv_at hls 0 rfl) (lv_at hls 5 rfl) (by omega) hL dL_law_1427 dL_law_1428 dL_law_1430 (by decide) dL_law_1431 dL_law_1432 ?_
  refine l_arg (jj := 2) hx hb hX hbl hbA hJ.1.2.2.2.1 (lv_at hls 0 rfl) (lv_at hls 5 rfl) (by omega) hL dL_law_1433 dL_law_1434 dL_law_1436 (by decide) dL_law_1437 dL_law_1438 ?_
  refine l_arg (jj := 3) hx hb hX hbl hbA hJ.1.2.2.2.1 (lv_at hls 0 rfl) (lv_at hls 5 rfl) (by omega) hL dL_law_1439 dL_law_1440 dL_law_1442 (by decide) dL_law_1443 dL_law_1444 ?_
  refine l_arg (jj := 4) hx hb hX hbl hbA hJ.1.2.2.2.1 (lv_at hls 0 rfl) (lv_at hls 5 rfl) (by omega) hL dL_law_1445 dL_law_1446 dL_law_1448 (by decide) dL_law_1449 dL_law_1450 ?_
  refine g_aload_n hx hb dL_law_1451 rfl (lv_at hls 3 rfl) ?_
  refine l_callW (rest := []) hF hNc hA1 hJ hq.fre hMet kL_set u780 u781 rfl hls.1 rfl (Nat.le_of_ble_eq_true rfl) dL_law_1452 (hrm.fit hR (Nat.le_of_ble_eq_true rfl)) (hrm.fit2 hf) (fun H1 locs1 z1 z2 J1 => ?_)
  obtain ⟨v, Sr', hs3, dq', cap', A', h5, hle, hk, hOk, hc', hq'⟩ := hOK H1.size z1
  refine lv_istore (i := 6) (lv' := (6, .int k) :: lLs bs b r o1 o2 i) hx hb dL_law_1455 hls (by decide) rfl (fun ls1 hl1 => ?_)
  refine g_aload_n hx hb dL_law_1457 rfl (lv_at hl1 3 rfl) ?_
  refine l_arg (jj := 1) hx hb hX hbl hbA J1.1.2.2.2.1 (lv_at hl1 1 rfl) (lv_at hl1 6 rfl) (by omega) hL dL_law_1458 dL_law_1459 dL_law_1461 (by decide) dL_law_1462 dL_law_1463 ?_
  refine l_arg (jj := 2) hx hb hX hbl hbA J1.1.2.2.2.1 (lv_at hl1 1 rfl) (lv_at hl1 6 rfl) (by omega) hL dL_law_1464 dL_law_1465 dL_law_1467 (by decide) dL_law_1468 dL_law_1469 ?_
  refine l_arg (jj := 3) hx hb hX hbl hbA J1.1.2.2.2.1 (lv_at hl1 1 rfl) (lv_at hl1 6 rfl) (by omega) hL dL_law_1470 dL_law_1471 dL_law_1473 (by decide) dL_law_1474 dL_law_1475 ?_
  refine l_arg (jj := 4) hx hb hX hbl hbA J1.1.2.2.2.1 (lv_at hl1 1 rfl) (lv_at hl1 6 rfl) (by omega) hL dL_law_1476 dL_law_1477 dL_law_1479 (by decide) dL_law_1480 dL_law_1481 ?_
  obtain ⟨h6, rfl⟩ := rL_of h5
  refine l_callR (As := [.int (xs (i + 1)), .int (xs (i + 2)), .int (xs (i + 3)), .int (xs (i + 4))]) (rest := []) hF J1 hc'.fre (c_X5_set h6) k_X5_set u1347 u1348 u1349 rfl rfl hq.tag rfl hl1.1 rfl (Nat.le_of_ble_eq_true rfl) dL_law_1482 (g5.fit hR (Nat.le_of_ble_eq_true rfl)) (lRm5.fit2 hrm g5 hf) (fun H2 locs2 z3 z4 J2 => ?_)
  refine lv_istore (i := 7) (lv' := (7, .int v) :: (6, .int k) :: lLs bs b r o1 o2 i) hx hb dL_law_1485 hl1 (by decide) rfl (fun ls2 hl2 => ?_)
  refine l_thr hF J2 (hc'.mono z4).fre hq'.tag hk (lv_at hl2 4 rfl) (lv_at hl2 1 rfl) hl2.1 u1132 u1133 u1134 hR (lRm5.fit2 hrm g5 hf) dL_law_1487 dL_law_1488 dL_law_1491 dL_law_1493 (fun H3 locs3 z5 J3 => ?_)
  refine l_cmpI hF hA1 J3 (lv_at hl2 5 rfl) (lv_at hl2 1 rfl) (lv_at hl2 0 rfl) hOk dL_law_1498 dL_law_1500 dL_law_1503 dL_law_1504 dL_law_1505 dL_law_1506 dL_law_1508 dL_law_1509 dL_law_1510 dL_law_1515 (by decide) ?_
  refine W.widen (lRm5.fit3 (slots := slots) hrm g5).1 (lRm5.fit3 (cells := cells) hrm g5).2 (kk H3 locs3 ls2 ⟨Sc', Sr', dq', cap', A', c1, v2, J3, ?_, ?_⟩ (lv_sub hl2 [2, 3, 4, 5, 6, 7] rfl))
  · exact hc'.mono (by omega)
  · exact hq'.mono (by omega)
theorem lz_take {l : Launch} {D : va_G} {Y : Nat → ClassId} {Sc Sr : GS} {hs : Nat} {yl : ClassId} {o : Nat} {c0 : Value} {b r n cap : Nat} {dq : Nat → Nat} {A : AS} (hfl : l.stackTraces = false) (hc : Rc b n Sc hs A) (hq : Rq r dq cap Sr hs A) (hn : n ≤ 511) (x1 x2 : Int32) : lZ l yL_take (lWs yL_take cL_take 5 [(0, 10, 13, 13), (0, 10, 17, 15), (0, 10, 21, 71), (0, 10, 25, 17)]) [va_rf (some b), .int x1, .int x2, va_rf (some o)] D Y Sc hs .long yl o c0 b r (n + 1) (fun c v => c = .long v.toInt64) (fun hs2 => f_X5_take Sr hs2 r x1 x2) := by
  exact lZ_chg (lx := [1, 2, 3, 4]) (rm1 := rmL_take) (rm2 := rmLx_take) (g := fun v => .long v.toInt64) hc hn ⟨by decide, by decide⟩ ⟨(Nat.le_of_ble_eq_true rfl), (Nat.le_of_ble_eq_true rfl), (Nat.le_of_ble_eq_true rfl), (Nat.le_of_ble_eq_true rfl)⟩ ⟨(Nat.le_of_ble_eq_true rfl), (Nat.le_of_ble_eq_true rfl), (Nat.le_of_ble_eq_true rfl), (Nat.le_of_ble_eq_true rfl)⟩ (c_take hc (by omega) x1 x2) (fun hs2 h2 => r_take (hq.mono h2) hc.1 (by have := hc.2.1; omega) x1 x2) (fun v => rfl) (fun v S' e => cL_take_r e hc.tag) (fun x i e hi => cL_take_x hfl e hc.tag hi)
set_option maxHeartbeats 4000000 in
set_option maxRecDepth 100000 in
theorem lc_take {p : Program} {l : Launch} {e : Env} {R : Room} {s : State} {m : MethodId} {args : Array Value} {below : List Frame} {meth : Method} {c : Code} {H : Heap} {locs : List Loc} {cells slots : Nat} {Q : State → Prop} {ls : Array Slot} {D : va_G} {Y : Nat → ClassId} {Af : Nat → Prop} {rt : Option FieldType} {yl yd : ClassId} {o1 o2 b r n bs L i : Nat} {xs : Nat → Int32} (C : lCx p l s m args meth c rt D Y Af R yl yd bs L xs) (I : lInv D Y Af s.heap yl yd o1 o2 b r n H locs) (hn : n ≤ 511) (hi : i + 5 ≤ L) (hls : lv_has ls 9 (lLs bs b r o1 o2 i)) (hf : cells + 8 ≤ R.cells ∧ slots + 6000 ≤ R.slots)
    (kk : ∀ (H1 : Heap) (locs1 : List Loc) (ls1 : Array Slot), lInv D Y Af s.heap yl yd o1 o2 b r (n + 1) H1 locs1 → lv_has ls1 9 (lLs bs b r o1 o2 i) → W p l e R s m args below meth c H1 locs1 (cells + 8) (slots + 6000) Q (F0 m 3541 ls1 [])) : W p l e R s m args below meth c H locs cells slots Q (F0 m 1518 ls []) := by
  obtain ⟨hF, hNc, hA1, hA2, hfl, hX, hbl, hbA, hL, hR⟩ := C
  obtain ⟨Sc, Sr, dq, cap, A, v1, v2, hJ, hc, hq⟩ := I
  have hx := hF.1
  have hb := hF.2.1
  have g5 : lRm5 rm_X5_take := ⟨(Nat.le_of_ble_eq_true rfl), (Nat.le_of_ble_eq_true rfl), (Nat.le_of_ble_eq_true rfl), (Nat.le_of_ble_eq_true rfl)⟩
  obtain ⟨rm, k, c1, Sc', hs', hrm, hMet, hOK⟩ := lz_take (D := D) (Y := Y) (yl := yl) (o := o1) (c0 := v1) hfl hc hq hn (xs (i + 1)) (xs (i + 2))
  refine g_aload_n hx hb dL_law_1518 rfl (lv_at hls 1 rfl) ?_
  refine l_arg (jj := 1) hx hb hX hbl hbA hJ.1.2.2.2.1 (lv_at hls 0 rfl) (lv_at hls 5 rfl) (by omega) hL dL_law_1519 dL_law_1520 dL_law_1522 (by decide) dL_law_1523 dL_law_1524 ?_
  refine l_arg (jj := 2) hx hb hX hbl hbA hJ.1.2.2.2.1 (lv_at hls 0 rfl) (lv_at hls 5 rfl) (by omega) hL dL_law_1525 dL_law_1526 dL_law_1528 (by decide) dL_law_1529 dL_law_1530 ?_
  refine g_aload_n hx hb dL_law_1531 rfl (lv_at hls 3 rfl) ?_
  refine l_callW (rest := []) hF hNc hA1 hJ hq.fre hMet kL_take u789 u790 rfl hls.1 rfl (Nat.le_of_ble_eq_true rfl) dL_law_1532 (hrm.fit hR (Nat.le_of_ble_eq_true rfl)) (hrm.fit2 hf) (fun H1 locs1 z1 z2 J1 => ?_)
  obtain ⟨v, Sr', hs3, dq', cap', A', h5, hle, hk, hOk, hc', hq'⟩ := hOK H1.size z1
  refine lv_istore (i := 6) (lv' := (6, .int k) :: lLs bs b r o1 o2 i) hx hb dL_law_1535 hls (by decide) rfl (fun ls1 hl1 => ?_)
  refine g_aload_n hx hb dL_law_1537 rfl (lv_at hl1 3 rfl) ?_
  refine l_arg (jj := 1) hx hb hX hbl hbA J1.1.2.2.2.1 (lv_at hl1 1 rfl) (lv_at hl1 6 rfl) (by omega) hL dL_law_1538 dL_law_1539 dL_law_1541 (by decide) dL_law_1542 dL_law_1543 ?_
  refine l_arg (jj := 2) hx hb hX hbl hbA J1.1.2.2.2.1 (lv_at hl1 1 rfl) (lv_at hl1 6 rfl) (by omega) hL dL_law_1544 dL_law_1545 dL_law_1547 (by decide) dL_law_1548 dL_law_1549 ?_
  have h5 : f_X5_take Sr H1.size r (xs (i + 1)) (xs (i + 2)) = some (v, Sr', hs3) := h5
  refine l_callR (As := [.int (xs (i + 1)), .int (xs (i + 2))]) (rest := []) hF J1 hc'.fre (c_X5_take h5) k_X5_take u1355 u1356 u1357 rfl rfl hq.tag rfl hl1.1 rfl (Nat.le_of_ble_eq_true rfl) dL_law_1550 (g5.fit hR (Nat.le_of_ble_eq_true rfl)) (lRm5.fit2 hrm g5 hf) (fun H2 locs2 z3 z4 J2 => ?_)
  refine lv_istore (i := 7) (lv' := (7, .int v) :: (6, .int k) :: lLs bs b r o1 o2 i) hx hb dL_law_1553 hl1 (by decide) rfl (fun ls2 hl2 => ?_)
  refine l_thr hF J2 (hc'.mono z4).fre hq'.tag hk (lv_at hl2 4 rfl) (lv_at hl2 1 rfl) hl2.1 u1132 u1133 u1134 hR (lRm5.fit2 hrm g5 hf) dL_law_1555 dL_law_1556 dL_law_1559 dL_law_1561 (fun H3 locs3 z5 J3 => ?_)
  refine l_cmpI hF hA1 J3 (lv_at hl2 5 rfl) (lv_at hl2 1 rfl) (lv_at hl2 0 rfl) hOk dL_law_1566 dL_law_1568 dL_law_1571 dL_law_1572 dL_law_1573 dL_law_1574 dL_law_1576 dL_law_1577 dL_law_1578 dL_law_1583 (by decide) ?_
  refine W.widen (lRm5.fit3 (slots := slots) hrm g5).1 (lRm5.fit3 (cells := cells) hrm g5).2 (kk H3 locs3 ls2 ⟨Sc', Sr', dq', cap', A', c1, v2, J3, ?_, ?_⟩ (lv_sub hl2 [2, 3, 4, 5, 6, 7] rfl))
  · exact hc'.mono (by omega)
  · exact hq'.mono (by omega)
theorem lz_drop {l : Launch} {D : va_G} {Y : Nat → ClassId} {Sc Sr : GS} {hs : Nat} {yl : ClassId} {o : Nat} {c0 : Value} {b r n cap : Nat} {dq : Nat → Nat} {A : AS} (hfl : l.stackTraces = false) (hc : Rc b n Sc hs A) (hq : Rq r dq cap Sr hs A) (hn : n ≤ 511) (x1 x2 x3 : Int32) : lZ l yL_drop (lWs yL_drop cL_drop 6 [(0, 19, 22, 13), (0, 19, 26, 15), (0, 19, 30, 71), (0, 19, 34, 73)]) [va_rf (some b), .int x1, .int x2, .int x3, va_rf (some o)] D Y Sc hs .long yl o c0 b r (n + 1) (fun c v => c = .long (bzL v)) (fun hs2 => f_X5_drop Sr hs2 r x1 x2 x3) := by
  exact lZ_chg (lx := [1, 2, 3, 5]) (rm1 := rmL_drop) (rm2 := rmLx_drop) (g := fun v => .long (bzL v)) hc hn ⟨by decide, by decide⟩ ⟨(Nat.le_of_ble_eq_true rfl), (Nat.le_of_ble_eq_true rfl), (Nat.le_of_ble_eq_true rfl), (Nat.le_of_ble_eq_true rfl)⟩ ⟨(Nat.le_of_ble_eq_true rfl), (Nat.le_of_ble_eq_true rfl), (Nat.le_of_ble_eq_true rfl), (Nat.le_of_ble_eq_true rfl)⟩ (c_drop hc (by omega) x1 x2 x3) (fun hs2 h2 => r_drop (hq.mono h2) hc.1 (by have := hc.2.1; omega) x1 x2 x3) (fun v => rfl) (fun v S' e => cL_drop_r e hc.tag rfl) (fun x i e hi => cL_drop_x hfl e hc.tag hi)
set_option maxHeartbeats 4000000 in
set_option maxRecDepth 100000 in
theorem lc_drop {p : Program} {l : Launch} {e : Env} {R : Room} {s : State} {m : MethodId} {args : Array Value} {below : List Frame} {meth : Method} {c : Code} {H : Heap} {locs : List Loc} {cells slots : Nat} {Q : State → Prop} {ls : Array Slot} {D : va_G} {Y : Nat → ClassId} {Af : Nat → Prop} {rt : Option FieldType} {yl yd : ClassId} {o1 o2 b r n bs L i : Nat} {xs : Nat → Int32} (C : lCx p l s m args meth c rt D Y Af R yl yd bs L xs) (I : lInv D Y Af s.heap yl yd o1 o2 b r n H locs) (hn : n ≤ 511) (hi : i + 5 ≤ L) (hls : lv_has ls 9 (lLs bs b r o1 o2 i)) (hf : cells + 8 ≤ R.cells ∧ slots + 6000 ≤ R.slots)
    (kk : ∀ (H1 : Heap) (locs1 : List Loc) (ls1 : Array Slot), lInv D Y Af s.heap yl yd o1 o2 b r (n + 1) H1 locs1 → lv_has ls1 9 (lLs bs b r o1 o2 i) → W p l e R s m args below meth c H1 locs1 (cells + 8) (slots + 6000) Q (F0 m 3541 ls1 [])) : W p l e R s m args below meth c H locs cells slots Q (F0 m 1586 ls []) := by
  obtain ⟨hF, hNc, hA1, hA2, hfl, hX, hbl, hbA, hL, hR⟩ := C
  obtain ⟨Sc, Sr, dq, cap, A, v1, v2, hJ, hc, hq⟩ := I
  have hx := hF.1
  have hb := hF.2.1
  have g5 : lRm5 rm_X5_drop := ⟨(Nat.le_of_ble_eq_true rfl), (Nat.le_of_ble_eq_true rfl), (Nat.le_of_ble_eq_true rfl), (Nat.le_of_ble_eq_true rfl)⟩
  obtain ⟨rm, k, c1, Sc', hs', hrm, hMet, hOK⟩ := lz_drop (D := D) (Y := Y) (yl := yl) (o := o1) (c0 := v1) hfl hc hq hn (xs (i + 1)) (xs (i + 2)) (xs (i + 3))
  refine g_aload_n hx hb dL_law_1586 rfl (lv_at hls 1 rfl) ?_
  refine l_arg (jj := 1) hx hb hX hbl hbA hJ.1.2.2.2.1 (lv_at hls 0 rfl) (lv_at hls 5 rfl) (by omega) hL dL_law_1587 dL_law_1588 dL_law_1590 (by decide) dL_law_1591 dL_law_1592 ?_
  refine l_arg (jj := 2) hx hb hX hbl hbA hJ.1.2.2.2.1 (lv_at hls 0 rfl) (lv_at hls 5 rfl) (by omega) hL dL_law_1593 dL_law_1594 dL_law_1596 (by decide) dL_law_1597 dL_law_1598 ?_
  refine l_arg (jj := 3) hx hb hX hbl hbA hJ.1.2.2.2.1 (lv_at hls 0 rfl) (lv_at hls 5 rfl) (by omega) hL dL_law_1599 dL_law_1600 dL_law_1602 (by decide) dL_law_1603 dL_law_1604 ?_
  refine g_aload_n hx hb dL_law_1605 rfl (lv_at hls 3 rfl) ?_
  refine l_callW (rest := []) hF hNc hA1 hJ hq.fre hMet kL_drop u800 u801 rfl hls.1 rfl (Nat.le_of_ble_eq_true rfl) dL_law_1606 (hrm.fit hR (Nat.le_of_ble_eq_true rfl)) (hrm.fit2 hf) (fun H1 locs1 z1 z2 J1 => ?_)
  obtain ⟨v, Sr', hs3, dq', cap', A', h5, hle, hk, hOk, hc', hq'⟩ := hOK H1.size z1
  refine lv_istore (i := 6) (lv' := (6, .int k) :: lLs bs b r o1 o2 i) hx hb dL_law_1609 hls (by decide) rfl (fun ls1 hl1 => ?_)
  refine g_aload_n hx hb dL_law_1611 rfl (lv_at hl1 3 rfl) ?_
  refine l_arg (jj := 1) hx hb hX hbl hbA J1.1.2.2.2.1 (lv_at hl1 1 rfl) (lv_at hl1 6 rfl) (by omega) hL dL_law_1612 dL_law_1613 dL_law_1615 (by decide) dL_law_1616 dL_law_1617 ?_
  refine l_arg (jj := 2) hx hb hX hbl hbA J1.1.2.2.2.1 (lv_at hl1 1 rfl) (lv_at hl1 6 rfl) (by omega) hL dL_law_1618 dL_law_1619 dL_law_1621 (by decide) dL_law_1622 dL_law_1623 ?_
  refine l_arg (jj := 3) hx hb hX hbl hbA J1.1.2.2.2.1 (lv_at hl1 1 rfl) (lv_at hl1 6 rfl) (by omega) hL dL_law_1624 dL_law_1625 dL_law_1627 (by decide) dL_law_1628 dL_law_1629 ?_
  have h5 : f_X5_drop Sr H1.size r (xs (i + 1)) (xs (i + 2)) (xs (i + 3)) = some (v, Sr', hs3) := h5
  refine l_callR (As := [.int (xs (i + 1)), .int (xs (i + 2)), .int (xs (i + 3))]) (rest := []) hF J1 hc'.fre (c_X5_drop h5) k_X5_drop u1363 u1364 u1365 rfl rfl hq.tag rfl hl1.1 rfl (Nat.le_of_ble_eq_true rfl) dL_law_1630 (g5.fit hR (Nat.le_of_ble_eq_true rfl)) (lRm5.fit2 hrm g5 hf) (fun H2 locs2 z3 z4 J2 => ?_)
  refine lv_istore (i := 7) (lv' := (7, .int v) :: (6, .int k) :: lLs bs b r o1 o2 i) hx hb dL_law_1633 hl1 (by decide) rfl (fun ls2 hl2 => ?_)
  refine l_thr hF J2 (hc'.mono z4).fre hq'.tag hk (lv_at hl2 4 rfl) (lv_at hl2 1 rfl) hl2.1 u1132 u1133 u1134 hR (lRm5.fit2 hrm g5 hf) dL_law_1635 dL_law_1636 dL_law_1639 dL_law_1641 (fun H3 locs3 z5 J3 => ?_)
  refine l_cmpZ hF hA1 J3 (lv_at hl2 5 rfl) (lv_at hl2 1 rfl) (lv_at hl2 0 rfl) hOk dL_law_1646 dL_law_1648 dL_law_1651 dL_law_1652 dL_law_1653 dL_law_1654 dL_law_1656 dL_law_1659 dL_law_1660 dL_law_1663 dL_law_1664 dL_law_1665 dL_law_1670 (by decide) ?_
  refine W.widen (lRm5.fit3 (slots := slots) hrm g5).1 (lRm5.fit3 (cells := cells) hrm g5).2 (kk H3 locs3 ls2 ⟨Sc', Sr', dq', cap', A', c1, v2, J3, ?_, ?_⟩ (lv_sub hl2 [2, 3, 4, 5, 6, 7] rfl))
  · exact hc'.mono (by omega)
  · exact hq'.mono (by omega)
theorem lz_wipe {l : Launch} {D : va_G} {Y : Nat → ClassId} {Sc Sr : GS} {hs : Nat} {yl : ClassId} {o : Nat} {c0 : Value} {b r n cap : Nat} {dq : Nat → Nat} {A : AS} (hfl : l.stackTraces = false) (hc : Rc b n Sc hs A) (hq : Rq r dq cap Sr hs A) (hn : n ≤ 511) (x1 : Int32) : lZ l yL_wipe (lWs yL_wipe cL_wipe 4 [(0, 9, 12, 13), (0, 9, 15, 15), (0, 9, 18, 71)]) [va_rf (some b), .int x1, va_rf (some o)] D Y Sc hs .long yl o c0 b r (n + 1) (fun c v => c = .long v.toInt64) (fun hs2 => f_X5_wipe Sr hs2 r x1) := by
  exact lZ_chg (lx := [1, 2, 3]) (rm1 := rmL_wipe) (rm2 := rmLx_wipe) (g := fun v => .long v.toInt64) hc hn ⟨by decide, by decide⟩ ⟨(Nat.le_of_ble_eq_true rfl), (Nat.le_of_ble_eq_true rfl), (Nat.le_of_ble_eq_true rfl), (Nat.le_of_ble_eq_true rfl)⟩ ⟨(Nat.le_of_ble_eq_true rfl), (Nat.le_of_ble_eq_true rfl), (Nat.le_of_ble_eq_true rfl), (Nat.le_of_ble_eq_true rfl)⟩ (c_wipe hc (by omega) x1) (fun hs2 h2 => r_wipe (hq.mono h2) hc.1 (by have := hc.2.1; omega) x1) (fun v => rfl) (fun v S' e => cL_wipe_r e hc.tag) (fun x i e hi => cL_wipe_x hfl e hc.tag hi)
set_option maxHeartbeats 4000000 in
set_option maxRecDepth 100000 in
theorem lc_wipe {p : Program} {l : Launch} {e : Env} {R : Room} {s : State} {m : MethodId} {args : Array Value} {below : List Frame} {meth : Method} {c : Code} {H : Heap} {locs : List Loc} {cells slots : Nat} {Q : State → Prop} {ls : Array Slot} {D : va_G} {Y : Nat → ClassId} {Af : Nat → Prop} {rt : Option FieldType} {yl yd : ClassId} {o1 o2 b r n bs L i : Nat} {xs : Nat → Int32} (C : lCx p l s m args meth c rt D Y Af R yl yd bs L xs) (I : lInv D Y Af s.heap yl yd o1 o2 b r n H locs) (hn : n ≤ 511) (hi : i + 5 ≤ L) (hls : lv_has ls 9 (lLs bs b r o1 o2 i)) (hf : cells + 8 ≤ R.cells ∧ slots + 6000 ≤ R.slots)
    (kk : ∀ (H1 : Heap) (locs1 : List Loc) (ls1 : Array Slot), lInv D Y Af s.heap yl yd o1 o2 b r (n + 1) H1 locs1 → lv_has ls1 9 (lLs bs b r o1 o2 i) → W p l e R s m args below meth c H1 locs1 (cells + 8) (slots + 6000) Q (F0 m 3541 ls1 [])) : W p l e R s m args below meth c H locs cells slots Q (F0 m 1673 ls []) := by
  obtain ⟨hF, hNc, hA1, hA2, hfl, hX, hbl, hbA, hL, hR⟩ := C
  obtain ⟨Sc, Sr, dq, cap, A, v1, v2, hJ, hc, hq⟩ := I
  have hx := hF.1
  have hb := hF.2.1
  have g5 : lRm5 rm_X5_wipe := ⟨(Nat.le_of_ble_eq_true rfl), (Nat.le_of_ble_eq_true rfl), (Nat.le_of_ble_eq_true rfl), (Nat.le_of_ble_eq_true rfl)⟩
  obtain ⟨rm, k, c1, Sc', hs', hrm, hMet, hOK⟩ := lz_wipe (D := D) (Y := Y) (yl := yl) (o := o1) (c0 := v1) hfl hc hq hn (xs (i + 1))
  refine g_aload_n hx hb dL_law_1673 rfl (lv_at hls 1 rfl) ?_
  refine l_arg (jj := 1) hx hb hX hbl hbA hJ.1.2.2.2.1 (lv_at hls 0 rfl) (lv_at hls 5 rfl) (by omega) hL dL_law_1674 dL_law_1675 dL_law_1677 (by decide) dL_law_1678 dL_law_1679 ?_
  refine g_aload_n hx hb dL_law_1680 rfl (lv_at hls 3 rfl) ?_
  refine l_callW (rest := []) hF hNc hA1 hJ hq.fre hMet kL_wipe u821 u822 rfl hls.1 rfl (Nat.le_of_ble_eq_true rfl) dL_law_1681 (hrm.fit hR (Nat.le_of_ble_eq_true rfl)) (hrm.fit2 hf) (fun H1 locs1 z1 z2 J1 => ?_)
  obtain ⟨v, Sr', hs3, dq', cap', A', h5, hle, hk, hOk, hc', hq'⟩ := hOK H1.size z1
  refine lv_istore (i := 6) (lv' := (6, .int k) :: lLs bs b r o1 o2 i) hx hb dL_law_1684 hls (by decide) rfl (fun ls1 hl1 => ?_)
  refine g_aload_n hx hb dL_law_1686 rfl (lv_at hl1 3 rfl) ?_
  refine l_arg (jj := 1) hx hb hX hbl hbA J1.1.2.2.2.1 (lv_at hl1 1 rfl) (lv_at hl1 6 rfl) (by omega) hL dL_law_1687 dL_law_1688 dL_law_1690 (by decide) dL_law_1691 dL_law_1692 ?_
  have h5 : f_X5_wipe Sr H1.size r (xs (i + 1)) = some (v, Sr', hs3) := h5
  refine l_callR (As := [.int (xs (i + 1))]) (rest := []) hF J1 hc'.fre (c_X5_wipe h5) k_X5_wipe u1388 u1389 u1390 rfl rfl hq.tag rfl hl1.1 rfl (Nat.le_of_ble_eq_true rfl) dL_law_1693 (g5.fit hR (Nat.le_of_ble_eq_true rfl)) (lRm5.fit2 hrm g5 hf) (fun H2 locs2 z3 z4 J2 => ?_)
  refine lv_istore (i := 7) (lv' := (7, .int v) :: (6, .int k) :: lLs bs b r o1 o2 i) hx hb dL_law_1696 hl1 (by decide) rfl (fun ls2 hl2 => ?_)
  refine l_thr hF J2 (hc'.mono z4).fre hq'.tag hk (lv_at hl2 4 rfl) (lv_at hl2 1 rfl) hl2.1 u1132 u1133 u1134 hR (lRm5.fit2 hrm g5 hf) dL_law_1698 dL_law_1699 dL_law_1702 dL_law_1704 (fun H3 locs3 z5 J3 => ?_)
  refine l_cmpI hF hA1 J3 (lv_at hl2 5 rfl) (lv_at hl2 1 rfl) (lv_at hl2 0 rfl) hOk dL_law_1709 dL_law_1711 dL_law_1714 dL_law_1715 dL_law_1716 dL_law_1717 dL_law_1719 dL_law_1720 dL_law_1721 dL_law_1726 (by decide) ?_
  refine W.widen (lRm5.fit3 (slots := slots) hrm g5).1 (lRm5.fit3 (cells := cells) hrm g5).2 (kk H3 locs3 ls2 ⟨Sc', Sr', dq', cap', A', c1, v2, J3, ?_, ?_⟩ (lv_sub hl2 [2, 3, 4, 5, 6, 7] rfl))
  · exact hc'.mono (by omega)
  · exact hq'.mono (by omega)
theorem lz_putAll {l : Launch} {D : va_G} {Y : Nat → ClassId} {Sc Sr : GS} {hs : Nat} {yl : ClassId} {o : Nat} {c0 : Value} {b r n cap : Nat} {dq : Nat → Nat} {A : AS} (hfl : l.stackTraces = false) (hc : Rc b n Sc hs A) (hq : Rq r dq cap Sr hs A) (hn : n ≤ 511) (x1 x2 x3 : Int32) : lZ l yL_putAll (lWs yL_putAll cL_putAll 6 [(0, 12, 15, 13), (0, 12, 19, 15), (0, 12, 23, 71), (0, 12, 27, 17), (0, 12, 31, 73)]) [va_rf (some b), .int x1, .int x2, .int x3, va_rf (some o)] D Y Sc hs .long yl o c0 b r (n + 1) (fun c v => c = .long v.toInt64) (fun hs2 => f_X5_putAll Sr hs2 r x1 x2 x3) := by
  exact lZ_chg (lx := [1, 2, 3, 4, 5]) (rm1 := rmL_putAll) (rm2 := rmLx_putAll) (g := fun v => .long v.toInt64) hc hn ⟨by decide, by decide⟩ ⟨(Nat.le_of_ble_eq_true rfl), (Nat.le_of_ble_eq_true rfl), (Nat.le_of_ble_eq_true rfl), (Nat.le_of_ble_eq_true rfl)⟩ ⟨(Nat.le_of_ble_eq_true rfl), (Nat.le_of_ble_eq_true rfl), (Nat.le_of_ble_eq_true rfl), (Nat.le_of_ble_eq_true rfl)⟩ (c_putAll hc (by omega) x1 x2 x3) (fun hs2 h2 => r_putAll (hq.mono h2) hc.1 (by have := hc.2.1; omega) x1 x2 x3) (fun v => rfl) (fun v S' e => cL_putAll_r e hc.tag) (fun x i e hi => cL_putAll_x hfl e hc.tag hi)
set_option maxHeartbeats 4000000 in
set_option maxRecDepth 100000 in
theorem lc_putAll {p : Program} {l : Launch} {e : Env} {R : Room} {s : State} {m : MethodId} {args : Array Value} {below : List Frame} {meth : Method} {c : Code} {H : Heap} {locs : List Loc} {cells slots : Nat} {Q : State → Prop} {ls : Array Slot} {D : va_G} {Y : Nat → ClassId} {Af : Nat → Prop} {rt : Option FieldType} {yl yd : ClassId} {o1 o2 b r n bs L i : Nat} {xs : Nat → Int32} (C : lCx p l s m args meth c rt D Y Af R yl yd bs L xs) (I : lInv D Y Af s.heap yl yd o1 o2 b r n H locs) (hn : n ≤ 511) (hi : i + 5 ≤ L) (hls : lv_has ls 9 (lLs bs b r o1 o2 i)) (hf : cells + 8 ≤ R.cells ∧ slots + 6000 ≤ R.slots)
    (kk : ∀ (H1 : Heap) (locs1 : List Loc) (ls1 : Array Slot), lInv D Y Af s.heap yl yd o1 o2 b r (n + 1) H1 locs1 → lv_has ls1 9 (lLs bs b r o1 o2 i) → W p l e R s m args below meth c H1 locs1 (cells + 8) (slots + 6000) Q (F0 m 3541 ls1 [])) : W p l e R s m args below meth c H locs cells slots Q (F0 m 1729 ls []) := by
  obtain ⟨hF, hNc, hA1, hA2, hfl, hX, hbl, hbA, hL, hR⟩ := C
  obtain ⟨Sc, Sr, dq, cap, A, v1, v2, hJ, hc, hq⟩ := I
  have hx := hF.1
  have hb := hF.2.1
  have g5 : lRm5 rm_X5_putAll := ⟨(Nat.le_of_ble_eq_true rfl), (Nat.le_of_ble_eq_true rfl), (Nat.le_of_ble_eq_true rfl), (Nat.le_of_ble_eq_true rfl)⟩
  obtain ⟨rm, k, c1, Sc', hs', hrm, hMet, hOK⟩ := lz_putAll (D := D) (Y := Y) (yl := yl) (o := o1) (c0 := v1) hfl hc hq hn (xs (i + 1)) (xs (i + 2)) (xs (i + 3))
  refine g_aload_n hx hb dL_law_1729 rfl (lv_at hls 1 rfl) ?_
  refine l_arg (jj := 1) hx hb hX hbl hbA hJ.1.2.2.2.1 (lv_at hls 0 rfl) (lv_at hls 5 rfl) (by omega) hL dL_law_1730 dL_law_1731 dL_law_1733 (by decide) dL_law_1734 dL_law_1735 ?_
  refine l_arg (jj := 2) hx hb hX hbl hbA hJ.1.2.2.2.1 (lv_at hls 0 rfl) (lv_at hls 5 rfl) (by omega) hL dL_law_1736 dL_law_1737 dL_law_1739 (by decide) dL_law_1740 dL_law_1741 ?_
  refine l_arg (jj := 3) hx hb hX hbl hbA hJ.1.2.2.2.1 (lv_at hls 0 rfl) (lv_at hls 5 rfl) (by omega) hL dL_law_1742 dL_law_1743 dL_law_1745 (by decide) dL_law_1746 dL_law_1747 ?_
  refine g_aload_n hx hb dL_law_1748 rfl (lv_at hls 3 rfl) ?_
  refine l_callW (rest := []) hF hNc hA1 hJ hq.fre hMet kL_putAll u837 u838 rfl hls.1 rfl (Nat.le_of_ble_eq_true rfl) dL_law_1749 (hrm.fit hR (Nat.le_of_ble_eq_true rfl)) (hrm.fit2 hf) (fun H1 locs1 z1 z2 J1 => ?_)
  obtain ⟨v, Sr', hs3, dq', cap', A', h5, hle, hk, hOk, hc', hq'⟩ := hOK H1.size z1
  refine lv_istore (i := 6) (lv' := (6, .int k) :: lLs bs b r o1 o2 i) hx hb dL_law_1752 hls (by decide) rfl (fun ls1 hl1 => ?_)
  refine g_aload_n hx hb dL_law_1754 rfl (lv_at hl1 3 rfl) ?_
  refine l_arg (jj := 1) hx hb hX hbl hbA J1.1.2.2.2.1 (lv_at hl1 1 rfl) (lv_at hl1 6 rfl) (by omega) hL dL_law_1755 dL_law_1756 dL_law_1758 (by decide) dL_law_1759 dL_law_1760 ?_
  refine l_arg (jj := 2) hx hb hX hbl hbA J1.1.2.2.2.1 (lv_at hl1 1 rfl) (lv_at hl1 6 rfl) (by omega) hL dL_law_1761 dL_law_1762 dL_law_1764 (by decide) dL_law_1765 dL_law_1766 ?_
  refine l_arg (jj := 3) hx hb hX hbl hbA J1.1.2.2.2.1 (lv_at hl1 1 rfl) (lv_at hl1 6 rfl) (by omega) hL dL_law_1767 dL_law_1768 dL_law_1770 (by decide) dL_law_1771 dL_law_1772 ?_
  have h5 : f_X5_putAll Sr H1.size r (xs (i + 1)) (xs (i + 2)) (xs (i + 3)) = some (v, Sr', hs3) := h5
  refine l_callR (As := [.int (xs (i + 1)), .int (xs (i + 2)), .int (xs (i + 3))]) (rest := []) hF J1 hc'.fre (c_X5_putAll h5) k_X5_putAll u1392 u1393 u1394 rfl rfl hq.tag rfl hl1.1 rfl (Nat.le_of_ble_eq_true rfl) dL_law_1773 (g5.fit hR (Nat.le_of_ble_eq_true rfl)) (lRm5.fit2 hrm g5 hf) (fun H2 locs2 z3 z4 J2 => ?_)
  refine lv_istore (i := 7) (lv' := (7, .int v) :: (6, .int k) :: lLs bs b r o1 o2 i) hx hb dL_law_1776 hl1 (by decide) rfl (fun ls2 hl2 => ?_)
  refine l_thr hF J2 (hc'.mono z4).fre hq'.tag hk (lv_at hl2 4 rfl) (lv_at hl2 1 rfl) hl2.1 u1132 u1133 u1134 hR (lRm5.fit2 hrm g5 hf) dL_law_1778 dL_law_1779 dL_law_1782 dL_law_1784 (fun H3 locs3 z5 J3 => ?_)
  refine l_cmpI hF hA1 J3 (lv_at hl2 5 rfl) (lv_at hl2 1 rfl) (lv_at hl2 0 rfl) hOk dL_law_1789 dL_law_1791 dL_law_1794 dL_law_1795 dL_law_1796 dL_law_1797 dL_law_1799 dL_law_1800 dL_law_1801 dL_law_1806 (by decide) ?_
  refine W.widen (lRm5.fit3 (slots := slots) hrm g5).1 (lRm5.fit3 (cells := cells) hrm g5).2 (kk H3 locs3 ls2 ⟨Sc', Sr', dq', cap', A', c1, v2, J3, ?_, ?_⟩ (lv_sub hl2 [2, 3, 4, 5, 6, 7] rfl))
  · exact hc'.mono (by omega)
  · exact hq'.mono (by omega)
theorem lz_keep {l : Launch} {D : va_G} {Y : Nat → ClassId} {Sc Sr : GS} {hs : Nat} {yl : ClassId} {o : Nat} {c0 : Value} {b r n cap : Nat} {dq : Nat → Nat} {A : AS} (hfl : l.stackTraces = false) (hc : Rc b n Sc hs A) (hq : Rq r dq cap Sr hs A) (hn : n ≤ 511) (x1 x2 x3 : Int32) : lZ l yL_keep (lWs yL_keep cL_keep 6 [(0, 12, 15, 13), (0, 12, 19, 15), (0, 12, 23, 71)]) [va_rf (some b), .int x1, .int x2, .int x3, va_rf (some o)] D Y Sc hs .long yl o c0 b r (n + 1) (fun c v => c = .long v.toInt64) (fun hs2 => f_X5_keep Sr hs2 r x1 x2 x3) := by
  exact lZ_chg (lx := [1, 2, 3]) (rm1 := rmL_keep) (rm2 := rmLx_keep) (g := fun v => .long v.toInt64) hc hn ⟨by decide, by decide⟩ ⟨(Nat.le_of_ble_eq_true rfl), (Nat.le_of_ble_eq_true rfl), (Nat.le_of_ble_eq_true rfl), (Nat.le_of_ble_eq_true rfl)⟩ ⟨(Nat.le_of_ble_eq_true rfl), (Nat.le_of_ble_eq_true rfl), (Nat.le_of_ble_eq_true rfl), (Nat.le_of_ble_eq_true rfl)⟩ (c_keep hc (by omega) x1 x2 x3) (fun hs2 h2 => r_keep (hq.mono h2) hc.1 (by have := hc.2.1; omega) x1 x2 x3) (fun v => rfl) (fun v S' e => cL_keep_r e hc.tag) (fun x i e hi => cL_keep_x hfl e hc.tag hi)
set_option maxHeartbeats 4000000 in
set_option maxRecDepth 100000 in
theorem lc_keep {p : Program} {l : Launch} {e : Env} {R : Room} {s : State} {m : MethodId} {args : Array Value} {below : List Frame} {meth : Method} {c : Code} {H : Heap} {locs : List Loc} {cells slots : Nat} {Q : State → Prop} {ls : Array Slot} {D : va_G} {Y : Nat → ClassId} {Af : Nat → Prop} {rt : Option FieldType} {yl yd : ClassId} {o1 o2 b r n bs L i : Nat} {xs : Nat → Int32} (C : lCx p l s m args meth c rt D Y Af R yl yd bs L xs) (I : lInv D Y Af s.heap yl yd o1 o2 b r n H locs) (hn : n ≤ 511) (hi : i + 5 ≤ L) (hls : lv_has ls 9 (lLs bs b r o1 o2 i)) (hf : cells + 8 ≤ R.cells ∧ slots + 6000 ≤ R.slots)
    (kk : ∀ (H1 : Heap) (locs1 : List Loc) (ls1 : Array Slot), lInv D Y Af s.heap yl yd o1 o2 b r (n + 1) H1 locs1 → lv_has ls1 9 (lLs bs b r o1 o2 i) → W p l e R s m args below meth c H1 locs1 (cells + 8) (slots + 6000) Q (F0 m 3541 ls1 [])) : W p l e R s m args below meth c H locs cells slots Q (F0 m 1809 ls []) := by
  obtain ⟨hF, hNc, hA1, hA2, hfl, hX, hbl, hbA, hL, hR⟩ := C
  obtain ⟨Sc, Sr, dq, cap, A, v1, v2, hJ, hc, hq⟩ := I
  have hx := hF.1
  have hb := hF.2.1
  have g5 : lRm5 rm_X5_keep := ⟨(Nat.le_of_ble_eq_true rfl), (Nat.le_of_ble_eq_true rfl), (Nat.le_of_ble_eq_true rfl), (Nat.le_of_ble_eq_true rfl)⟩
  obtain ⟨rm, k, c1, Sc', hs', hrm, hMet, hOK⟩ := lz_keep (D := D) (Y := Y) (yl := yl) (o := o1) (c0 := v1) hfl hc hq hn (xs (i + 1)) (xs (i + 2)) (bz (xs (i + 3)))
  refine g_aload_n hx hb dL_law_1809 rfl (lv_at hls 1 rfl) ?_
  refine l_arg (jj := 1) hx hb hX hbl hbA hJ.1.2.2.2.1 (lv_at hls 0 rfl) (lv_at hls 5 rfl) (by omega) hL dL_law_1810 dL_law_1811 dL_law_1813 (by decide) dL_law_1814 dL_law_1815 ?_
  refine l_arg (jj := 2) hx hb hX hbl hbA hJ.1.2.2.2.1 (lv_at hls 0 rfl) (lv_at hls 5 rfl) (by omega) hL dL_law_1816 dL_law_1817 dL_law_1819 (by decide) dL_law_1820 dL_law_1821 ?_
  refine l_arg (jj := 3) hx hb hX hbl hbA hJ.1.2.2.2.1 (lv_at hls 0 rfl) (lv_at hls 5 rfl) (by omega) hL dL_law_1822 dL_law_1823 dL_law_1825 (by decide) dL_law_1826 dL_law_1827 ?_
  refine l_bool hx hb dL_law_1828 dL_law_1831 dL_law_1832 dL_law_1835 ?_
  refine g_aload_n hx hb dL_law_1836 rfl (lv_at hls 3 rfl) ?_
  refine l_callW (rest := []) hF hNc hA1 hJ hq.fre hMet kL_keep u850 u851 rfl hls.1 rfl (Nat.le_of_ble_eq_true rfl) dL_law_1837 (hrm.fit hR (Nat.le_of_ble_eq_true rfl)) (hrm.fit2 hf) (fun H1 locs1 z1 z2 J1 => ?_)
  obtain ⟨v, Sr', hs3, dq', cap', A', h5, hle, hk, hOk, hc', hq'⟩ := hOK H1.size z1
  refine lv_istore (i := 6) (lv' := (6, .int k) :: lLs bs b r o1 o2 i) hx hb dL_law_1840 hls (by decide) rfl (fun ls1 hl1 => ?_)
  refine g_aload_n hx hb dL_law_1842 rfl (lv_at hl1 3 rfl) ?_
  refine l_arg (jj := 1) hx hb hX hbl hbA J1.1.2.2.2.1 (lv_at hl1 1 rfl) (lv_at hl1 6 rfl) (by omega) hL dL_law_1843 dL_law_1844 dL_law_1846 (by decide) dL_law_1847 dL_law_1848 ?_
  refine l_arg (jj := 2) hx hb hX hbl hbA J1.1.2.2.2.1 (lv_at hl1 1 rfl) (lv_at hl1 6 rfl) (by omega) hL dL_law_1849 dL_law_1850 dL_law_1852 (by decide) dL_law_1853 dL_law_1854 ?_
  refine l_arg (jj := 3) hx hb hX hbl hbA J1.1.2.2.2.1 (lv_at hl1 1 rfl) (lv_at hl1 6 rfl) (by omega) hL dL_law_1855 dL_law_1856 dL_law_1858 (by decide) dL_law_1859 dL_law_1860 ?_
  refine l_bool hx hb dL_law_1861 dL_law_1864 dL_law_1865 dL_law_1868 ?_
  have h5 : f_X5_keep Sr H1.size r (xs (i + 1)) (xs (i + 2)) (bz (xs (i + 3))) = some (v, Sr', hs3) := h5
  refine l_callR (As := [.int (xs (i + 1)), .int (xs (i + 2)), .int (bz (xs (i + 3)))]) (rest := []) hF J1 hc'.fre (c_X5_keep h5) k_X5_keep u1396 u1397 u1398 rfl rfl hq.tag rfl hl1.1 rfl (Nat.le_of_ble_eq_true rfl) dL_law_1869 (g5.fit hR (Nat.le_of_ble_eq_true rfl)) (lRm5.fit2 hrm g5 hf) (fun H2 locs2 z3 z4 J2 => ?_)
  refine lv_istore (i := 7) (lv' := (7, .int v) :: (6, .int k) :: lLs bs b r o1 o2 i) hx hb dL_law_1872 hl1 (by decide) rfl (fun ls2 hl2 => ?_)
  refine l_thr hF J2 (hc'.mono z4).fre hq'.tag hk (lv_at hl2 4 rfl) (lv_at hl2 1 rfl) hl2.1 u1132 u1133 u1134 hR (lRm5.fit2 hrm g5 hf) dL_law_1874 dL_law_1875 dL_law_1878 dL_law_1880 (fun H3 locs3 z5 J3 => ?_)
  refine l_cmpI hF hA1 J3 (lv_at hl2 5 rfl) (lv_at hl2 1 rfl) (lv_at hl2 0 rfl) hOk dL_law_1885 dL_law_1887 dL_law_1890 dL_law_1891 dL_law_1892 dL_law_1893 dL_law_1895 dL_law_1896 dL_law_1897 dL_law_1902 (by decide) ?_
  refine W.widen (lRm5.fit3 (slots := slots) hrm g5).1 (lRm5.fit3 (cells := cells) hrm g5).2 (kk H3 locs3 ls2 ⟨Sc', Sr', dq', cap', A', c1, v2, J3, ?_, ?_⟩ (lv_sub hl2 [2, 3, 4, 5, 6, 7] rfl))
  · exact hc'.mono (by omega)
  · exact hq'.mono (by omega)
