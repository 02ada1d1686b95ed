/-! the law's cases: areApart, end, enter, strike, hasNumber, thingOf, numberAt, keepKeys, share, meanKey -/
theorem lz_areApart {l : Launch} {D : va_G} {Y : Nat → ClassId} {Sc Sr : GS} {hs : Nat} {yl : ClassId} {o : Nat} {c0 : Value} {b r n cap : Nat} {dq : Nat → Nat} {A : AS} (hfl : l.stackTraces = false) (hc : Rc b n Sc hs A) (hq : Rq r dq cap Sr hs A) (hn : n ≤ 511) (x1 x2 : Int32) : lZ l yL_areApart (lWs yL_areApart cL_areApart 5 [(0, 17, 20, 13), (0, 17, 24, 15)]) [va_rf (some b), .int x1, .int x2, va_rf (some o)] D Y Sc hs .long yl o c0 b r (n + 1) (fun c v => c = .long (bzL v)) (fun hs2 => rL hs2 (f_X5_areApart Sr r x1 x2)) := by
  obtain ⟨hw, hp, pa, ch, hr⟩ := id hc
  exact lZ_ask (lx := [1, 2]) (rm1 := rmL_areApart) (rm2 := rmLx_areApart) (g := fun v => .long (bzL v)) hc hq hn ⟨by decide, by decide⟩ ⟨(Nat.le_of_ble_eq_true rfl), (Nat.le_of_ble_eq_true rfl), (Nat.le_of_ble_eq_true rfl), (Nat.le_of_ble_eq_true rfl)⟩ ⟨(Nat.le_of_ble_eq_true rfl), (Nat.le_of_ble_eq_true rfl), (Nat.le_of_ble_eq_true rfl), (Nat.le_of_ble_eq_true rfl)⟩ (c_areApart hr hw x1 x2) (r_areApart hq hw x1 x2) (hz_same (V := Int32) (g := fun v => .long (bzL v)) (Ok := fun c v => c = .long (bzL v)) fun v _ => rfl) (fun v e => cL_areApart_r e hc.tag rfl) (fun x i e hi => cL_areApart_x hfl e hc.tag hi)
set_option maxHeartbeats 4000000 in
set_option maxRecDepth 100000 in
theorem lc_areApart {p : Program} {l : Launch} {e : Env} {R : Room} {s : State} {m : MethodId} {args : Array Value} {below : List Frame} {meth : Method} {c : Code} {H : Heap} {locs : List Loc} {cells slots : Nat} {Q : State → Prop} {ls : Array Slot} {D : va_G} {Y : Nat → ClassId} {Af : Nat → Prop} {rt : Option FieldType} {yl yd : ClassId} {o1 o2 b r n bs L i : Nat} {xs : Nat → Int32} (C : lCx p l s m args meth c rt D Y Af R yl yd bs L xs) (I : lInv D Y Af s.heap yl yd o1 o2 b r n H locs) (hn : n ≤ 511) (hi : i + 5 ≤ L) (hls : lv_has ls 9 (lLs bs b r o1 o2 i)) (hf : cells + 8 ≤ R.cells ∧ slots + 6000 ≤ R.slots)
    (kk : ∀ (H1 : Heap) (locs1 : List Loc) (ls1 : Array Slot), lInv D Y Af s.heap yl yd o1 o2 b r (n + 1) H1 locs1 → lv_has ls1 9 (lLs bs b r o1 o2 i) → W p l e R s m args below meth c H1 locs1 (cells + 8) (slots + 6000) Q (F0 m 3541 ls1 [])) : W p l e R s m args below meth c H locs cells slots Q (F0 m 2719 ls []) := by
  obtain ⟨hF, hNc, hA1, hA2, hfl, hX, hbl, hbA, hL, hR⟩ := C
  obtain ⟨Sc, Sr, dq, cap, A, v1, v2, hJ, hc, hq⟩ := I
  have hx := hF.1
  have hb := hF.2.1
  have g5 : lRm5 rm_X5_areApart := ⟨(Nat.le_of_ble_eq_true rfl), (Nat.le_of_ble_eq_true rfl), (Nat.le_of_ble_eq_true rfl), (Nat.le_of_ble_eq_true rfl)⟩
  obtain ⟨rm, k, c1, Sc', hs', hrm, hMet, hOK⟩ := lz_areApart (D := D) (Y := Y) (yl := yl) (o := o1) (c0 := v1) hfl hc hq hn (xs (i + 1)) (xs (i + 2))
  refine g_aload_n hx hb dL_law_2719 rfl (lv_at hls 1 rfl) ?_
  refine l_arg (jj := 1) hx hb hX hbl hbA hJ.1.2.2.2.1 (lv_at hls 0 rfl) (lv_at hls 5 rfl) (by omega) hL dL_law_2720 dL_law_2721 dL_law_2723 (by decide) dL_law_2724 dL_law_2725 ?_
  refine l_arg (jj := 2) hx hb hX hbl hbA hJ.1.2.2.2.1 (lv_at hls 0 rfl) (lv_at hls 5 rfl) (by omega) hL dL_law_2726 dL_law_2727 dL_law_2729 (by decide) dL_law_2730 dL_law_2731 ?_
  refine g_aload_n hx hb dL_law_2732 rfl (lv_at hls 3 rfl) ?_
  refine l_callW (rest := []) hF hNc hA1 hJ hq.fre hMet kL_areApart u947 u948 rfl hls.1 rfl (Nat.le_of_ble_eq_true rfl) dL_law_2733 (hrm.fit hR (Nat.le_of_ble_eq_true rfl)) (hrm.fit2 hf) (fun H1 locs1 z1 z2 J1 => ?_)
  obtain ⟨v, Sr', hs3, dq', cap', A', h5, hle, hk, hOk, hc', hq'⟩ := hOK H1.size z1
  refine lv_istore (i := 6) (lv' := (6, .int k) :: lLs bs b r o1 o2 i) hx hb dL_law_2736 hls (by decide) rfl (fun ls1 hl1 => ?_)
  refine g_aload_n hx hb dL_law_2738 rfl (lv_at hl1 3 rfl) ?_
  refine l_arg (jj := 1) hx hb hX hbl hbA J1.1.2.2.2.1 (lv_at hl1 1 rfl) (lv_at hl1 6 rfl) (by omega) hL dL_law_2739 dL_law_2740 dL_law_2742 (by decide) dL_law_2743 dL_law_2744 ?_
  refine l_arg (jj := 2) hx hb hX hbl hbA J1.1.2.2.2.1 (lv_at hl1 1 rfl) (lv_at hl1 6 rfl) (by omega) hL dL_law_2745 dL_law_2746 dL_law_2748 (by decide) dL_law_2749 dL_law_2750 ?_
  obtain ⟨h6, rfl⟩ := rL_of h5
  refine l_callR (As := [.int (xs (i + 1)), .int (xs (i + 2))]) (rest := []) hF J1 hc'.fre (c_X5_areApart h6) k_X5_areApart u1470 u1471 u1472 rfl rfl hq.tag rfl hl1.1 rfl (Nat.le_of_ble_eq_true rfl) dL_law_2751 (g5.fit hR (Nat.le_of_ble_eq_true rfl)) (lRm5.fit2 hrm g5 hf) (fun H2 locs2 z3 z4 J2 => ?_)
  refine lv_istore (i := 7) (lv' := (7, .int v) :: (6, .int k) :: lLs bs b r o1 o2 i) hx hb dL_law_2754 hl1 (by decide) rfl (fun ls2 hl2 => ?_)
  refine l_thr hF J2 (hc'.mono z4).fre hq'.tag hk (lv_at hl2 4 rfl) (lv_at hl2 1 rfl) hl2.1 u1132 u1133 u1134 hR (lRm5.fit2 hrm g5 hf) dL_law_2756 dL_law_2757 dL_law_2760 dL_law_2762 (fun H3 locs3 z5 J3 => ?_)
  refine l_cmpZ hF hA1 J3 (lv_at hl2 5 rfl) (lv_at hl2 1 rfl) (lv_at hl2 0 rfl) hOk dL_law_2767 dL_law_2769 dL_law_2772 dL_law_2773 dL_law_2774 dL_law_2775 dL_law_2777 dL_law_2780 dL_law_2781 dL_law_2784 dL_law_2785 dL_law_2786 dL_law_2791 (by decide) ?_
  refine W.widen (lRm5.fit3 (slots := slots) hrm g5).1 (lRm5.fit3 (cells := cells) hrm g5).2 (kk H3 locs3 ls2 ⟨Sc', Sr', dq', cap', A', c1, v2, J3, ?_, ?_⟩ (lv_sub hl2 [2, 3, 4, 5, 6, 7] rfl))
  · exact hc'.mono (by omega)
  · exact hq'.mono (by omega)
theorem lz_end {l : Launch} {D : va_G} {Y : Nat → ClassId} {Sc Sr : GS} {hs : Nat} {yl : ClassId} {o : Nat} {c0 : Value} {b r n cap : Nat} {dq : Nat → Nat} {A : AS} (hfl : l.stackTraces = false) (hc : Rc b n Sc hs A) (hq : Rq r dq cap Sr hs A) (hn : n ≤ 511) (x1 x2 : Int32) : lZ l yL_end (lWs yL_end cL_end 5 [(0, 10, 13, 13), (0, 10, 17, 15), (0, 10, 21, 73)]) [va_rf (some b), .int x1, .int x2, va_rf (some o)] D Y Sc hs .long yl o c0 b r (n + 1) (fun c v => c = .long v.toInt64) (fun hs2 => rL hs2 (f_X5_end Sr r x1 x2)) := by
  obtain ⟨hw, hp, pa, ch, hr⟩ := id hc
  exact lZ_ask (lx := [1, 2, 5]) (rm1 := rmL_end) (rm2 := rmLx_end) (g := fun v => .long v.toInt64) hc hq hn ⟨by decide, by decide⟩ ⟨(Nat.le_of_ble_eq_true rfl), (Nat.le_of_ble_eq_true rfl), (Nat.le_of_ble_eq_true rfl), (Nat.le_of_ble_eq_true rfl)⟩ ⟨(Nat.le_of_ble_eq_true rfl), (Nat.le_of_ble_eq_true rfl), (Nat.le_of_ble_eq_true rfl), (Nat.le_of_ble_eq_true rfl)⟩ (c_end hr hw x1 x2) (r_end hq hw x1 x2) (hz_same (V := Int32) (g := fun v => .long v.toInt64) (Ok := fun c v => c = .long v.toInt64) fun v _ => rfl) (fun v e => cL_end_r e hc.tag) (fun x i e hi => cL_end_x hfl e hc.tag hi)
set_option maxHeartbeats 4000000 in
set_option maxRecDepth 100000 in
theorem lc_end {p : Program} {l : Launch} {e : Env} {R : Room} {s : State} {m : MethodId} {args : Array Value} {below : List Frame} {meth : Method} {c : Code} {H : Heap} {locs : List Loc} {cells slots : Nat} {Q : State → Prop} {ls : Array Slot} {D : va_G} {Y : Nat → ClassId} {Af : Nat → Prop} {rt : Option FieldType} {yl yd : ClassId} {o1 o2 b r n bs L i : Nat} {xs : Nat → Int32} (C : lCx p l s m args meth c rt D Y Af R yl yd bs L xs) (I : lInv D Y Af s.heap yl yd o1 o2 b r n H locs) (hn : n ≤ 511) (hi : i + 5 ≤ L) (hls : lv_has ls 9 (lLs bs b r o1 o2 i)) (hf : cells + 8 ≤ R.cells ∧ slots + 6000 ≤ R.slots)
    (kk : ∀ (H1 : Heap) (locs1 : List Loc) (ls1 : Array Slot), lInv D Y Af s.heap yl yd o1 o2 b r (n + 1) H1 locs1 → lv_has ls1 9 (lLs bs b r o1 o2 i) → W p l e R s m args below meth c H1 locs1 (cells + 8) (slots + 6000) Q (F0 m 3541 ls1 [])) : W p l e R s m args below meth c H locs cells slots Q (F0 m 2794 ls []) := by
  obtain ⟨hF, hNc, hA1, hA2, hfl, hX, hbl, hbA, hL, hR⟩ := C
  obtain ⟨Sc, Sr, dq, cap, A, v1, v2, hJ, hc, hq⟩ := I
  have hx := hF.1
  have hb := hF.2.1
  have g5 : lRm5 rm_X5_end := ⟨(Nat.le_of_ble_eq_true rfl), (Nat.le_of_ble_eq_true rfl), (Nat.le_of_ble_eq_true rfl), (Nat.le_of_ble_eq_true rfl)⟩
  obtain ⟨rm, k, c1, Sc', hs', hrm, hMet, hOK⟩ := lz_end (D := D) (Y := Y) (yl := yl) (o := o1) (c0 := v1) hfl hc hq hn (xs (i + 1)) (bz (xs (i + 2)))
  refine g_aload_n hx hb dL_law_2794 rfl (lv_at hls 1 rfl) ?_
  refine l_arg (jj := 1) hx hb hX hbl hbA hJ.1.2.2.2.1 (lv_at hls 0 rfl) (lv_at hls 5 rfl) (by omega) hL dL_law_2795 dL_law_2796 dL_law_2798 (by decide) dL_law_2799 dL_law_2800 ?_
  refine l_arg (jj := 2) hx hb hX hbl hbA hJ.1.2.2.2.1 (lv_at hls 0 rfl) (lv_at hls 5 rfl) (by omega) hL dL_law_2801 dL_law_2802 dL_law_2804 (by decide) dL_law_2805 dL_law_2806 ?_
  refine l_bool hx hb dL_law_2807 dL_law_2810 dL_law_2811 dL_law_2814 ?_
  refine g_aload_n hx hb dL_law_2815 rfl (lv_at hls 3 rfl) ?_
  refine l_callW (rest := []) hF hNc hA1 hJ hq.fre hMet kL_end u954 u955 rfl hls.1 rfl (Nat.le_of_ble_eq_true rfl) dL_law_2816 (hrm.fit hR (Nat.le_of_ble_eq_true rfl)) (hrm.fit2 hf) (fun H1 locs1 z1 z2 J1 => ?_)
  obtain ⟨v, Sr', hs3, dq', cap', A', h5, hle, hk, hOk, hc', hq'⟩ := hOK H1.size z1
  refine lv_istore (i := 6) (lv' := (6, .int k) :: lLs bs b r o1 o2 i) hx hb dL_law_2819 hls (by decide) rfl (fun ls1 hl1 => ?_)
  refine g_aload_n hx hb dL_law_2821 rfl (lv_at hl1 3 rfl) ?_
  refine l_arg (jj := 1) hx hb hX hbl hbA J1.1.2.2.2.1 (lv_at hl1 1 rfl) (lv_at hl1 6 rfl) (by omega) hL dL_law_2822 dL_law_2823 dL_law_2825 (by decide) dL_law_2826 dL_law_2827 ?_
  refine l_arg (jj := 2) hx hb hX hbl hbA J1.1.2.2.2.1 (lv_at hl1 1 rfl) (lv_at hl1 6 rfl) (by omega) hL dL_law_2828 dL_law_2829 dL_law_2831 (by decide) dL_law_2832 dL_law_2833 ?_
  refine l_bool hx hb dL_law_2834 dL_law_2837 dL_law_2838 dL_law_2841 ?_
  obtain ⟨h6, rfl⟩ := rL_of h5
  refine l_callR (As := [.int (xs (i + 1)), .int (bz (xs (i + 2)))]) (rest := []) hF J1 hc'.fre (c_X5_end h6) k_X5_end u1474 u1475 u1476 rfl rfl hq.tag rfl hl1.1 rfl (Nat.le_of_ble_eq_true rfl) dL_law_2842 (g5.fit hR (Nat.le_of_ble_eq_true rfl)) (lRm5.fit2 hrm g5 hf) (fun H2 locs2 z3 z4 J2 => ?_)
  refine lv_istore (i := 7) (lv' := (7, .int v) :: (6, .int k) :: lLs bs b r o1 o2 i) hx hb dL_law_2845 hl1 (by decide) rfl (fun ls2 hl2 => ?_)
  refine l_thr hF J2 (hc'.mono z4).fre hq'.tag hk (lv_at hl2 4 rfl) (lv_at hl2 1 rfl) hl2.1 u1132 u1133 u1134 hR (lRm5.fit2 hrm g5 hf) dL_law_2847 dL_law_2848 dL_law_2851 dL_law_2853 (fun H3 locs3 z5 J3 => ?_)
  refine l_cmpI hF hA1 J3 (lv_at hl2 5 rfl) (lv_at hl2 1 rfl) (lv_at hl2 0 rfl) hOk dL_law_2858 dL_law_2860 dL_law_2863 dL_law_2864 dL_law_2865 dL_law_2866 dL_law_2868 dL_law_2869 dL_law_2870 dL_law_2875 (by decide) ?_
  refine W.widen (lRm5.fit3 (slots := slots) hrm g5).1 (lRm5.fit3 (cells := cells) hrm g5).2 (kk H3 locs3 ls2 ⟨Sc', Sr', dq', cap', A', c1, v2, J3, ?_, ?_⟩ (lv_sub hl2 [2, 3, 4, 5, 6, 7] rfl))
  · exact hc'.mono (by omega)
  · exact hq'.mono (by omega)
theorem lz_enter {l : Launch} {D : va_G} {Y : Nat → ClassId} {Sc Sr : GS} {hs : Nat} {yl : ClassId} {o : Nat} {c0 : Value} {b r n cap : Nat} {dq : Nat → Nat} {A : AS} (hfl : l.stackTraces = false) (hc : Rc b n Sc hs A) (hq : Rq r dq cap Sr hs A) (hn : n ≤ 511) (x1 x2 x3 x4 : Int32) : lZ l yL_enter (lWs yL_enter cL_enter 7 [(0, 21, 24, 13), (0, 21, 28, 15), (0, 21, 32, 71), (0, 21, 36, 17), (0, 21, 40, 73)]) [va_rf (some b), .int x1, .int x2, .int x3, .int x4, va_rf (some o)] D Y Sc hs .long yl o c0 b r (n + 1) (fun c v => c = .long (bzL v)) (fun hs2 => rL hs2 (f_X5_enter Sr r x1 x2 x3 x4)) := by
  exact lZ_chg (lx := [1, 2, 3, 4, 5]) (rm1 := rmL_enter) (rm2 := rmLx_enter) (g := fun v => .long (bzL v)) hc hn ⟨by decide, by decide⟩ ⟨(Nat.le_of_ble_eq_true rfl), (Nat.le_of_ble_eq_true rfl), (Nat.le_of_ble_eq_true rfl), (Nat.le_of_ble_eq_true rfl)⟩ ⟨(Nat.le_of_ble_eq_true rfl), (Nat.le_of_ble_eq_true rfl), (Nat.le_of_ble_eq_true rfl), (Nat.le_of_ble_eq_true rfl)⟩ (c_enter hc (by omega) x1 x2 x3 x4) (fun hs2 h2 => r_enter (hq.mono h2) hc.1 (by have := hc.2.1; omega) x1 x2 x3 x4) (fun v => rfl) (fun v S' e => cL_enter_r e hc.tag rfl) (fun x i e hi => cL_enter_x hfl e hc.tag hi)
set_option maxHeartbeats 4000000 in
set_option maxRecDepth 100000 in
theorem lc_enter {p : Program} {l : Launch} {e : Env} {R : Room} {s : State} {m : MethodId} {args : Array Value} {below : List Frame} {meth : Method} {c : Code} {H : Heap} {locs : List Loc} {cells slots : Nat} {Q : State → Prop} {ls : Array Slot} {D : va_G} {Y : Nat → ClassId} {Af : Nat → Prop} {rt : Option FieldType} {yl yd : ClassId} {o1 o2 b r n bs L i : Nat} {xs : Nat → Int32} (C : lCx p l s m args meth c rt D Y Af R yl yd bs L xs) (I : lInv D Y Af s.heap yl yd o1 o2 b r n H locs) (hn : n ≤ 511) (hi : i + 5 ≤ L) (hls : lv_has ls 9 (lLs bs b r o1 o2 i)) (hf : cells + 8 ≤ R.cells ∧ slots + 6000 ≤ R.slots)
    (kk : ∀ (H1 : Heap) (locs1 : List Loc) (ls1 : Array Slot), lInv D Y Af s.heap yl yd o1 o2 b r (n + 1) H1 locs1 → lv_has ls1 9 (lLs bs b r o1 o2 i) → W p l e R s m args below meth c H1 locs1 (cells + 8) (slots + 6000) Q (F0 m 3541 ls1 [])) : W p l e R s m args below meth c H locs cells slots Q (F0 m 2878 ls []) := by
  obtain ⟨hF, hNc, hA1, hA2, hfl, hX, hbl, hbA, hL, hR⟩ := C
  obtain ⟨Sc, Sr, dq, cap, A, v1, v2, hJ, hc, hq⟩ := I
  have hx := hF.1
  have hb := hF.2.1
  have g5 : lRm5 rm_X5_enter := ⟨(Nat.le_of_ble_eq_true rfl), (Nat.le_of_ble_eq_true rfl), (Nat.le_of_ble_eq_true rfl), (Nat.le_of_ble_eq_true rfl)⟩
  obtain ⟨rm, k, c1, Sc', hs', hrm, hMet, hOK⟩ := lz_enter (D := D) (Y := Y) (yl := yl) (o := o1) (c0 := v1) hfl hc hq hn (xs (i + 1)) (xs (i + 2)) (xs (i + 3)) (xs (i + 4))
  refine g_aload_n hx hb dL_law_2878 rfl (lv_at hls 1 rfl) ?_
  refine l_arg (jj := 1) hx hb hX hbl hbA hJ.1.2.2.2.1 (lv_at hls 0 rfl) (lv_at hls 5 rfl) (by omega) hL dL_law_2879 dL_law_2880 dL_law_2882 (by decide) dL_law_2883 dL_law_2884 ?_
  refine l_arg (jj := 2) hx hb hX hbl hbA hJ.1.2.2.2.1 (lv_at hls 0 rfl) (lv_at hls 5 rfl) (by omega) hL dL_law_2885 dL_law_2886 dL_law_2888 (by decide) dL_law_2889 dL_law_2890 ?_
  refine l_arg (jj := 3) hx hb hX hbl hbA hJ.1.2.2.2.1 (lv_at hls 0 rfl) (lv_at hls 5 rfl) (by omega) hL dL_law_2891 dL_law_2892 dL_law_2894 (by decide) dL_law_2895 dL_law_2896 ?_
  refine l_arg (jj := 4) hx hb hX hbl hbA hJ.1.2.2.2.1 (lv_at hls 0 rfl) (lv_at hls 5 rfl) (by omega) hL dL_law_2897 dL_law_2898 dL_law_2900 (by decide) dL_law_2901 dL_law_2902 ?_
  refine g_aload_n hx hb dL_law_2903 rfl (lv_at hls 3 rfl) ?_
  refine l_callW (rest := []) hF hNc hA1 hJ hq.fre hMet kL_enter u964 u965 rfl hls.1 rfl (Nat.le_of_ble_eq_true rfl) dL_law_2904 (hrm.fit hR (Nat.le_of_ble_eq_true rfl)) (hrm.fit2 hf) (fun H1 locs1 z1 z2 J1 => ?_)
  obtain ⟨v, Sr', hs3, dq', cap', A', h5, hle, hk, hOk, hc', hq'⟩ := hOK H1.size z1
  refine lv_istore (i := 6) (lv' := (6, .int k) :: lLs bs b r o1 o2 i) hx hb dL_law_2907 hls (by decide) rfl (fun ls1 hl1 => ?_)
  refine g_aload_n hx hb dL_law_2909 rfl (lv_at hl1 3 rfl) ?_
  refine l_arg (jj := 1) hx hb hX hbl hbA J1.1.2.2.2.1 (lv_at hl1 1 rfl) (lv_at hl1 6 rfl) (by omega) hL dL_law_2910 dL_law_2911 dL_law_2913 (by decide) dL_law_2914 dL_law_2915 ?_
  refine l_arg (jj := 2) hx hb hX hbl hbA J1.1.2.2.2.1 (lv_at hl1 1 rfl) (lv_at hl1 6 rfl) (by omega) hL dL_law_2916 dL_law_2917 dL_law_2919 (by decide) dL_law_2920 dL_law_2921 ?_
  refine l_arg (jj := 3) hx hb hX hbl hbA J1.1.2.2.2.1 (lv_at hl1 1 rfl) (lv_at hl1 6 rfl) (by omega) hL dL_law_2922 dL_law_2923 dL_law_2925 (by decide) dL_law_2926 dL_law_2927 ?_
  refine l_arg (jj := 4) hx hb hX hbl hbA J1.1.2.2.2.1 (lv_at hl1 1 rfl) (lv_at hl1 6 rfl) (by omega) hL dL_law_2928 dL_law_2929 dL_law_2931 (by decide) dL_law_2932 dL_law_2933 ?_
  obtain ⟨h6, rfl⟩ := rL_of h5
  refine l_callR (As := [.int (xs (i + 1)), .int (xs (i + 2)), .int (xs (i + 3)), .int (xs (i + 4))]) (rest := []) hF J1 hc'.fre (c_X5_enter h6) k_X5_enter u1480 u1481 u1482 rfl rfl hq.tag rfl hl1.1 rfl (Nat.le_of_ble_eq_true rfl) dL_law_2934 (g5.fit hR (Nat.le_of_ble_eq_true rfl)) (lRm5.fit2 hrm g5 hf) (fun H2 locs2 z3 z4 J2 => ?_)
  refine lv_istore (i := 7) (lv' := (7, .int v) :: (6, .int k) :: lLs bs b r o1 o2 i) hx hb dL_law_2937 hl1 (by decide) rfl (fun ls2 hl2 => ?_)
  refine l_thr hF J2 (hc'.mono z4).fre hq'.tag hk (lv_at hl2 4 rfl) (lv_at hl2 1 rfl) hl2.1 u1132 u1133 u1134 hR (lRm5.fit2 hrm g5 hf) dL_law_2939 dL_law_2940 dL_law_2943 dL_law_2945 (fun H3 locs3 z5 J3 => ?_)
  refine l_cmpZ hF hA1 J3 (lv_at hl2 5 rfl) (lv_at hl2 1 rfl) (lv_at hl2 0 rfl) hOk dL_law_2950 dL_law_2952 dL_law_2955 dL_law_2956 dL_law_2957 dL_law_2958 dL_law_2960 dL_law_2963 dL_law_2964 dL_law_2967 dL_law_2968 dL_law_2969 dL_law_2974 (by decide) ?_
  refine W.widen (lRm5.fit3 (slots := slots) hrm g5).1 (lRm5.fit3 (cells := cells) hrm g5).2 (kk H3 locs3 ls2 ⟨Sc', Sr', dq', cap', A', c1, v2, J3, ?_, ?_⟩ (lv_sub hl2 [2, 3, 4, 5, 6, 7] rfl))
  · exact hc'.mono (by omega)
  · exact hq'.mono (by omega)
theorem lz_strike {l : Launch} {D : va_G} {Y : Nat → ClassId} {Sc Sr : GS} {hs : Nat} {yl : ClassId} {o : Nat} {c0 : Value} {b r n cap : Nat} {dq : Nat → Nat} {A : AS} (hfl : l.stackTraces = false) (hc : Rc b n Sc hs A) (hq : Rq r dq cap Sr hs A) (hn : n ≤ 511) (x1 x2 : Int32) : lZ l yL_strike (lWs yL_strike cL_strike 5 [(0, 17, 20, 13), (0, 17, 24, 15), (0, 17, 28, 71)]) [va_rf (some b), .int x1, .int x2, va_rf (some o)] D Y Sc hs .long yl o c0 b r (n + 1) (fun c v => c = .long (bzL v)) (fun hs2 => rL hs2 (f_X5_strike Sr r x1 x2)) := by
  exact lZ_chg (lx := [1, 2, 3]) (rm1 := rmL_strike) (rm2 := rmLx_strike) (g := fun v => .long (bzL v)) hc hn ⟨by decide, by decide⟩ ⟨(Nat.le_of_ble_eq_true rfl), (Nat.le_of_ble_eq_true rfl), (Nat.le_of_ble_eq_true rfl), (Nat.le_of_ble_eq_true rfl)⟩ ⟨(Nat.le_of_ble_eq_true rfl), (Nat.le_of_ble_eq_true rfl), (Nat.le_of_ble_eq_true rfl), (Nat.le_of_ble_eq_true rfl)⟩ (c_strike hc (by omega) x1 x2) (fun hs2 h2 => r_strike (hq.mono h2) hc.1 (by have := hc.2.1; omega) x1 x2) (fun v => rfl) (fun v S' e => cL_strike_r e hc.tag rfl) (fun x i e hi => cL_strike_x hfl e hc.tag hi)
set_option maxHeartbeats 4000000 in
set_option maxRecDepth 100000 in
theorem lc_strike {p : Program} {l : Launch} {e : Env} {R : Room} {s : State} {m : MethodId} {args : Array Value} {below : List Frame} {meth : Method} {c : Code} {H : Heap} {locs : List Loc} {cells slots : Nat} {Q : State → Prop} {ls : Array Slot} {D : va_G} {Y : Nat → ClassId} {Af : Nat → Prop} {rt : Option FieldType} {yl yd : ClassId} {o1 o2 b r n bs L i : Nat} {xs : Nat → Int32} (C : lCx p l s m args meth c rt D Y Af R yl yd bs L xs) (I : lInv D Y Af s.heap yl yd o1 o2 b r n H locs) (hn : n ≤ 511) (hi : i + 5 ≤ L) (hls : lv_has ls 9 (lLs bs b r o1 o2 i)) (hf : cells + 8 ≤ R.cells ∧ slots + 6000 ≤ R.slots)
    (kk : ∀ (H1 : Heap) (locs1 : List Loc) (ls1 : Array Slot), lInv D Y Af s.heap yl yd o1 o2 b r (n + 1) H1 locs1 → lv_has ls1 9 (lLs bs b r o1 o2 i) → W p l e R s m args below meth c H1 locs1 (cells + 8) (slots + 6000) Q (F0 m 3541 ls1 [])) : W p l e R s m args below meth c H locs cells slots Q (F0 m 2977 ls []) := by
  obtain ⟨hF, hNc, hA1, hA2, hfl, hX, hbl, hbA, hL, hR⟩ := C
  obtain ⟨Sc, Sr, dq, cap, A, v1, v2, hJ, hc, hq⟩ := I
  have hx := hF.1
  have hb := hF.2.1
  have g5 : lRm5 rm_X5_strike := ⟨(Nat.le_of_ble_eq_true rfl), (Nat.le_of_ble_eq_true rfl), (Nat.le_of_ble_eq_true rfl), (Nat.le_of_ble_eq_true rfl)⟩
  obtain ⟨rm, k, c1, Sc', hs', hrm, hMet, hOK⟩ := lz_strike (D := D) (Y := Y) (yl := yl) (o := o1) (c0 := v1) hfl hc hq hn (xs (i + 1)) (xs (i + 2))
  refine g_aload_n hx hb dL_law_2977 rfl (lv_at hls 1 rfl) ?_
  refine l_arg (jj := 1) hx hb hX hbl hbA hJ.1.2.2.2.1 (lv_at hls 0 rfl) (lv_at hls 5 rfl) (by omega) hL dL_law_2978 dL_law_2979 dL_law_2981 (by decide) dL_law_2982 dL_law_2983 ?_
  refine l_arg (jj := 2) hx hb hX hbl hbA hJ.1.2.2.2.1 (lv_at hls 0 rfl) (lv_at hls 5 rfl) (by omega) hL dL_law_2984 dL_law_2985 dL_law_2987 (by decide) dL_law_2988 dL_law_2989 ?_
  refine g_aload_n hx hb dL_law_2990 rfl (lv_at hls 3 rfl) ?_
  refine l_callW (rest := []) hF hNc hA1 hJ hq.fre hMet kL_strike u976 u977 rfl hls.1 rfl (Nat.le_of_ble_eq_true rfl) dL_law_2991 (hrm.fit hR (Nat.le_of_ble_eq_true rfl)) (hrm.fit2 hf) (fun H1 locs1 z1 z2 J1 => ?_)
  obtain ⟨v, Sr', hs3, dq', cap', A', h5, hle, hk, hOk, hc', hq'⟩ := hOK H1.size z1
  refine lv_istore (i := 6) (lv' := (6, .int k) :: lLs bs b r o1 o2 i) hx hb dL_law_2994 hls (by decide) rfl (fun ls1 hl1 => ?_)
  refine g_aload_n hx hb dL_law_2996 rfl (lv_at hl1 3 rfl) ?_
  refine l_arg (jj := 1) hx hb hX hbl hbA J1.1.2.2.2.1 (lv_at hl1 1 rfl) (lv_at hl1 6 rfl) (by omega) hL dL_law_2997 dL_law_2998 dL_law_3000 (by decide) dL_law_3001 dL_law_3002 ?_
  refine l_arg (jj := 2) hx hb hX hbl hbA J1.1.2.2.2.1 (lv_at hl1 1 rfl) (lv_at hl1 6 rfl) (by omega) hL dL_law_3003 dL_law_3004 dL_law_3006 (by decide) dL_law_3007 dL_law_3008 ?_
  obtain ⟨h6, rfl⟩ := rL_of h5
  refine l_callR (As := [.int (xs (i + 1)), .int (xs (i + 2))]) (rest := []) hF J1 hc'.fre (c_X5_strike h6) k_X5_strike u1488 u1489 u1490 rfl rfl hq.tag rfl hl1.1 rfl (Nat.le_of_ble_eq_true rfl) dL_law_3009 (g5.fit hR (Nat.le_of_ble_eq_true rfl)) (lRm5.fit2 hrm g5 hf) (fun H2 locs2 z3 z4 J2 => ?_)
  refine lv_istore (i := 7) (lv' := (7, .int v) :: (6, .int k) :: lLs bs b r o1 o2 i) hx hb dL_law_3012 hl1 (by decide) rfl (fun ls2 hl2 => ?_)
  refine l_thr hF J2 (hc'.mono z4).fre hq'.tag hk (lv_at hl2 4 rfl) (lv_at hl2 1 rfl) hl2.1 u1132 u1133 u1134 hR (lRm5.fit2 hrm g5 hf) dL_law_3014 dL_law_3015 dL_law_3018 dL_law_3020 (fun H3 locs3 z5 J3 => ?_)
  refine l_cmpZ hF hA1 J3 (lv_at hl2 5 rfl) (lv_at hl2 1 rfl) (lv_at hl2 0 rfl) hOk dL_law_3025 dL_law_3027 dL_law_3030 dL_law_3031 dL_law_3032 dL_law_3033 dL_law_3035 dL_law_3038 dL_law_3039 dL_law_3042 dL_law_3043 dL_law_3044 dL_law_3049 (by decide) ?_
  refine W.widen (lRm5.fit3 (slots := slots) hrm g5).1 (lRm5.fit3 (cells := cells) hrm g5).2 (kk H3 locs3 ls2 ⟨Sc', Sr', dq', cap', A', c1, v2, J3, ?_, ?_⟩ (lv_sub hl2 [2, 3, 4, 5, 6, 7] rfl))
  · exact hc'.mono (by omega)
  · exact hq'.mono (by omega)
theorem lz_hasNumber {l : Launch} {D : va_G} {Y : Nat → ClassId} {Sc Sr : GS} {hs : Nat} {yl : ClassId} {o : Nat} {c0 : Value} {b r n cap : Nat} {dq : Nat → Nat} {A : AS} (hfl : l.stackTraces = false) (hc : Rc b n Sc hs A) (hq : Rq r dq cap Sr hs A) (hn : n ≤ 511) (x1 x2 : Int32) : lZ l yL_hasNumber (lWs yL_hasNumber cL_hasNumber 5 [(0, 17, 20, 13), (0, 17, 24, 15)]) [va_rf (some b), .int x1, .int x2, va_rf (some o)] D Y Sc hs .long yl o c0 b r (n + 1) (fun c v => c = .long (bzL v)) (fun hs2 => rL hs2 (f_X5_hasNumber Sr r x1 x2)) := by
  obtain ⟨hw, hp, pa, ch, hr⟩ := id hc
  exact lZ_ask (lx := [1, 2]) (rm1 := rmL_hasNumber) (rm2 := rmLx_hasNumber) (g := fun v => .long (bzL v)) hc hq hn ⟨by decide, by decide⟩ ⟨(Nat.le_of_ble_eq_true rfl), (Nat.le_of_ble_eq_true rfl), (Nat.le_of_ble_eq_true rfl), (Nat.le_of_ble_eq_true rfl)⟩ ⟨(Nat.le_of_ble_eq_true rfl), (Nat.le_of_ble_eq_true rfl), (Nat.le_of_ble_eq_true rfl), (Nat.le_of_ble_eq_true rfl)⟩ (c_hasNumber hr hw x1 x2) (r_hasNumber hq hw x1 x2) (hz_same (V := Int32) (g := fun v => .long (bzL v)) (Ok := fun c v => c = .long (bzL v)) fun v _ => rfl) (fun v e => cL_hasNumber_r e hc.tag rfl) (fun x i e hi => cL_hasNumber_x hfl e hc.tag hi)
set_option maxHeartbeats 4000000 in
set_option maxRecDepth 100000 in
theorem lc_hasNumber {p : Program} {l : Launch} {e : Env} {R : Room} {s : State} {m : MethodId} {args : Array Value} {below : List Frame} {meth : Method} {c : Code} {H : Heap} {locs : List Loc} {cells slots : Nat} {Q : State → Prop} {ls : Array Slot} {D : va_G} {Y : Nat → ClassId} {Af : Nat → Prop} {rt : Option FieldType} {yl yd : ClassId} {o1 o2 b r n bs L i : Nat} {xs : Nat → Int32} (C : lCx p l s m args meth c rt D Y Af R yl yd bs L xs) (I : lInv D Y Af s.heap yl yd o1 o2 b r n H locs) (hn : n ≤ 511) (hi : i + 5 ≤ L) (hls : lv_has ls 9 (lLs bs b r o1 o2 i)) (hf : cells + 8 ≤ R.cells ∧ slots + 6000 ≤ R.slots)
    (kk : ∀ (H1 : Heap) (locs1 : List Loc) (ls1 : Array Slot), lInv D Y Af s.heap yl yd o1 o2 b r (n + 1) H1 locs1 → lv_has ls1 9 (lLs bs b r o1 o2 i) → W p l e R s m args below meth c H1 locs1 (cells + 8) (slots + 6000) Q (F0 m 3541 ls1 [])) : W p l e R s m args below meth c H locs cells slots Q (F0 m 3052 ls []) := by
  obtain ⟨hF, hNc, hA1, hA2, hfl, hX, hbl, hbA, hL, hR⟩ := C
  obtain ⟨Sc, Sr, dq, cap, A, v1, v2, hJ, hc, hq⟩ := I
  have hx := hF.1
  have hb := hF.2.1
  have g5 : lRm5 rm_X5_hasNumber := ⟨(Nat.le_of_ble_eq_true rfl), (Nat.le_of_ble_eq_true rfl), (Nat.le_of_ble_eq_true rfl), (Nat.le_of_ble_eq_true rfl)⟩
  obtain ⟨rm, k, c1, Sc', hs', hrm, hMet, hOK⟩ := lz_hasNumber (D := D) (Y := Y) (yl := yl) (o := o1) (c0 := v1) hfl hc hq hn (xs (i + 1)) (xs (i + 2))
  refine g_aload_n hx hb dL_law_3052 rfl (lv_at hls 1 rfl) ?_
  refine l_arg (jj := 1) hx hb hX hbl hbA hJ.1.2.2.2.1 (lv_at hls 0 rfl) (lv_at hls 5 rfl) (by omega) hL dL_law_3053 dL_law_3054 dL_law_3056 (by decide) dL_law_3057 dL_law_3058 ?_
  refine l_arg (jj := 2) hx hb hX hbl hbA hJ.1.2.2.2.1 (lv_at hls 0 rfl) (lv_at hls 5 rfl) (by omega) hL dL_law_3059 dL_law_3060 dL_law_3062 (by decide) dL_law_3063 dL_law_3064 ?_
  refine g_aload_n hx hb dL_law_3065 rfl (lv_at hls 3 rfl) ?_
  refine l_callW (rest := []) hF hNc hA1 hJ hq.fre hMet kL_hasNumber u987 u988 rfl hls.1 rfl (Nat.le_of_ble_eq_true rfl) dL_law_3066 (hrm.fit hR (Nat.le_of_ble_eq_true rfl)) (hrm.fit2 hf) (fun H1 locs1 z1 z2 J1 => ?_)
  obtain ⟨v, Sr', hs3, dq', cap', A', h5, hle, hk, hOk, hc', hq'⟩ := hOK H1.size z1
  refine lv_istore (i := 6) (lv' := (6, .int k) :: lLs bs b r o1 o2 i) hx hb dL_law_3069 hls (by decide) rfl (fun ls1 hl1 => ?_)
  refine g_aload_n hx hb dL_law_3071 rfl (lv_at hl1 3 rfl) ?_
  refine l_arg (jj := 1) hx hb hX hbl hbA J1.1.2.2.2.1 (lv_at hl1 1 rfl) (lv_at hl1 6 rfl) (by omega) hL dL_law_3072 dL_law_3073 dL_law_3075 (by decide) dL_law_3076 dL_law_3077 ?_
  refine l_arg (jj := 2) hx hb hX hbl hbA J1.1.2.2.2.1 (lv_at hl1 1 rfl) (lv_at hl1 6 rfl) (by omega) hL dL_law_3078 dL_law_3079 dL_law_3081 (by decide) dL_law_3082 dL_law_3083 ?_
  obtain ⟨h6, rfl⟩ := rL_of h5
  refine l_callR (As := [.int (xs (i + 1)), .int (xs (i + 2))]) (rest := []) hF J1 hc'.fre (c_X5_hasNumber h6) k_X5_hasNumber u1496 u1497 u1498 rfl rfl hq.tag rfl hl1.1 rfl (Nat.le_of_ble_eq_true rfl) dL_law_3084 (g5.fit hR (Nat.le_of_ble_eq_true rfl)) (lRm5.fit2 hrm g5 hf) (fun H2 locs2 z3 z4 J2 => ?_)
  refine lv_istore (i := 7) (lv' := (7, .int v) :: (6, .int k) :: lLs bs b r o1 o2 i) hx hb dL_law_3087 hl1 (by decide) rfl (fun ls2 hl2 => ?_)
  refine l_thr hF J2 (hc'.mono z4).fre hq'.tag hk (lv_at hl2 4 rfl) (lv_at hl2 1 rfl) hl2.1 u1132 u1133 u1134 hR (lRm5.fit2 hrm g5 hf) dL_law_3089 dL_law_3090 dL_law_3093 dL_law_3095 (fun H3 locs3 z5 J3 => ?_)
  refine l_cmpZ hF hA1 J3 (lv_at hl2 5 rfl) (lv_at hl2 1 rfl) (lv_at hl2 0 rfl) hOk dL_law_3100 dL_law_3102 dL_law_3105 dL_law_3106 dL_law_3107 dL_law_3108 dL_law_3110 dL_law_3113 dL_law_3114 dL_law_3117 dL_law_3118 dL_law_3119 dL_law_3124 (by decide) ?_
  refine W.widen (lRm5.fit3 (slots := slots) hrm g5).1 (lRm5.fit3 (cells := cells) hrm g5).2 (kk H3 locs3 ls2 ⟨Sc', Sr', dq', cap', A', c1, v2, J3, ?_, ?_⟩ (lv_sub hl2 [2, 3, 4, 5, 6, 7] rfl))
  · exact hc'.mono (by omega)
  · exact hq'.mono (by omega)
theorem lz_thingOf {l : Launch} {D : va_G} {Y : Nat → ClassId} {Sc Sr : GS} {hs : Nat} {yl : ClassId} {o : Nat} {c0 : Value} {b r n cap : Nat} {dq : Nat → Nat} {A : AS} (hfl : l.stackTraces = false) (hc : Rc b n Sc hs A) (hq : Rq r dq cap Sr hs A) (hn : n ≤ 511) (x1 x2 : Int32) : lZ l yL_thingOf (lWs yL_thingOf cL_thingOf 5 [(0, 10, 13, 13), (0, 10, 17, 15), (0, 10, 21, 17)]) [va_rf (some b), .int x1, .int x2, va_rf (some o)] D Y Sc hs .long yl o c0 b r (n + 1) (fun c v => c = .long v.toInt64) (fun hs2 => rL hs2 (f_X5_thingOf Sr r x1 x2)) := by
  obtain ⟨hw, hp, pa, ch, hr⟩ := id hc
  exact lZ_ask (lx := [1, 2, 4]) (rm1 := rmL_thingOf) (rm2 := rmLx_thingOf) (g := fun v => .long v.toInt64) hc hq hn ⟨by decide, by decide⟩ ⟨(Nat.le_of_ble_eq_true rfl), (Nat.le_of_ble_eq_true rfl), (Nat.le_of_ble_eq_true rfl), (Nat.le_of_ble_eq_true rfl)⟩ ⟨(Nat.le_of_ble_eq_true rfl), (Nat.le_of_ble_eq_true rfl), (Nat.le_of_ble_eq_true rfl), (Nat.le_of_ble_eq_true rfl)⟩ (c_thingOf hr hw x1 x2) (r_thingOf hq hw x1 x2) (hz_same (V := Int32) (g := fun v => .long v.toInt64) (Ok := fun c v => c = .long v.toInt64) fun v _ => rfl) (fun v e => cL_thingOf_r e hc.tag) (fun x i e hi => cL_thingOf_x hfl e hc.tag hi)
set_option maxHeartbeats 4000000 in
set_option maxRecDepth 100000 in
theorem lc_thingOf {p : Program} {l : Launch} {e : Env} {R : Room} {s : State} {m : MethodId} {args : Array Value} {below : List Frame} {meth : Method} {c : Code} {H : Heap} {locs : List Loc} {cells slots : Nat} {Q : State → Prop} {ls : Array Slot} {D : va_G} {Y : Nat → ClassId} {Af : Nat → Prop} {rt : Option FieldType} {yl yd : ClassId} {o1 o2 b r n bs L i : Nat} {xs : Nat → Int32} (C : lCx p l s m args meth c rt D Y Af R yl yd bs L xs) (I : lInv D Y Af s.heap yl yd o1 o2 b r n H locs) (hn : n ≤ 511) (hi : i + 5 ≤ L) (hls : lv_has ls 9 (lLs bs b r o1 o2 i)) (hf : cells + 8 ≤ R.cells ∧ slots + 6000 ≤ R.slots)
    (kk : ∀ (H1 : Heap) (locs1 : List Loc) (ls1 : Array Slot), lInv D Y Af s.heap yl yd o1 o2 b r (n + 1) H1 locs1 → lv_has ls1 9 (lLs bs b r o1 o2 i) → W p l e R s m args below meth c H1 locs1 (cells + 8) (slots + 6000) Q (F0 m 3541 ls1 [])) : W p l e R s m args below meth c H locs cells slots Q (F0 m 3127 ls []) := by
  obtain ⟨hF, hNc, hA1, hA2, hfl, hX, hbl, hbA, hL, hR⟩ := C
  obtain ⟨Sc, Sr, dq, cap, A, v1, v2, hJ, hc, hq⟩ := I
  have hx := hF.1
  have hb := hF.2.1
  have g5 : lRm5 rm_X5_thingOf := ⟨(Nat.le_of_ble_eq_true rfl), (Nat.le_of_ble_eq_true rfl), (Nat.le_of_ble_eq_true rfl), (Nat.le_of_ble_eq_true rfl)⟩
  obtain ⟨rm, k, c1, Sc', hs', hrm, hMet, hOK⟩ := lz_thingOf (D := D) (Y := Y) (yl := yl) (o := o1) (c0 := v1) hfl hc hq hn (xs (i + 1)) (xs (i + 2))
  refine g_aload_n hx hb dL_law_3127 rfl (lv_at hls 1 rfl) ?_
  refine l_arg (jj := 1) hx hb hX hbl hbA hJ.1.2.2.2.1 (lv_at hls 0 rfl) (lv_at hls 5 rfl) (by omega) hL dL_law_3128 dL_law_3129 dL_law_3131 (by decide) dL_law_3132 dL_law_3133 ?_
  refine l_arg (jj := 2) hx hb hX hbl hbA hJ.1.2.2.2.1 (lv_at hls 0 rfl) (lv_at hls 5 rfl) (by omega) hL dL_law_3134 dL_law_3135 dL_law_3137 (by decide) dL_law_3138 dL_law_3139 ?_
  refine g_aload_n hx hb dL_law_3140 rfl (lv_at hls 3 rfl) ?_
  refine l_callW (rest := []) hF hNc hA1 hJ hq.fre hMet kL_thingOf u995 u996 rfl hls.1 rfl (Nat.le_of_ble_eq_true rfl) dL_law_3141 (hrm.fit hR (Nat.le_of_ble_eq_true rfl)) (hrm.fit2 hf) (fun H1 locs1 z1 z2 J1 => ?_)
  obtain ⟨v, Sr', hs3, dq', cap', A', h5, hle, hk, hOk, hc', hq'⟩ := hOK H1.size z1
  refine lv_istore (i := 6) (lv' := (6, .int k) :: lLs bs b r o1 o2 i) hx hb dL_law_3144 hls (by decide) rfl (fun ls1 hl1 => ?_)
  refine g_aload_n hx hb dL_law_3146 rfl (lv_at hl1 3 rfl) ?_
  refine l_arg (jj := 1) hx hb hX hbl hbA J1.1.2.2.2.1 (lv_at hl1 1 rfl) (lv_at hl1 6 rfl) (by omega) hL dL_law_3147 dL_law_3148 dL_law_3150 (by decide) dL_law_3151 dL_law_3152 ?_
  refine l_arg (jj := 2) hx hb hX hbl hbA J1.1.2.2.2.1 (lv_at hl1 1 rfl) (lv_at hl1 6 rfl) (by omega) hL dL_law_3153 dL_law_3154 dL_law_3156 (by decide) dL_law_3157 dL_law_3158 ?_
  obtain ⟨h6, rfl⟩ := rL_of h5
  refine l_callR (As := [.int (xs (i + 1)), .int (xs (i + 2))]) (rest := []) hF J1 hc'.fre (c_X5_thingOf h6) k_X5_thingOf u1500 u1501 u1502 rfl rfl hq.tag rfl hl1.1 rfl (Nat.le_of_ble_eq_true rfl) dL_law_3159 (g5.fit hR (Nat.le_of_ble_eq_true rfl)) (lRm5.fit2 hrm g5 hf) (fun H2 locs2 z3 z4 J2 => ?_)
  refine lv_istore (i := 7) (lv' := (7, .int v) :: (6, .int k) :: lLs bs b r o1 o2 i) hx hb dL_law_3162 hl1 (by decide) rfl (fun ls2 hl2 => ?_)
  refine l_thr hF J2 (hc'.mono z4).fre hq'.tag hk (lv_at hl2 4 rfl) (lv_at hl2 1 rfl) hl2.1 u1132 u1133 u1134 hR (lRm5.fit2 hrm g5 hf) dL_law_3164 dL_law_3165 dL_law_3168 dL_law_3170 (fun H3 locs3 z5 J3 => ?_)
  refine l_cmpI hF hA1 J3 (lv_at hl2 5 rfl) (lv_at hl2 1 rfl) (lv_at hl2 0 rfl) hOk dL_law_3175 dL_law_3177 dL_law_3180 dL_law_3181 dL_law_3182 dL_law_3183 dL_law_3185 dL_law_3186 dL_law_3187 dL_law_3192 (by decide) ?_
  refine W.widen (lRm5.fit3 (slots := slots) hrm g5).1 (lRm5.fit3 (cells := cells) hrm g5).2 (kk H3 locs3 ls2 ⟨Sc', Sr', dq', cap', A', c1, v2, J3, ?_, ?_⟩ (lv_sub hl2 [2, 3, 4, 5, 6, 7] rfl))
  · exact hc'.mono (by omega)
  · exact hq'.mono (by omega)
theorem lz_numberAt {l : Launch} {D : va_G} {Y : Nat → ClassId} {Sc Sr : GS} {hs : Nat} {yl : ClassId} {o : Nat} {c0 : Value} {b r n cap : Nat} {dq : Nat → Nat} {A : AS} (hfl : l.stackTraces = false) (hc : Rc b n Sc hs A) (hq : Rq r dq cap Sr hs A) (hn : n ≤ 511) (x1 x2 : Int32) : lZ l yL_numberAt (lWs yL_numberAt cL_numberAt 5 [(0, 10, 13, 13), (0, 10, 17, 15), (0, 10, 21, 17)]) [va_rf (some b), .int x1, .int x2, va_rf (some o)] D Y Sc hs .long yl o c0 b r (n + 1) (fun c v => c = .long v.toInt64) (fun hs2 => rL hs2 (f_X5_numberAt Sr r x1 x2)) := by
  obtain ⟨hw, hp, pa, ch, hr⟩ := id hc
  exact lZ_ask (lx := [1, 2, 4]) (rm1 := rmL_numberAt) (rm2 := rmLx_numberAt) (g := fun v => .long v.toInt64) hc hq hn ⟨by decide, by decide⟩ ⟨(Nat.le_of_ble_eq_true rfl), (Nat.le_of_ble_eq_true rfl), (Nat.le_of_ble_eq_true rfl), (Nat.le_of_ble_eq_true rfl)⟩ ⟨(Nat.le_of_ble_eq_true rfl), (Nat.le_of_ble_eq_true rfl), (Nat.le_of_ble_eq_true rfl), (Nat.le_of_ble_eq_true rfl)⟩ (c_numberAt hr hw x1 x2) (r_numberAt hq hw x1 x2) (hz_same (V := Int32) (g := fun v => .long v.toInt64) (Ok := fun c v => c = .long v.toInt64) fun v _ => rfl) (fun v e => cL_numberAt_r e hc.tag) (fun x i e hi => cL_numberAt_x hfl e hc.tag hi)
set_option maxHeartbeats 4000000 in
set_option maxRecDepth 100000 in
theorem lc_numberAt {p : Program} {l : Launch} {e : Env} {R : Room} {s : State} {m : MethodId} {args : Array Value} {below : List Frame} {meth : Method} {c : Code} {H : Heap} {locs : List Loc} {cells slots : Nat} {Q : State → Prop} {ls : Array Slot} {D : va_G} {Y : Nat → ClassId} {Af : Nat → Prop} {rt : Option FieldType} {yl yd : ClassId} {o1 o2 b r n bs L i : Nat} {xs : Nat → Int32} (C : lCx p l s m args meth c rt D Y Af R yl yd bs L xs) (I : lInv D Y Af s.heap yl yd o1 o2 b r n H locs) (hn : n ≤ 511) (hi : i + 5 ≤ L) (hls : lv_has ls 9 (lLs bs b r o1 o2 i)) (hf : cells + 8 ≤ R.cells ∧ slots + 6000 ≤ R.slots)
    (kk : ∀ (H1 : Heap) (locs1 : List Loc) (ls1 : Array Slot), lInv D Y Af s.heap yl yd o1 o2 b r (n + 1) H1 locs1 → lv_has ls1 9 (lLs bs b r o1 o2 i) → W p l e R s m args below meth c H1 locs1 (cells + 8) (slots + 6000) Q (F0 m 3541 ls1 [])) : W p l e R s m args below meth c H locs cells slots Q (F0 m 3195 ls []) := by
  obtain ⟨hF, hNc, hA1, hA2, hfl, hX, hbl, hbA, hL, hR⟩ := C
  obtain ⟨Sc, Sr, dq, cap, A, v1, v2, hJ, hc, hq⟩ := I
  have hx := hF.1
  have hb := hF.2.1
  have g5 : lRm5 rm_X5_numberAt := ⟨(Nat.le_of_ble_eq_true rfl), (Nat.le_of_ble_eq_true rfl), (Nat.le_of_ble_eq_true rfl), (Nat.le_of_ble_eq_true rfl)⟩
  obtain ⟨rm, k, c1, Sc', hs', hrm, hMet, hOK⟩ := lz_numberAt (D := D) (Y := Y) (yl := yl) (o := o1) (c0 := v1) hfl hc hq hn (xs (i + 1)) (xs (i + 2))
  refine g_aload_n hx hb dL_law_3195 rfl (lv_at hls 1 rfl) ?_
  refine l_arg (jj := 1) hx hb hX hbl hbA hJ.1.2.2.2.1 (lv_at hls 0 rfl) (lv_at hls 5 rfl) (by omega) hL dL_law_3196 dL_law_3197 dL_law_3199 (by decide) dL_law_3200 dL_law_3201 ?_
  refine l_arg (jj := 2) hx hb hX hbl hbA hJ.1.2.2.2.1 (lv_at hls 0 rfl) (lv_at hls 5 rfl) (by omega) hL dL_law_3202 dL_law_3203 dL_law_3205 (by decide) dL_law_3206 dL_law_3207 ?_
  refine g_aload_n hx hb dL_law_3208 rfl (lv_at hls 3 rfl) ?_
  refine l_callW (rest := []) hF hNc hA1 hJ hq.fre hMet kL_numberAt u1002 u1003 rfl hls.1 rfl (Nat.le_of_ble_eq_true rfl) dL_law_3209 (hrm.fit hR (Nat.le_of_ble_eq_true rfl)) (hrm.fit2 hf) (fun H1 locs1 z1 z2 J1 => ?_)
  obtain ⟨v, Sr', hs3, dq', cap', A', h5, hle, hk, hOk, hc', hq'⟩ := hOK H1.size z1
  refine lv_istore (i := 6) (lv' := (6, .int k) :: lLs bs b r o1 o2 i) hx hb dL_law_3212 hls (by decide) rfl (fun ls1 hl1 => ?_)
  refine g_aload_n hx hb dL_law_3214 rfl (lv_at hl1 3 rfl) ?_
  refine l_arg (jj := 1) hx hb hX hbl hbA J1.1.2.2.2.1 (lv_at hl1 1 rfl) (lv_at hl1 6 rfl) (by omega) hL dL_law_3215 dL_law_3216 dL_law_3218 (by decide) dL_law_3219 dL_law_3220 ?_
  refine l_arg (jj := 2) hx hb hX hbl hbA J1.1.2.2.2.1 (lv_at hl1 1 rfl) (lv_at hl1 6 rfl) (by omega) hL dL_law_3221 dL_law_3222 dL_law_3224 (by decide) dL_law_3225 dL_law_3226 ?_
  obtain ⟨h6, rfl⟩ := rL_of h5
  refine l_callR (As := [.int (xs (i + 1)), .int (xs (i + 2))]) (rest := []) hF J1 hc'.fre (c_X5_numberAt h6) k_X5_numberAt u1504 u1505 u1506 rfl rfl hq.tag rfl hl1.1 rfl (Nat.le_of_ble_eq_true rfl) dL_law_3227 (g5.fit hR (Nat.le_of_ble_eq_true rfl)) (lRm5.fit2 hrm g5 hf) (fun H2 locs2 z3 z4 J2 => ?_)
  refine lv_istore (i := 7) (lv' := (7, .int v) :: (6, .int k) :: lLs bs b r o1 o2 i) hx hb dL_law_3230 hl1 (by decide) rfl (fun ls2 hl2 => ?_)
  refine l_thr hF J2 (hc'.mono z4).fre hq'.tag hk (lv_at hl2 4 rfl) (lv_at hl2 1 rfl) hl2.1 u1132 u1133 u1134 hR (lRm5.fit2 hrm g5 hf) dL_law_3232 dL_law_3233 dL_law_3236 dL_law_3238 (fun H3 locs3 z5 J3 => ?_)
  refine l_cmpI hF hA1 J3 (lv_at hl2 5 rfl) (lv_at hl2 1 rfl) (lv_at hl2 0 rfl) hOk dL_law_3243 dL_law_3245 dL_law_3248 dL_law_3249 dL_law_3250 dL_law_3251 dL_law_3253 dL_law_3254 dL_law_3255 dL_law_3260 (by decide) ?_
  refine W.widen (lRm5.fit3 (slots := slots) hrm g5).1 (lRm5.fit3 (cells := cells) hrm g5).2 (kk H3 locs3 ls2 ⟨Sc', Sr', dq', cap', A', c1, v2, J3, ?_, ?_⟩ (lv_sub hl2 [2, 3, 4, 5, 6, 7] rfl))
  · exact hc'.mono (by omega)
  · exact hq'.mono (by omega)
theorem lz_keepKeys {l : Launch} {D : va_G} {Y : Nat → ClassId} {Sc Sr : GS} {hs : Nat} {yl : ClassId} {o : Nat} {c0 : Value} {b r n cap : Nat} {dq : Nat → Nat} {A : AS} (hfl : l.stackTraces = false) (hc : Rc b n Sc hs A) (hq : Rq r dq cap Sr hs A) (hn : n ≤ 511) (x1 x2 x3 : Int32) : lZ l yL_keepKeys (lWs yL_keepKeys cL_keepKeys 6 [(0, 12, 15, 13), (0, 12, 19, 15), (0, 12, 23, 71)]) [va_rf (some b), .int x1, .int x2, .int x3, va_rf (some o)] D Y Sc hs .long yl o c0 b r (n + 1) (fun c v => c = .long v.toInt64) (fun hs2 => f_X5_keepKeys Sr hs2 r x1 x2 x3) := by
  exact lZ_chg (lx := [1, 2, 3]) (rm1 := rmL_keepKeys) (rm2 := rmLx_keepKeys) (g := fun v => .long v.toInt64) hc hn ⟨by decide, by decide⟩ ⟨(Nat.le_of_ble_eq_true rfl), (Nat.le_of_ble_eq_true rfl), (Nat.le_of_ble_eq_true rfl), (Nat.le_of_ble_eq_true rfl)⟩ ⟨(Nat.le_of_ble_eq_true rfl), (Nat.le_of_ble_eq_true rfl), (Nat.le_of_ble_eq_true rfl), (Nat.le_of_ble_eq_true rfl)⟩ (c_keepKeys hc (by omega) x1 x2 x3) (fun hs2 h2 => r_keepKeys (hq.mono h2) hc.1 (by have := hc.2.1; omega) x1 x2 x3) (fun v => rfl) (fun v S' e => cL_keepKeys_r e hc.tag) (fun x i e hi => cL_keepKeys_x hfl e hc.tag hi)
set_option maxHeartbeats 4000000 in
set_option maxRecDepth 100000 in
theorem lc_keepKeys {p : Program} {l : Launch} {e : Env} {R : Room} {s : State} {m : MethodId} {args : Array Value} {below : List Frame} {meth : Method} {c : Code} {H : Heap} {locs : List Loc} {cells slots : Nat} {Q : State → Prop} {ls : Array Slot} {D : va_G} {Y : Nat → ClassId} {Af : Nat → Prop} {rt : Option FieldType} {yl yd : ClassId} {o1 o2 b r n bs L i : Nat} {xs : Nat → Int32} (C : lCx p l s m args meth c rt D Y Af R yl yd bs L xs) (I : lInv D Y Af s.heap yl yd o1 o2 b r n H locs) (hn : n ≤ 511) (hi : i + 5 ≤ L) (hls : lv_has ls 9 (lLs bs b r o1 o2 i)) (hf : cells + 8 ≤ R.cells ∧ slots + 6000 ≤ R.slots)
    (kk : ∀ (H1 : Heap) (locs1 : List Loc) (ls1 : Array Slot), lInv D Y Af s.heap yl yd o1 o2 b r (n + 1) H1 locs1 → lv_has ls1 9 (lLs bs b r o1 o2 i) → W p l e R s m args below meth c H1 locs1 (cells + 8) (slots + 6000) Q (F0 m 3541 ls1 [])) : W p l e R s m args below meth c H locs cells slots Q (F0 m 3263 ls []) := by
  obtain ⟨hF, hNc, hA1, hA2, hfl, hX, hbl, hbA, hL, hR⟩ := C
  obtain ⟨Sc, Sr, dq, cap, A, v1, v2, hJ, hc, hq⟩ := I
  have hx := hF.1
  have hb := hF.2.1
  have g5 : lRm5 rm_X5_keepKeys := ⟨(Nat.le_of_ble_eq_true rfl), (Nat.le_of_ble_eq_true rfl), (Nat.le_of_ble_eq_true rfl), (Nat.le_of_ble_eq_true rfl)⟩
  obtain ⟨rm, k, c1, Sc', hs', hrm, hMet, hOK⟩ := lz_keepKeys (D := D) (Y := Y) (yl := yl) (o := o1) (c0 := v1) hfl hc hq hn (xs (i + 1)) (xs (i + 2)) (bz (xs (i + 3)))
  refine g_aload_n hx hb dL_law_3263 rfl (lv_at hls 1 rfl) ?_
  refine l_arg (jj := 1) hx hb hX hbl hbA hJ.1.2.2.2.1 (lv_at hls 0 rfl) (lv_at hls 5 rfl) (by omega) hL dL_law_3264 dL_law_3265 dL_law_3267 (by decide) dL_law_3268 dL_law_3269 ?_
  refine l_arg (jj := 2) hx hb hX hbl hbA hJ.1.2.2.2.1 (lv_at hls 0 rfl) (lv_at hls 5 rfl) (by omega) hL dL_law_3270 dL_law_3271 dL_law_3273 (by decide) dL_law_3274 dL_law_3275 ?_
  refine l_arg (jj := 3) hx hb hX hbl hbA hJ.1.2.2.2.1 (lv_at hls 0 rfl) (lv_at hls 5 rfl) (by omega) hL dL_law_3276 dL_law_3277 dL_law_3279 (by decide) dL_law_3280 dL_law_3281 ?_
  refine l_bool hx hb dL_law_3282 dL_law_3285 dL_law_3286 dL_law_3289 ?_
  refine g_aload_n hx hb dL_law_3290 rfl (lv_at hls 3 rfl) ?_
  refine l_callW (rest := []) hF hNc hA1 hJ hq.fre hMet kL_keepKeys u1009 u1010 rfl hls.1 rfl (Nat.le_of_ble_eq_true rfl) dL_law_3291 (hrm.fit hR (Nat.le_of_ble_eq_true rfl)) (hrm.fit2 hf) (fun H1 locs1 z1 z2 J1 => ?_)
  obtain ⟨v, Sr', hs3, dq', cap', A', h5, hle, hk, hOk, hc', hq'⟩ := hOK H1.size z1
  refine lv_istore (i := 6) (lv' := (6, .int k) :: lLs bs b r o1 o2 i) hx hb dL_law_3294 hls (by decide) rfl (fun ls1 hl1 => ?_)
  refine g_aload_n hx hb dL_law_3296 rfl (lv_at hl1 3 rfl) ?_
  refine l_arg (jj := 1) hx hb hX hbl hbA J1.1.2.2.2.1 (lv_at hl1 1 rfl) (lv_at hl1 6 rfl) (by omega) hL dL_law_3297 dL_law_3298 dL_law_3300 (by decide) dL_law_3301 dL_law_3302 ?_
  refine l_arg (jj := 2) hx hb hX hbl hbA J1.1.2.2.2.1 (lv_at hl1 1 rfl) (lv_at hl1 6 rfl) (by omega) hL dL_law_3303 dL_law_3304 dL_law_3306 (by decide) dL_law_3307 dL_law_3308 ?_
  refine l_arg (jj := 3) hx hb hX hbl hbA J1.1.2.2.2.1 (lv_at hl1 1 rfl) (lv_at hl1 6 rfl) (by omega) hL dL_law_3309 dL_law_3310 dL_law_3312 (by decide) dL_law_3313 dL_law_3314 ?_
  refine l_bool hx hb dL_law_3315 dL_law_3318 dL_law_3319 dL_law_3322 ?_
  have h5 : f_X5_keepKeys Sr H1.size r (xs (i + 1)) (xs (i + 2)) (bz (xs (i + 3))) = some (v, Sr', hs3) := h5
  refine l_callR (As := [.int (xs (i + 1)), .int (xs (i + 2)), .int (bz (xs (i + 3)))]) (rest := []) hF J1 hc'.fre (c_X5_keepKeys h5) k_X5_keepKeys u1508 u1509 u1510 rfl rfl hq.tag rfl hl1.1 rfl (Nat.le_of_ble_eq_true rfl) dL_law_3323 (g5.fit hR (Nat.le_of_ble_eq_true rfl)) (lRm5.fit2 hrm g5 hf) (fun H2 locs2 z3 z4 J2 => ?_)
  refine lv_istore (i := 7) (lv' := (7, .int v) :: (6, .int k) :: lLs bs b r o1 o2 i) hx hb dL_law_3326 hl1 (by decide) rfl (fun ls2 hl2 => ?_)
  refine l_thr hF J2 (hc'.mono z4).fre hq'.tag hk (lv_at hl2 4 rfl) (lv_at hl2 1 rfl) hl2.1 u1132 u1133 u1134 hR (lRm5.fit2 hrm g5 hf) dL_law_3328 dL_law_3329 dL_law_3332 dL_law_3334 (fun H3 locs3 z5 J3 => ?_)
  refine l_cmpI hF hA1 J3 (lv_at hl2 5 rfl) (lv_at hl2 1 rfl) (lv_at hl2 0 rfl) hOk dL_law_3339 dL_law_3341 dL_law_3344 dL_law_3345 dL_law_3346 dL_law_3347 dL_law_3349 dL_law_3350 dL_law_3351 dL_law_3356 (by decide) ?_
  refine W.widen (lRm5.fit3 (slots := slots) hrm g5).1 (lRm5.fit3 (cells := cells) hrm g5).2 (kk H3 locs3 ls2 ⟨Sc', Sr', dq', cap', A', c1, v2, J3, ?_, ?_⟩ (lv_sub hl2 [2, 3, 4, 5, 6, 7] rfl))
  · exact hc'.mono (by omega)
  · exact hq'.mono (by omega)
theorem lz_share {l : Launch} {D : va_G} {Y : Nat → ClassId} {Sc Sr : GS} {hs : Nat} {yl : ClassId} {o : Nat} {c0 : Value} {b r n cap : Nat} {dq : Nat → Nat} {A : AS} (hfl : l.stackTraces = false) (hc : Rc b n Sc hs A) (hq : Rq r dq cap Sr hs A) (hn : n ≤ 511) (x1 : Int32) : lZ l yL_share (lWs yL_share cL_share 4 [(0, 9, 12, 13), (0, 9, 15, 15), (0, 9, 18, 159)]) [va_rf (some b), .int x1, va_rf (some o)] D Y Sc hs .double yl o c0 b r (n + 1) (fun c v => c = .double (FP.f2d v) ∧ vf_n64 (FP.f2d v) ∧ FP.dcmp (FP.f2d v) (FP.f2d v) = some .eq) (fun hs2 => rL hs2 (f_X5_share Sr r x1)) := by
  obtain ⟨hw, hp, pa, ch, hr⟩ := id hc
  exact lZ_ask (lx := [1, 2, 6]) (rm1 := rmL_share) (rm2 := rmLx_share) (g := fun v => .double (FP.f2d v)) hc hq hn ⟨by decide, by decide⟩ ⟨(Nat.le_of_ble_eq_true rfl), (Nat.le_of_ble_eq_true rfl), (Nat.le_of_ble_eq_true rfl), (Nat.le_of_ble_eq_true rfl)⟩ ⟨(Nat.le_of_ble_eq_true rfl), (Nat.le_of_ble_eq_true rfl), (Nat.le_of_ble_eq_true rfl), (Nat.le_of_ble_eq_true rfl)⟩ (c_share hr hw x1) (r_share hq hw x1) (hz_same (V := UInt32) (g := fun v => .double (FP.f2d v)) (Ok := fun c v => c = .double (FP.f2d v) ∧ vf_n64 (FP.f2d v) ∧ FP.dcmp (FP.f2d v) (FP.f2d v) = some .eq) fun v ev => ⟨rfl, gn64_of (gn_f2d (nn_share hr hw ev)), cmp_selfD (gn_f2d (nn_share hr hw ev))⟩) (fun v e => cL_share_r e hc.tag (gn64_of (gn_f2d (nn_share hr hw (Option.some.inj ((c_share hr hw x1).symm.trans e)))))) (fun x i e hi => cL_share_x hfl e hc.tag hi)
set_option maxHeartbeats 4000000 in
set_option maxRecDepth 100000 in
theorem lc_share {p : Program} {l : Launch} {e : Env} {R : Room} {s : State} {m : MethodId} {args : Array Value} {below : List Frame} {meth : Method} {c : Code} {H : Heap} {locs : List Loc} {cells slots : Nat} {Q : State → Prop} {ls : Array Slot} {D : va_G} {Y : Nat → ClassId} {Af : Nat → Prop} {rt : Option FieldType} {yl yd : ClassId} {o1 o2 b r n bs L i : Nat} {xs : Nat → Int32} (C : lCx p l s m args meth c rt D Y Af R yl yd bs L xs) (I : lInv D Y Af s.heap yl yd o1 o2 b r n H locs) (hn : n ≤ 511) (hi : i + 5 ≤ L) (hls : lv_has ls 9 (lLs bs b r o1 o2 i)) (hf : cells + 8 ≤ R.cells ∧ slots + 6000 ≤ R.slots)
    (kk : ∀ (H1 : Heap) (locs1 : List Loc) (ls1 : Array Slot), lInv D Y Af s.heap yl yd o1 o2 b r (n + 1) H1 locs1 → lv_has ls1 9 (lLs bs b r o1 o2 i) → W p l e R s m args below meth c H1 locs1 (cells + 8) (slots + 6000) Q (F0 m 3541 ls1 [])) : W p l e R s m args below meth c H locs cells slots Q (F0 m 3359 ls []) := by
  obtain ⟨hF, hNc, hA1, hA2, hfl, hX, hbl, hbA, hL, hR⟩ := C
  obtain ⟨Sc, Sr, dq, cap, A, v1, v2, hJ, hc, hq⟩ := I
  have hx := hF.1
  have hb := hF.2.1
  have g5 : lRm5 rm_X5_share := ⟨(Nat.le_of_ble_eq_true rfl), (Nat.le_of_ble_eq_true rfl), (Nat.le_of_ble_eq_true rfl), (Nat.le_of_ble_eq_true rfl)⟩
  obtain ⟨rm, k, c1, Sc', hs', hrm, hMet, hOK⟩ := lz_share (D := D) (Y := Y) (yl := yd) (o := o2) (c0 := v2) hfl hc hq hn (xs (i + 1))
  refine g_aload_n hx hb dL_law_3359 rfl (lv_at hls 1 rfl) ?_
  refine l_arg (jj := 1) hx hb hX hbl hbA hJ.1.2.2.2.1 (lv_at hls 0 rfl) (lv_at hls 5 rfl) (by omega) hL dL_law_3360 dL_law_3361 dL_law_3363 (by decide) dL_law_3364 dL_law_3365 ?_
  refine g_aload hx hb dL_law_3366 (lv_at hls 4 rfl) ?_
  refine l_callW (rest := []) hF hNc hA2 hJ.swapO hq.fre hMet kL_share u1020 u1021 rfl hls.1 rfl (Nat.le_of_ble_eq_true rfl) dL_law_3368 (hrm.fit hR (Nat.le_of_ble_eq_true rfl)) (hrm.fit2 hf) (fun H1 locs1 z1 z2 J1 => ?_)
  have J1 := J1.swapO
  obtain ⟨v, Sr', hs3, dq', cap', A', h5, hle, hk, hOk, hc', hq'⟩ := hOK H1.size z1
  refine lv_istore (i := 6) (lv' := (6, .int k) :: lLs bs b r o1 o2 i) hx hb dL_law_3371 hls (by decide) rfl (fun ls1 hl1 => ?_)
  refine g_aload_n hx hb dL_law_3373 rfl (lv_at hl1 3 rfl) ?_
  refine l_arg (jj := 1) hx hb hX hbl hbA J1.1.2.2.2.1 (lv_at hl1 1 rfl) (lv_at hl1 6 rfl) (by omega) hL dL_law_3374 dL_law_3375 dL_law_3377 (by decide) dL_law_3378 dL_law_3379 ?_
  obtain ⟨h6, rfl⟩ := rL_of h5
  refine l_callR (As := [.int (xs (i + 1))]) (rest := []) hF J1 hc'.fre (c_X5_share h6) k_X5_share u1554 u1555 u1556 rfl rfl hq.tag rfl hl1.1 rfl (Nat.le_of_ble_eq_true rfl) dL_law_3380 (g5.fit hR (Nat.le_of_ble_eq_true rfl)) (lRm5.fit2 hrm g5 hf) (fun H2 locs2 z3 z4 J2 => ?_)
  refine lv_fstore (i := 7) (lv' := (7, .float v) :: (6, .int k) :: lLs bs b r o1 o2 i) hx hb dL_law_3383 hl1 (by decide) rfl (fun ls2 hl2 => ?_)
  refine l_thr hF J2 (hc'.mono z4).fre hq'.tag hk (lv_at hl2 4 rfl) (lv_at hl2 1 rfl) hl2.1 u1132 u1133 u1134 hR (lRm5.fit2 hrm g5 hf) dL_law_3385 dL_law_3386 dL_law_3389 dL_law_3391 (fun H3 locs3 z5 J3 => ?_)
  refine l_cmpF hF hA2 J3 (lv_at hl2 6 rfl) (lv_at hl2 1 rfl) (lv_at hl2 0 rfl) hOk dL_law_3396 dL_law_3398 dL_law_3401 dL_law_3403 dL_law_3404 dL_law_3405 dL_law_3407 dL_law_3408 dL_law_3409 dL_law_3434 (by decide) ?_
  refine W.widen (lRm5.fit3 (slots := slots) hrm g5).1 (lRm5.fit3 (cells := cells) hrm g5).2 (kk H3 locs3 ls2 ⟨Sc', Sr', dq', cap', A', v1, c1, J3, ?_, ?_⟩ (lv_sub hl2 [2, 3, 4, 5, 6, 7] rfl))
  · exact hc'.mono (by omega)
  · exact hq'.mono (by omega)
theorem lz_meanKey {l : Launch} {D : va_G} {Y : Nat → ClassId} {Sc Sr : GS} {hs : Nat} {yl : ClassId} {o : Nat} {c0 : Value} {b r n cap : Nat} {dq : Nat → Nat} {A : AS} (hfl : l.stackTraces = false) (hc : Rc b n Sc hs A) (hq : Rq r dq cap Sr hs A) (hn : n ≤ 511) (x1 : Int32) : lZ l yL_meanKey (lWs yL_meanKey cL_meanKey 4 [(0, 8, 11, 13), (0, 8, 14, 15), (0, 8, 17, 159)]) [va_rf (some b), .int x1, va_rf (some o)] D Y Sc hs .double yl o c0 b r (n + 1) (fun c v => c = .double v ∧ FP.dcmp v v = some .eq) (fun hs2 => rL hs2 (f_X5_meanKey Sr r x1)) := by
  obtain ⟨hw, hp, pa, ch, hr⟩ := id hc
  exact lZ_ask (lx := [1, 2, 6]) (rm1 := rmL_meanKey) (rm2 := rmLx_meanKey) (g := fun v => .double v) hc hq hn ⟨by decide, by decide⟩ ⟨(Nat.le_of_ble_eq_true rfl), (Nat.le_of_ble_eq_true rfl), (Nat.le_of_ble_eq_true rfl), (Nat.le_of_ble_eq_true rfl)⟩ ⟨(Nat.le_of_ble_eq_true rfl), (Nat.le_of_ble_eq_true rfl), (Nat.le_of_ble_eq_true rfl), (Nat.le_of_ble_eq_true rfl)⟩ (c_meanKey hr hw x1) (r_meanKey hq hw x1) (hz_same (V := UInt64) (g := fun v => .double v) (Ok := fun c v => c = .double v ∧ FP.dcmp v v = some .eq) fun v ev => ⟨rfl, cmp_selfD (nn_meanKey hr hw ev)⟩) (fun v e => cL_meanKey_r e hc.tag) (fun x i e hi => cL_meanKey_x hfl e hc.tag hi)
set_option maxHeartbeats 4000000 in
set_option maxRecDepth 100000 in
theorem lc_meanKey {p : Program} {l : Launch} {e : Env} {R : Room} {s : State} {m : MethodId} {args : Array Value} {below : List Frame} {meth : Method} {c : Code} {H : Heap} {locs : List Loc} {cells slots : Nat} {Q : State → Prop} {ls : Array Slot} {D : va_G} {Y : Nat → ClassId} {Af : Nat → Prop} {rt : Option FieldType} {yl yd : ClassId} {o1 o2 b r n bs L i : Nat} {xs : Nat → Int32} (C : lCx p l s m args meth c rt D Y Af R yl yd bs L xs) (I : lInv D Y Af s.heap yl yd o1 o2 b r n H locs) (hn : n ≤ 511) (hi : i + 5 ≤ L) (hls : lv_has ls 9 (lLs bs b r o1 o2 i)) (hf : cells + 8 ≤ R.cells ∧ slots + 6000 ≤ R.slots)
    (kk : ∀ (H1 : Heap) (locs1 : List Loc) (ls1 : Array Slot), lInv D Y Af s.heap yl yd o1 o2 b r (n + 1) H1 locs1 → lv_has ls1 9 (lLs bs b r o1 o2 i) → W p l e R s m args below meth c H1 locs1 (cells + 8) (slots + 6000) Q (F0 m 3541 ls1 [])) : W p l e R s m args below meth c H locs cells slots Q (F0 m 3437 ls []) := by
  obtain ⟨hF, hNc, hA1, hA2, hfl, hX, hbl, hbA, hL, hR⟩ := C
  obtain ⟨Sc, Sr, dq, cap, A, v1, v2, hJ, hc, hq⟩ := I
  have hx := hF.1
  have hb := hF.2.1
  have g5 : lRm5 rm_X5_meanKey := ⟨(Nat.le_of_ble_eq_true rfl), (Nat.le_of_ble_eq_true rfl), (Nat.le_of_ble_eq_true rfl), (Nat.le_of_ble_eq_true rfl)⟩
  obtain ⟨rm, k, c1, Sc', hs', hrm, hMet, hOK⟩ := lz_meanKey (D := D) (Y := Y) (yl := yd) (o := o2) (c0 := v2) hfl hc hq hn (xs (i + 1))
  refine g_aload_n hx hb dL_law_3437 rfl (lv_at hls 1 rfl) ?_
  refine l_arg (jj := 1) hx hb hX hbl hbA hJ.1.2.2.2.1 (lv_at hls 0 rfl) (lv_at hls 5 rfl) (by omega) hL dL_law_3438 dL_law_3439 dL_law_3441 (by decide) dL_law_3442 dL_law_3443 ?_
  refine g_aload hx hb dL_law_3444 (lv_at hls 4 rfl) ?_
  refine l_callW (rest := []) hF hNc hA2 hJ.swapO hq.fre hMet kL_meanKey u1046 u1047 rfl hls.1 rfl (Nat.le_of_ble_eq_true rfl) dL_law_3446 (hrm.fit hR (Nat.le_of_ble_eq_true rfl)) (hrm.fit2 hf) (fun H1 locs1 z1 z2 J1 => ?_)
  have J1 := J1.swapO
  obtain ⟨v, Sr', hs3, dq', cap', A', h5, hle, hk, hOk, hc', hq'⟩ := hOK H1.size z1
  refine lv_istore (i := 6) (lv' := (6, .int k) :: lLs bs b r o1 o2 i) hx hb dL_law_3449 hls (by decide) rfl (fun ls1 hl1 => ?_)
  refine g_aload_n hx hb dL_law_3451 rfl (lv_at hl1 3 rfl) ?_
  refine l_arg (jj := 1) hx hb hX hbl hbA J1.1.2.2.2.1 (lv_at hl1 1 rfl) (lv_at hl1 6 rfl) (by omega) hL dL_law_3452 dL_law_3453 dL_law_3455 (by decide) dL_law_3456 dL_law_3457 ?_
  obtain ⟨h6, rfl⟩ := rL_of h5
  refine l_callR (As := [.int (xs (i + 1))]) (rest := []) hF J1 hc'.fre (c_X5_meanKey h6) k_X5_meanKey u1558 u1559 u1560 rfl rfl hq.tag rfl hl1.1 rfl (Nat.le_of_ble_eq_true rfl) dL_law_3458 (g5.fit hR (Nat.le_of_ble_eq_true rfl)) (lRm5.fit2 hrm g5 hf) (fun H2 locs2 z3 z4 J2 => ?_)
  refine lv_dstore (i := 7) (lv' := (7, .double v) :: (6, .int k) :: lLs bs b r o1 o2 i) hx hb dL_law_3461 hl1 (by decide) rfl (fun ls2 hl2 => ?_)
  refine l_thr hF J2 (hc'.mono z4).fre hq'.tag hk (lv_at hl2 4 rfl) (lv_at hl2 1 rfl) hl2.1 u1132 u1133 u1134 hR (lRm5.fit2 hrm g5 hf) dL_law_3463 dL_law_3464 dL_law_3467 dL_law_3469 (fun H3 locs3 z5 J3 => ?_)
  refine l_cmpD hF hA2 J3 (lv_at hl2 6 rfl) (lv_at hl2 1 rfl) (lv_at hl2 0 rfl) hOk dL_law_3474 dL_law_3476 dL_law_3479 dL_law_3481 dL_law_3482 dL_law_3483 dL_law_3485 dL_law_3486 dL_law_3511 (by decide) ?_
  refine W.widen (lRm5.fit3 (slots := slots) hrm g5).1 (lRm5.fit3 (cells := cells) hrm g5).2 (kk H3 locs3 ls2 ⟨Sc', Sr', dq', cap', A', v1, c1, J3, ?_, ?_⟩ (lv_sub hl2 [2, 3, 4, 5, 6, 7] rfl))
  · exact hc'.mono (by omega)
  · exact hq'.mono (by omega)
