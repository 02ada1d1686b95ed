/-! the law's cases: strip, weave, raise, sort, search, turn, swap, rotate, fill, rowIn, often -/
theorem lz_strip {l : Launch} {D : va_G} {Y : Nat → ClassId} {Sc Sr : GS} {hs : Nat} {yl : ClassId} {o : Nat} {c0 : Value} {b r n cap : Nat} {dq : Nat → Nat} {A : AS} (hfl : l.stackTraces = false) (hc : Rc b n Sc hs A) (hq : Rq r dq cap Sr hs A) (hn : n ≤ 511) (x1 x2 : Int32) : lZ l yL_strip (lWs yL_strip cL_strip 5 [(0, 10, 13, 13), (0, 10, 17, 15), (0, 10, 21, 71), (0, 10, 25, 17)]) [va_rf (some b), .int x1, .int x2, va_rf (some o)] D Y Sc hs .long yl o c0 b r (n + 1) (fun c v => c = .long v.toInt64) (fun hs2 => f_X5_strip Sr hs2 r x1 x2) := by
  exact lZ_chg (lx := [1, 2, 3, 4]) (rm1 := rmL_strip) (rm2 := rmLx_strip) (g := fun v => .long v.toInt64) hc hn ⟨by decide, by decide⟩ ⟨(Nat.le_of_ble_eq_true rfl), (Nat.le_of_ble_eq_true rfl), (Nat.le_of_ble_eq_true rfl), (Nat.le_of_ble_eq_true rfl)⟩ ⟨(Nat.le_of_ble_eq_true rfl), (Nat.le_of_ble_eq_true rfl), (Nat.le_of_ble_eq_true rfl), (Nat.le_of_ble_eq_true rfl)⟩ (c_strip hc (by omega) x1 x2) (fun hs2 h2 => r_strip (hq.mono h2) hc.1 (by have := hc.2.1; omega) x1 x2) (fun v => rfl) (fun v S' e => cL_strip_r e hc.tag) (fun x i e hi => cL_strip_x hfl e hc.tag hi)
set_option maxHeartbeats 4000000 in
set_option maxRecDepth 100000 in
theorem lc_strip {p : Program} {l : Launch} {e : Env} {R : Room} {s : State} {m : MethodId} {args : Array Value} {below : List Frame} {meth : Method} {c : Code} {H : Heap} {locs : List Loc} {cells slots : Nat} {Q : State → Prop} {ls : Array Slot} {D : va_G} {Y : Nat → ClassId} {Af : Nat → Prop} {rt : Option FieldType} {yl yd : ClassId} {o1 o2 b r n bs L i : Nat} {xs : Nat → Int32} (C : lCx p l s m args meth c rt D Y Af R yl yd bs L xs) (I : lInv D Y Af s.heap yl yd o1 o2 b r n H locs) (hn : n ≤ 511) (hi : i + 5 ≤ L) (hls : lv_has ls 9 (lLs bs b r o1 o2 i)) (hf : cells + 8 ≤ R.cells ∧ slots + 6000 ≤ R.slots)
    (kk : ∀ (H1 : Heap) (locs1 : List Loc) (ls1 : Array Slot), lInv D Y Af s.heap yl yd o1 o2 b r (n + 1) H1 locs1 → lv_has ls1 9 (lLs bs b r o1 o2 i) → W p l e R s m args below meth c H1 locs1 (cells + 8) (slots + 6000) Q (F0 m 3541 ls1 [])) : W p l e R s m args below meth c H locs cells slots Q (F0 m 1905 ls []) := by
  obtain ⟨hF, hNc, hA1, hA2, hfl, hX, hbl, hbA, hL, hR⟩ := C
  obtain ⟨Sc, Sr, dq, cap, A, v1, v2, hJ, hc, hq⟩ := I
  have hx := hF.1
  have hb := hF.2.1
  have g5 : lRm5 rm_X5_strip := ⟨(Nat.le_of_ble_eq_true rfl), (Nat.le_of_ble_eq_true rfl), (Nat.le_of_ble_eq_true rfl), (Nat.le_of_ble_eq_true rfl)⟩
  obtain ⟨rm, k, c1, Sc', hs', hrm, hMet, hOK⟩ := lz_strip (D := D) (Y := Y) (yl := yl) (o := o1) (c0 := v1) hfl hc hq hn (xs (i + 1)) (xs (i + 2))
  refine g_aload_n hx hb dL_law_1905 rfl (lv_at hls 1 rfl) ?_
  refine l_arg (jj := 1) hx hb hX hbl hbA hJ.1.2.2.2.1 (lv_at hls 0 rfl) (lv_at hls 5 rfl) (by omega) hL dL_law_1906 dL_law_1907 dL_law_1909 (by decide) dL_law_1910 dL_law_1911 ?_
  refine l_arg (jj := 2) hx hb hX hbl hbA hJ.1.2.2.2.1 (lv_at hls 0 rfl) (lv_at hls 5 rfl) (by omega) hL dL_law_1912 dL_law_1913 dL_law_1915 (by decide) dL_law_1916 dL_law_1917 ?_
  refine g_aload_n hx hb dL_law_1918 rfl (lv_at hls 3 rfl) ?_
  refine l_callW (rest := []) hF hNc hA1 hJ hq.fre hMet kL_strip u857 u858 rfl hls.1 rfl (Nat.le_of_ble_eq_true rfl) dL_law_1919 (hrm.fit hR (Nat.le_of_ble_eq_true rfl)) (hrm.fit2 hf) (fun H1 locs1 z1 z2 J1 => ?_)
  obtain ⟨v, Sr', hs3, dq', cap', A', h5, hle, hk, hOk, hc', hq'⟩ := hOK H1.size z1
  refine lv_istore (i := 6) (lv' := (6, .int k) :: lLs bs b r o1 o2 i) hx hb dL_law_1922 hls (by decide) rfl (fun ls1 hl1 => ?_)
  refine g_aload_n hx hb dL_law_1924 rfl (lv_at hl1 3 rfl) ?_
  refine l_arg (jj := 1) hx hb hX hbl hbA J1.1.2.2.2.1 (lv_at hl1 1 rfl) (lv_at hl1 6 rfl) (by omega) hL dL_law_1925 dL_law_1926 dL_law_1928 (by decide) dL_law_1929 dL_law_1930 ?_
  refine l_arg (jj := 2) hx hb hX hbl hbA J1.1.2.2.2.1 (lv_at hl1 1 rfl) (lv_at hl1 6 rfl) (by omega) hL dL_law_1931 dL_law_1932 dL_law_1934 (by decide) dL_law_1935 dL_law_1936 ?_
  have h5 : f_X5_strip Sr H1.size r (xs (i + 1)) (xs (i + 2)) = some (v, Sr', hs3) := h5
  refine l_callR (As := [.int (xs (i + 1)), .int (xs (i + 2))]) (rest := []) hF J1 hc'.fre (c_X5_strip h5) k_X5_strip u1408 u1409 u1410 rfl rfl hq.tag rfl hl1.1 rfl (Nat.le_of_ble_eq_true rfl) dL_law_1937 (g5.fit hR (Nat.le_of_ble_eq_true rfl)) (lRm5.fit2 hrm g5 hf) (fun H2 locs2 z3 z4 J2 => ?_)
  refine lv_istore (i := 7) (lv' := (7, .int v) :: (6, .int k) :: lLs bs b r o1 o2 i) hx hb dL_law_1940 hl1 (by decide) rfl (fun ls2 hl2 => ?_)
  refine l_thr hF J2 (hc'.mono z4).fre hq'.tag hk (lv_at hl2 4 rfl) (lv_at hl2 1 rfl) hl2.1 u1132 u1133 u1134 hR (lRm5.fit2 hrm g5 hf) dL_law_1942 dL_law_1943 dL_law_1946 dL_law_1948 (fun H3 locs3 z5 J3 => ?_)
  refine l_cmpI hF hA1 J3 (lv_at hl2 5 rfl) (lv_at hl2 1 rfl) (lv_at hl2 0 rfl) hOk dL_law_1953 dL_law_1955 dL_law_1958 dL_law_1959 dL_law_1960 dL_law_1961 dL_law_1963 dL_law_1964 dL_law_1965 dL_law_1970 (by decide) ?_
  refine W.widen (lRm5.fit3 (slots := slots) hrm g5).1 (lRm5.fit3 (cells := cells) hrm g5).2 (kk H3 locs3 ls2 ⟨Sc', Sr', dq', cap', A', c1, v2, J3, ?_, ?_⟩ (lv_sub hl2 [2, 3, 4, 5, 6, 7] rfl))
  · exact hc'.mono (by omega)
  · exact hq'.mono (by omega)
theorem lz_weave {l : Launch} {D : va_G} {Y : Nat → ClassId} {Sc Sr : GS} {hs : Nat} {yl : ClassId} {o : Nat} {c0 : Value} {b r n cap : Nat} {dq : Nat → Nat} {A : AS} (hfl : l.stackTraces = false) (hc : Rc b n Sc hs A) (hq : Rq r dq cap Sr hs A) (hn : n ≤ 511) (x1 x2 x3 : Int32) : lZ l yL_weave (lWs yL_weave cL_weave 6 [(0, 12, 15, 13), (0, 12, 19, 15), (0, 12, 23, 71), (0, 12, 27, 17), (0, 12, 31, 73)]) [va_rf (some b), .int x1, .int x2, .int x3, va_rf (some o)] D Y Sc hs .long yl o c0 b r (n + 1) (fun c v => c = .long v.toInt64) (fun hs2 => f_X5_weave Sr hs2 r x1 x2 x3) := by
  exact lZ_chg (lx := [1, 2, 3, 4, 5]) (rm1 := rmL_weave) (rm2 := rmLx_weave) (g := fun v => .long v.toInt64) hc hn ⟨by decide, by decide⟩ ⟨(Nat.le_of_ble_eq_true rfl), (Nat.le_of_ble_eq_true rfl), (Nat.le_of_ble_eq_true rfl), (Nat.le_of_ble_eq_true rfl)⟩ ⟨(Nat.le_of_ble_eq_true rfl), (Nat.le_of_ble_eq_true rfl), (Nat.le_of_ble_eq_true rfl), (Nat.le_of_ble_eq_true rfl)⟩ (c_weave hc (by omega) x1 x2 x3) (fun hs2 h2 => r_weave (hq.mono h2) hc.1 (by have := hc.2.1; omega) x1 x2 x3) (fun v => rfl) (fun v S' e => cL_weave_r e hc.tag) (fun x i e hi => cL_weave_x hfl e hc.tag hi)
set_option maxHeartbeats 4000000 in
set_option maxRecDepth 100000 in
theorem lc_weave {p : Program} {l : Launch} {e : Env} {R : Room} {s : State} {m : MethodId} {args : Array Value} {below : List Frame} {meth : Method} {c : Code} {H : Heap} {locs : List Loc} {cells slots : Nat} {Q : State → Prop} {ls : Array Slot} {D : va_G} {Y : Nat → ClassId} {Af : Nat → Prop} {rt : Option FieldType} {yl yd : ClassId} {o1 o2 b r n bs L i : Nat} {xs : Nat → Int32} (C : lCx p l s m args meth c rt D Y Af R yl yd bs L xs) (I : lInv D Y Af s.heap yl yd o1 o2 b r n H locs) (hn : n ≤ 511) (hi : i + 5 ≤ L) (hls : lv_has ls 9 (lLs bs b r o1 o2 i)) (hf : cells + 8 ≤ R.cells ∧ slots + 6000 ≤ R.slots)
    (kk : ∀ (H1 : Heap) (locs1 : List Loc) (ls1 : Array Slot), lInv D Y Af s.heap yl yd o1 o2 b r (n + 1) H1 locs1 → lv_has ls1 9 (lLs bs b r o1 o2 i) → W p l e R s m args below meth c H1 locs1 (cells + 8) (slots + 6000) Q (F0 m 3541 ls1 [])) : W p l e R s m args below meth c H locs cells slots Q (F0 m 1973 ls []) := by
  obtain ⟨hF, hNc, hA1, hA2, hfl, hX, hbl, hbA, hL, hR⟩ := C
  obtain ⟨Sc, Sr, dq, cap, A, v1, v2, hJ, hc, hq⟩ := I
  have hx := hF.1
  have hb := hF.2.1
  have g5 : lRm5 rm_X5_weave := ⟨(Nat.le_of_ble_eq_true rfl), (Nat.le_of_ble_eq_true rfl), (Nat.le_of_ble_eq_true rfl), (Nat.le_of_ble_eq_true rfl)⟩
  obtain ⟨rm, k, c1, Sc', hs', hrm, hMet, hOK⟩ := lz_weave (D := D) (Y := Y) (yl := yl) (o := o1) (c0 := v1) hfl hc hq hn (xs (i + 1)) (xs (i + 2)) (xs (i + 3))
  refine g_aload_n hx hb dL_law_1973 rfl (lv_at hls 1 rfl) ?_
  refine l_arg (jj := 1) hx hb hX hbl hbA hJ.1.2.2.2.1 (lv_at hls 0 rfl) (lv_at hls 5 rfl) (by omega) hL dL_law_1974 dL_law_1975 dL_law_1977 (by decide) dL_law_1978 dL_law_1979 ?_
  refine l_arg (jj := 2) hx hb hX hbl hbA hJ.1.2.2.2.1 (lv_at hls 0 rfl) (lv_at hls 5 rfl) (by omega) hL dL_law_1980 dL_law_1981 dL_law_1983 (by decide) dL_law_1984 dL_law_1985 ?_
  refine l_arg (jj := 3) hx hb hX hbl hbA hJ.1.2.2.2.1 (lv_at hls 0 rfl) (lv_at hls 5 rfl) (by omega) hL dL_law_1986 dL_law_1987 dL_law_1989 (by decide) dL_law_1990 dL_law_1991 ?_
  refine g_aload_n hx hb dL_law_1992 rfl (lv_at hls 3 rfl) ?_
  refine l_callW (rest := []) hF hNc hA1 hJ hq.fre hMet kL_weave u865 u866 rfl hls.1 rfl (Nat.le_of_ble_eq_true rfl) dL_law_1993 (hrm.fit hR (Nat.le_of_ble_eq_true rfl)) (hrm.fit2 hf) (fun H1 locs1 z1 z2 J1 => ?_)
  obtain ⟨v, Sr', hs3, dq', cap', A', h5, hle, hk, hOk, hc', hq'⟩ := hOK H1.size z1
  refine lv_istore (i := 6) (lv' := (6, .int k) :: lLs bs b r o1 o2 i) hx hb dL_law_1996 hls (by decide) rfl (fun ls1 hl1 => ?_)
  refine g_aload_n hx hb dL_law_1998 rfl (lv_at hl1 3 rfl) ?_
  refine l_arg (jj := 1) hx hb hX hbl hbA J1.1.2.2.2.1 (lv_at hl1 1 rfl) (lv_at hl1 6 rfl) (by omega) hL dL_law_1999 dL_law_2000 dL_law_2002 (by decide) dL_law_2003 dL_law_2004 ?_
  refine l_arg (jj := 2) hx hb hX hbl hbA J1.1.2.2.2.1 (lv_at hl1 1 rfl) (lv_at hl1 6 rfl) (by omega) hL dL_law_2005 dL_law_2006 dL_law_2008 (by decide) dL_law_2009 dL_law_2010 ?_
  refine l_arg (jj := 3) hx hb hX hbl hbA J1.1.2.2.2.1 (lv_at hl1 1 rfl) (lv_at hl1 6 rfl) (by omega) hL dL_law_2011 dL_law_2012 dL_law_2014 (by decide) dL_law_2015 dL_law_2016 ?_
  have h5 : f_X5_weave Sr H1.size r (xs (i + 1)) (xs (i + 2)) (xs (i + 3)) = some (v, Sr', hs3) := h5
  refine l_callR (As := [.int (xs (i + 1)), .int (xs (i + 2)), .int (xs (i + 3))]) (rest := []) hF J1 hc'.fre (c_X5_weave h5) k_X5_weave u1417 u1418 u1419 rfl rfl hq.tag rfl hl1.1 rfl (Nat.le_of_ble_eq_true rfl) dL_law_2017 (g5.fit hR (Nat.le_of_ble_eq_true rfl)) (lRm5.fit2 hrm g5 hf) (fun H2 locs2 z3 z4 J2 => ?_)
  refine lv_istore (i := 7) (lv' := (7, .int v) :: (6, .int k) :: lLs bs b r o1 o2 i) hx hb dL_law_2020 hl1 (by decide) rfl (fun ls2 hl2 => ?_)
  refine l_thr hF J2 (hc'.mono z4).fre hq'.tag hk (lv_at hl2 4 rfl) (lv_at hl2 1 rfl) hl2.1 u1132 u1133 u1134 hR (lRm5.fit2 hrm g5 hf) dL_law_2022 dL_law_2023 dL_law_2026 dL_law_2028 (fun H3 locs3 z5 J3 => ?_)
  refine l_cmpI hF hA1 J3 (lv_at hl2 5 rfl) (lv_at hl2 1 rfl) (lv_at hl2 0 rfl) hOk dL_law_2033 dL_law_2035 dL_law_2038 dL_law_2039 dL_law_2040 dL_law_2041 dL_law_2043 dL_law_2044 dL_law_2045 dL_law_2050 (by decide) ?_
  refine W.widen (lRm5.fit3 (slots := slots) hrm g5).1 (lRm5.fit3 (cells := cells) hrm g5).2 (kk H3 locs3 ls2 ⟨Sc', Sr', dq', cap', A', c1, v2, J3, ?_, ?_⟩ (lv_sub hl2 [2, 3, 4, 5, 6, 7] rfl))
  · exact hc'.mono (by omega)
  · exact hq'.mono (by omega)
theorem lz_raise {l : Launch} {D : va_G} {Y : Nat → ClassId} {Sc Sr : GS} {hs : Nat} {yl : ClassId} {o : Nat} {c0 : Value} {b r n cap : Nat} {dq : Nat → Nat} {A : AS} (hfl : l.stackTraces = false) (hc : Rc b n Sc hs A) (hq : Rq r dq cap Sr hs A) (hn : n ≤ 511) (x1 x2 : Int32) : lZ l yL_raise (lWs yL_raise cL_raise 5 [(0, 10, 13, 13), (0, 10, 17, 15), (0, 10, 21, 71), (0, 10, 25, 17)]) [va_rf (some b), .int x1, .int x2, va_rf (some o)] D Y Sc hs .long yl o c0 b r (n + 1) (fun c v => c = .long v.toInt64) (fun hs2 => rL hs2 (f_X5_raise Sr r x1 x2)) := by
  exact lZ_chg (lx := [1, 2, 3, 4]) (rm1 := rmL_raise) (rm2 := rmLx_raise) (g := fun v => .long v.toInt64) hc hn ⟨by decide, by decide⟩ ⟨(Nat.le_of_ble_eq_true rfl), (Nat.le_of_ble_eq_true rfl), (Nat.le_of_ble_eq_true rfl), (Nat.le_of_ble_eq_true rfl)⟩ ⟨(Nat.le_of_ble_eq_true rfl), (Nat.le_of_ble_eq_true rfl), (Nat.le_of_ble_eq_true rfl), (Nat.le_of_ble_eq_true rfl)⟩ (c_raise hc (by omega) x1 x2) (fun hs2 h2 => r_raise (hq.mono h2) hc.1 (by have := hc.2.1; omega) x1 x2) (fun v => rfl) (fun v S' e => cL_raise_r e hc.tag) (fun x i e hi => cL_raise_x hfl e hc.tag hi)
set_option maxHeartbeats 4000000 in
set_option maxRecDepth 100000 in
theorem lc_raise {p : Program} {l : Launch} {e : Env} {R : Room} {s : State} {m : MethodId} {args : Array Value} {below : List Frame} {meth : Method} {c : Code} {H : Heap} {locs : List Loc} {cells slots : Nat} {Q : State → Prop} {ls : Array Slot} {D : va_G} {Y : Nat → ClassId} {Af : Nat → Prop} {rt : Option FieldType} {yl yd : ClassId} {o1 o2 b r n bs L i : Nat} {xs : Nat → Int32} (C : lCx p l s m args meth c rt D Y Af R yl yd bs L xs) (I : lInv D Y Af s.heap yl yd o1 o2 b r n H locs) (hn : n ≤ 511) (hi : i + 5 ≤ L) (hls : lv_has ls 9 (lLs bs b r o1 o2 i)) (hf : cells + 8 ≤ R.cells ∧ slots + 6000 ≤ R.slots)
    (kk : ∀ (H1 : Heap) (locs1 : List Loc) (ls1 : Array Slot), lInv D Y Af s.heap yl yd o1 o2 b r (n + 1) H1 locs1 → lv_has ls1 9 (lLs bs b r o1 o2 i) → W p l e R s m args below meth c H1 locs1 (cells + 8) (slots + 6000) Q (F0 m 3541 ls1 [])) : W p l e R s m args below meth c H locs cells slots Q (F0 m 2053 ls []) := by
  obtain ⟨hF, hNc, hA1, hA2, hfl, hX, hbl, hbA, hL, hR⟩ := C
  obtain ⟨Sc, Sr, dq, cap, A, v1, v2, hJ, hc, hq⟩ := I
  have hx := hF.1
  have hb := hF.2.1
  have g5 : lRm5 rm_X5_raise := ⟨(Nat.le_of_ble_eq_true rfl), (Nat.le_of_ble_eq_true rfl), (Nat.le_of_ble_eq_true rfl), (Nat.le_of_ble_eq_true rfl)⟩
  obtain ⟨rm, k, c1, Sc', hs', hrm, hMet, hOK⟩ := lz_raise (D := D) (Y := Y) (yl := yl) (o := o1) (c0 := v1) hfl hc hq hn (xs (i + 1)) (xs (i + 2))
  refine g_aload_n hx hb dL_law_2053 rfl (lv_at hls 1 rfl) ?_
  refine l_arg (jj := 1) hx hb hX hbl hbA hJ.1.2.2.2.1 (lv_at hls 0 rfl) (lv_at hls 5 rfl) (by omega) hL dL_law_2054 dL_law_2055 dL_law_2057 (by decide) dL_law_2058 dL_law_2059 ?_
  refine l_arg (jj := 2) hx hb hX hbl hbA hJ.1.2.2.2.1 (lv_at hls 0 rfl) (lv_at hls 5 rfl) (by omega) hL dL_law_2060 dL_law_2061 dL_law_2063 (by decide) dL_law_2064 dL_law_2065 ?_
  refine g_aload_n hx hb dL_law_2066 rfl (lv_at hls 3 rfl) ?_
  refine l_callW (rest := []) hF hNc hA1 hJ hq.fre hMet kL_raise u873 u874 rfl hls.1 rfl (Nat.le_of_ble_eq_true rfl) dL_law_2067 (hrm.fit hR (Nat.le_of_ble_eq_true rfl)) (hrm.fit2 hf) (fun H1 locs1 z1 z2 J1 => ?_)
  obtain ⟨v, Sr', hs3, dq', cap', A', h5, hle, hk, hOk, hc', hq'⟩ := hOK H1.size z1
  refine lv_istore (i := 6) (lv' := (6, .int k) :: lLs bs b r o1 o2 i) hx hb dL_law_2070 hls (by decide) rfl (fun ls1 hl1 => ?_)
  refine g_aload_n hx hb dL_law_2072 rfl (lv_at hl1 3 rfl) ?_
  refine l_arg (jj := 1) hx hb hX hbl hbA J1.1.2.2.2.1 (lv_at hl1 1 rfl) (lv_at hl1 6 rfl) (by omega) hL dL_law_2073 dL_law_2074 dL_law_2076 (by decide) dL_law_2077 dL_law_2078 ?_
  refine l_arg (jj := 2) hx hb hX hbl hbA J1.1.2.2.2.1 (lv_at hl1 1 rfl) (lv_at hl1 6 rfl) (by omega) hL dL_law_2079 dL_law_2080 dL_law_2082 (by decide) dL_law_2083 dL_law_2084 ?_
  obtain ⟨h6, rfl⟩ := rL_of h5
  refine l_callR (As := [.int (xs (i + 1)), .int (xs (i + 2))]) (rest := []) hF J1 hc'.fre (c_X5_raise h6) k_X5_raise u1421 u1422 u1423 rfl rfl hq.tag rfl hl1.1 rfl (Nat.le_of_ble_eq_true rfl) dL_law_2085 (g5.fit hR (Nat.le_of_ble_eq_true rfl)) (lRm5.fit2 hrm g5 hf) (fun H2 locs2 z3 z4 J2 => ?_)
  refine lv_istore (i := 7) (lv' := (7, .int v) :: (6, .int k) :: lLs bs b r o1 o2 i) hx hb dL_law_2088 hl1 (by decide) rfl (fun ls2 hl2 => ?_)
  refine l_thr hF J2 (hc'.mono z4).fre hq'.tag hk (lv_at hl2 4 rfl) (lv_at hl2 1 rfl) hl2.1 u1132 u1133 u1134 hR (lRm5.fit2 hrm g5 hf) dL_law_2090 dL_law_2091 dL_law_2094 dL_law_2096 (fun H3 locs3 z5 J3 => ?_)
  refine l_cmpI hF hA1 J3 (lv_at hl2 5 rfl) (lv_at hl2 1 rfl) (lv_at hl2 0 rfl) hOk dL_law_2101 dL_law_2103 dL_law_2106 dL_law_2107 dL_law_2108 dL_law_2109 dL_law_2111 dL_law_2112 dL_law_2113 dL_law_2118 (by decide) ?_
  refine W.widen (lRm5.fit3 (slots := slots) hrm g5).1 (lRm5.fit3 (cells := cells) hrm g5).2 (kk H3 locs3 ls2 ⟨Sc', Sr', dq', cap', A', c1, v2, J3, ?_, ?_⟩ (lv_sub hl2 [2, 3, 4, 5, 6, 7] rfl))
  · exact hc'.mono (by omega)
  · exact hq'.mono (by omega)
theorem lz_sort {l : Launch} {D : va_G} {Y : Nat → ClassId} {Sc Sr : GS} {hs : Nat} {yl : ClassId} {o : Nat} {c0 : Value} {b r n cap : Nat} {dq : Nat → Nat} {A : AS} (hfl : l.stackTraces = false) (hc : Rc b n Sc hs A) (hq : Rq r dq cap Sr hs A) (hn : n ≤ 511) (x1 x2 : Int32) : lZ l yL_sort (lWs yL_sort cL_sort 5 [(0, 10, 13, 13), (0, 10, 17, 15), (0, 10, 21, 71), (0, 10, 25, 17)]) [va_rf (some b), .int x1, .int x2, va_rf (some o)] D Y Sc hs .long yl o c0 b r (n + 1) (fun c v => c = .long v.toInt64) (fun hs2 => f_X5_sort Sr hs2 r x1 x2) := by
  exact lZ_chg (lx := [1, 2, 3, 4]) (rm1 := rmL_sort) (rm2 := rmLx_sort) (g := fun v => .long v.toInt64) hc hn ⟨by decide, by decide⟩ ⟨(Nat.le_of_ble_eq_true rfl), (Nat.le_of_ble_eq_true rfl), (Nat.le_of_ble_eq_true rfl), (Nat.le_of_ble_eq_true rfl)⟩ ⟨(Nat.le_of_ble_eq_true rfl), (Nat.le_of_ble_eq_true rfl), (Nat.le_of_ble_eq_true rfl), (Nat.le_of_ble_eq_true rfl)⟩ (c_sort hc (by omega) x1 x2) (fun hs2 h2 => r_sort (hq.mono h2) hc.1 (by have := hc.2.1; omega) x1 x2) (fun v => rfl) (fun v S' e => cL_sort_r e hc.tag) (fun x i e hi => cL_sort_x hfl e hc.tag hi)
set_option maxHeartbeats 4000000 in
set_option maxRecDepth 100000 in
theorem lc_sort {p : Program} {l : Launch} {e : Env} {R : Room} {s : State} {m : MethodId} {args : Array Value} {below : List Frame} {meth : Method} {c : Code} {H : Heap} {locs : List Loc} {cells slots : Nat} {Q : State → Prop} {ls : Array Slot} {D : va_G} {Y : Nat → ClassId} {Af : Nat → Prop} {rt : Option FieldType} {yl yd : ClassId} {o1 o2 b r n bs L i : Nat} {xs : Nat → Int32} (C : lCx p l s m args meth c rt D Y Af R yl yd bs L xs) (I : lInv D Y Af s.heap yl yd o1 o2 b r n H locs) (hn : n ≤ 511) (hi : i + 5 ≤ L) (hls : lv_has ls 9 (lLs bs b r o1 o2 i)) (hf : cells + 8 ≤ R.cells ∧ slots + 6000 ≤ R.slots)
    (kk : ∀ (H1 : Heap) (locs1 : List Loc) (ls1 : Array Slot), lInv D Y Af s.heap yl yd o1 o2 b r (n + 1) H1 locs1 → lv_has ls1 9 (lLs bs b r o1 o2 i) → W p l e R s m args below meth c H1 locs1 (cells + 8) (slots + 6000) Q (F0 m 3541 ls1 [])) : W p l e R s m args below meth c H locs cells slots Q (F0 m 2121 ls []) := by
  obtain ⟨hF, hNc, hA1, hA2, hfl, hX, hbl, hbA, hL, hR⟩ := C
  obtain ⟨Sc, Sr, dq, cap, A, v1, v2, hJ, hc, hq⟩ := I
  have hx := hF.1
  have hb := hF.2.1
  have g5 : lRm5 rm_X5_sort := ⟨(Nat.le_of_ble_eq_true rfl), (Nat.le_of_ble_eq_true rfl), (Nat.le_of_ble_eq_true rfl), (Nat.le_of_ble_eq_true rfl)⟩
  obtain ⟨rm, k, c1, Sc', hs', hrm, hMet, hOK⟩ := lz_sort (D := D) (Y := Y) (yl := yl) (o := o1) (c0 := v1) hfl hc hq hn (xs (i + 1)) (chz (xs (i + 2)))
  refine g_aload_n hx hb dL_law_2121 rfl (lv_at hls 1 rfl) ?_
  refine l_arg (jj := 1) hx hb hX hbl hbA hJ.1.2.2.2.1 (lv_at hls 0 rfl) (lv_at hls 5 rfl) (by omega) hL dL_law_2122 dL_law_2123 dL_law_2125 (by decide) dL_law_2126 dL_law_2127 ?_
  refine l_arg (jj := 2) hx hb hX hbl hbA hJ.1.2.2.2.1 (lv_at hls 0 rfl) (lv_at hls 5 rfl) (by omega) hL dL_law_2128 dL_law_2129 dL_law_2131 (by decide) dL_law_2132 dL_law_2133 ?_
  refine lv_i2c (v := chz (xs (i + 2))) hx hb dL_law_2134 rfl ?_
  refine g_aload_n hx hb dL_law_2135 rfl (lv_at hls 3 rfl) ?_
  refine l_callW (rest := []) hF hNc hA1 hJ hq.fre hMet kL_sort u880 u881 rfl hls.1 rfl (Nat.le_of_ble_eq_true rfl) dL_law_2136 (hrm.fit hR (Nat.le_of_ble_eq_true rfl)) (hrm.fit2 hf) (fun H1 locs1 z1 z2 J1 => ?_)
  obtain ⟨v, Sr', hs3, dq', cap', A', h5, hle, hk, hOk, hc', hq'⟩ := hOK H1.size z1
  refine lv_istore (i := 6) (lv' := (6, .int k) :: lLs bs b r o1 o2 i) hx hb dL_law_2139 hls (by decide) rfl (fun ls1 hl1 => ?_)
  refine g_aload_n hx hb dL_law_2141 rfl (lv_at hl1 3 rfl) ?_
  refine l_arg (jj := 1) hx hb hX hbl hbA J1.1.2.2.2.1 (lv_at hl1 1 rfl) (lv_at hl1 6 rfl) (by omega) hL dL_law_2142 dL_law_2143 dL_law_2145 (by decide) dL_law_2146 dL_law_2147 ?_
  refine l_arg (jj := 2) hx hb hX hbl hbA J1.1.2.2.2.1 (lv_at hl1 1 rfl) (lv_at hl1 6 rfl) (by omega) hL dL_law_2148 dL_law_2149 dL_law_2151 (by decide) dL_law_2152 dL_law_2153 ?_
  refine lv_i2c (v := chz (xs (i + 2))) hx hb dL_law_2154 rfl ?_
  have h5 : f_X5_sort Sr H1.size r (xs (i + 1)) (chz (xs (i + 2))) = some (v, Sr', hs3) := h5
  refine l_callR (As := [.int (xs (i + 1)), .int (chz (xs (i + 2)))]) (rest := []) hF J1 hc'.fre (c_X5_sort h5) k_X5_sort u1425 u1426 u1427 rfl rfl hq.tag rfl hl1.1 rfl (Nat.le_of_ble_eq_true rfl) dL_law_2155 (g5.fit hR (Nat.le_of_ble_eq_true rfl)) (lRm5.fit2 hrm g5 hf) (fun H2 locs2 z3 z4 J2 => ?_)
  refine lv_istore (i := 7) (lv' := (7, .int v) :: (6, .int k) :: lLs bs b r o1 o2 i) hx hb dL_law_2158 hl1 (by decide) rfl (fun ls2 hl2 => ?_)
  refine l_thr hF J2 (hc'.mono z4).fre hq'.tag hk (lv_at hl2 4 rfl) (lv_at hl2 1 rfl) hl2.1 u1132 u1133 u1134 hR (lRm5.fit2 hrm g5 hf) dL_law_2160 dL_law_2161 dL_law_2164 dL_law_2166 (fun H3 locs3 z5 J3 => ?_)
  refine l_cmpI hF hA1 J3 (lv_at hl2 5 rfl) (lv_at hl2 1 rfl) (lv_at hl2 0 rfl) hOk dL_law_2171 dL_law_2173 dL_law_2176 dL_law_2177 dL_law_2178 dL_law_2179 dL_law_2181 dL_law_2182 dL_law_2183 dL_law_2188 (by decide) ?_
  refine W.widen (lRm5.fit3 (slots := slots) hrm g5).1 (lRm5.fit3 (cells := cells) hrm g5).2 (kk H3 locs3 ls2 ⟨Sc', Sr', dq', cap', A', c1, v2, J3, ?_, ?_⟩ (lv_sub hl2 [2, 3, 4, 5, 6, 7] rfl))
  · exact hc'.mono (by omega)
  · exact hq'.mono (by omega)
theorem lz_search {l : Launch} {D : va_G} {Y : Nat → ClassId} {Sc Sr : GS} {hs : Nat} {yl : ClassId} {o : Nat} {c0 : Value} {b r n cap : Nat} {dq : Nat → Nat} {A : AS} (hfl : l.stackTraces = false) (hc : Rc b n Sc hs A) (hq : Rq r dq cap Sr hs A) (hn : n ≤ 511) (x1 x2 : Int32) : lZ l yL_search (lWs yL_search cL_search 5 [(0, 10, 13, 13), (0, 10, 17, 15), (0, 10, 21, 73)]) [va_rf (some b), .int x1, .int x2, va_rf (some o)] D Y Sc hs .long yl o c0 b r (n + 1) (fun c v => c = .long v.toInt64) (fun hs2 => rL hs2 (f_X5_search Sr r x1 x2)) := by
  obtain ⟨hw, hp, pa, ch, hr⟩ := id hc
  exact lZ_ask (lx := [1, 2, 5]) (rm1 := rmL_search) (rm2 := rmLx_search) (g := fun v => .long v.toInt64) hc hq hn ⟨by decide, by decide⟩ ⟨(Nat.le_of_ble_eq_true rfl), (Nat.le_of_ble_eq_true rfl), (Nat.le_of_ble_eq_true rfl), (Nat.le_of_ble_eq_true rfl)⟩ ⟨(Nat.le_of_ble_eq_true rfl), (Nat.le_of_ble_eq_true rfl), (Nat.le_of_ble_eq_true rfl), (Nat.le_of_ble_eq_true rfl)⟩ (c_search hr hw x1 x2) (r_search hq hw x1 x2) (hz_same (V := Int32) (g := fun v => .long v.toInt64) (Ok := fun c v => c = .long v.toInt64) fun v _ => rfl) (fun v e => cL_search_r e hc.tag) (fun x i e hi => cL_search_x hfl e hc.tag hi)
set_option maxHeartbeats 4000000 in
set_option maxRecDepth 100000 in
theorem lc_search {p : Program} {l : Launch} {e : Env} {R : Room} {s : State} {m : MethodId} {args : Array Value} {below : List Frame} {meth : Method} {c : Code} {H : Heap} {locs : List Loc} {cells slots : Nat} {Q : State → Prop} {ls : Array Slot} {D : va_G} {Y : Nat → ClassId} {Af : Nat → Prop} {rt : Option FieldType} {yl yd : ClassId} {o1 o2 b r n bs L i : Nat} {xs : Nat → Int32} (C : lCx p l s m args meth c rt D Y Af R yl yd bs L xs) (I : lInv D Y Af s.heap yl yd o1 o2 b r n H locs) (hn : n ≤ 511) (hi : i + 5 ≤ L) (hls : lv_has ls 9 (lLs bs b r o1 o2 i)) (hf : cells + 8 ≤ R.cells ∧ slots + 6000 ≤ R.slots)
    (kk : ∀ (H1 : Heap) (locs1 : List Loc) (ls1 : Array Slot), lInv D Y Af s.heap yl yd o1 o2 b r (n + 1) H1 locs1 → lv_has ls1 9 (lLs bs b r o1 o2 i) → W p l e R s m args below meth c H1 locs1 (cells + 8) (slots + 6000) Q (F0 m 3541 ls1 [])) : W p l e R s m args below meth c H locs cells slots Q (F0 m 2191 ls []) := by
  obtain ⟨hF, hNc, hA1, hA2, hfl, hX, hbl, hbA, hL, hR⟩ := C
  obtain ⟨Sc, Sr, dq, cap, A, v1, v2, hJ, hc, hq⟩ := I
  have hx := hF.1
  have hb := hF.2.1
  have g5 : lRm5 rm_X5_search := ⟨(Nat.le_of_ble_eq_true rfl), (Nat.le_of_ble_eq_true rfl), (Nat.le_of_ble_eq_true rfl), (Nat.le_of_ble_eq_true rfl)⟩
  obtain ⟨rm, k, c1, Sc', hs', hrm, hMet, hOK⟩ := lz_search (D := D) (Y := Y) (yl := yl) (o := o1) (c0 := v1) hfl hc hq hn (xs (i + 1)) (xs (i + 2))
  refine g_aload_n hx hb dL_law_2191 rfl (lv_at hls 1 rfl) ?_
  refine l_arg (jj := 1) hx hb hX hbl hbA hJ.1.2.2.2.1 (lv_at hls 0 rfl) (lv_at hls 5 rfl) (by omega) hL dL_law_2192 dL_law_2193 dL_law_2195 (by decide) dL_law_2196 dL_law_2197 ?_
  refine l_arg (jj := 2) hx hb hX hbl hbA hJ.1.2.2.2.1 (lv_at hls 0 rfl) (lv_at hls 5 rfl) (by omega) hL dL_law_2198 dL_law_2199 dL_law_2201 (by decide) dL_law_2202 dL_law_2203 ?_
  refine g_aload_n hx hb dL_law_2204 rfl (lv_at hls 3 rfl) ?_
  refine l_callW (rest := []) hF hNc hA1 hJ hq.fre hMet kL_search u888 u889 rfl hls.1 rfl (Nat.le_of_ble_eq_true rfl) dL_law_2205 (hrm.fit hR (Nat.le_of_ble_eq_true rfl)) (hrm.fit2 hf) (fun H1 locs1 z1 z2 J1 => ?_)
  obtain ⟨v, Sr', hs3, dq', cap', A', h5, hle, hk, hOk, hc', hq'⟩ := hOK H1.size z1
  refine lv_istore (i := 6) (lv' := (6, .int k) :: lLs bs b r o1 o2 i) hx hb dL_law_2208 hls (by decide) rfl (fun ls1 hl1 => ?_)
  refine g_aload_n hx hb dL_law_2210 rfl (lv_at hl1 3 rfl) ?_
  refine l_arg (jj := 1) hx hb hX hbl hbA J1.1.2.2.2.1 (lv_at hl1 1 rfl) (lv_at hl1 6 rfl) (by omega) hL dL_law_2211 dL_law_2212 dL_law_2214 (by decide) dL_law_2215 dL_law_2216 ?_
  refine l_arg (jj := 2) hx hb hX hbl hbA J1.1.2.2.2.1 (lv_at hl1 1 rfl) (lv_at hl1 6 rfl) (by omega) hL dL_law_2217 dL_law_2218 dL_law_2220 (by decide) dL_law_2221 dL_law_2222 ?_
  obtain ⟨h6, rfl⟩ := rL_of h5
  refine l_callR (As := [.int (xs (i + 1)), .int (xs (i + 2))]) (rest := []) hF J1 hc'.fre (c_X5_search h6) k_X5_search u1434 u1435 u1436 rfl rfl hq.tag rfl hl1.1 rfl (Nat.le_of_ble_eq_true rfl) dL_law_2223 (g5.fit hR (Nat.le_of_ble_eq_true rfl)) (lRm5.fit2 hrm g5 hf) (fun H2 locs2 z3 z4 J2 => ?_)
  refine lv_istore (i := 7) (lv' := (7, .int v) :: (6, .int k) :: lLs bs b r o1 o2 i) hx hb dL_law_2226 hl1 (by decide) rfl (fun ls2 hl2 => ?_)
  refine l_thr hF J2 (hc'.mono z4).fre hq'.tag hk (lv_at hl2 4 rfl) (lv_at hl2 1 rfl) hl2.1 u1132 u1133 u1134 hR (lRm5.fit2 hrm g5 hf) dL_law_2228 dL_law_2229 dL_law_2232 dL_law_2234 (fun H3 locs3 z5 J3 => ?_)
  refine l_cmpI hF hA1 J3 (lv_at hl2 5 rfl) (lv_at hl2 1 rfl) (lv_at hl2 0 rfl) hOk dL_law_2239 dL_law_2241 dL_law_2244 dL_law_2245 dL_law_2246 dL_law_2247 dL_law_2249 dL_law_2250 dL_law_2251 dL_law_2256 (by decide) ?_
  refine W.widen (lRm5.fit3 (slots := slots) hrm g5).1 (lRm5.fit3 (cells := cells) hrm g5).2 (kk H3 locs3 ls2 ⟨Sc', Sr', dq', cap', A', c1, v2, J3, ?_, ?_⟩ (lv_sub hl2 [2, 3, 4, 5, 6, 7] rfl))
  · exact hc'.mono (by omega)
  · exact hq'.mono (by omega)
theorem lz_turn {l : Launch} {D : va_G} {Y : Nat → ClassId} {Sc Sr : GS} {hs : Nat} {yl : ClassId} {o : Nat} {c0 : Value} {b r n cap : Nat} {dq : Nat → Nat} {A : AS} (hfl : l.stackTraces = false) (hc : Rc b n Sc hs A) (hq : Rq r dq cap Sr hs A) (hn : n ≤ 511) (x1 : Int32) : lZ l yL_turn (lWs yL_turn cL_turn 4 [(0, 9, 12, 13), (0, 9, 15, 15), (0, 9, 18, 71)]) [va_rf (some b), .int x1, va_rf (some o)] D Y Sc hs .long yl o c0 b r (n + 1) (fun c v => c = .long v.toInt64) (fun hs2 => rL hs2 (f_X5_turn Sr r x1)) := by
  exact lZ_chg (lx := [1, 2, 3]) (rm1 := rmL_turn) (rm2 := rmLx_turn) (g := fun v => .long v.toInt64) hc hn ⟨by decide, by decide⟩ ⟨(Nat.le_of_ble_eq_true rfl), (Nat.le_of_ble_eq_true rfl), (Nat.le_of_ble_eq_true rfl), (Nat.le_of_ble_eq_true rfl)⟩ ⟨(Nat.le_of_ble_eq_true rfl), (Nat.le_of_ble_eq_true rfl), (Nat.le_of_ble_eq_true rfl), (Nat.le_of_ble_eq_true rfl)⟩ (c_turn hc (by omega) x1) (fun hs2 h2 => r_turn (hq.mono h2) hc.1 (by have := hc.2.1; omega) x1) (fun v => rfl) (fun v S' e => cL_turn_r e hc.tag) (fun x i e hi => cL_turn_x hfl e hc.tag hi)
set_option maxHeartbeats 4000000 in
set_option maxRecDepth 100000 in
theorem lc_turn {p : Program} {l : Launch} {e : Env} {R : Room} {s : State} {m : MethodId} {args : Array Value} {below : List Frame} {meth : Method} {c : Code} {H : Heap} {locs : List Loc} {cells slots : Nat} {Q : State → Prop} {ls : Array Slot} {D : va_G} {Y : Nat → ClassId} {Af : Nat → Prop} {rt : Option FieldType} {yl yd : ClassId} {o1 o2 b r n bs L i : Nat} {xs : Nat → Int32} (C : lCx p l s m args meth c rt D Y Af R yl yd bs L xs) (I : lInv D Y Af s.heap yl yd o1 o2 b r n H locs) (hn : n ≤ 511) (hi : i + 5 ≤ L) (hls : lv_has ls 9 (lLs bs b r o1 o2 i)) (hf : cells + 8 ≤ R.cells ∧ slots + 6000 ≤ R.slots)
    (kk : ∀ (H1 : Heap) (locs1 : List Loc) (ls1 : Array Slot), lInv D Y Af s.heap yl yd o1 o2 b r (n + 1) H1 locs1 → lv_has ls1 9 (lLs bs b r o1 o2 i) → W p l e R s m args below meth c H1 locs1 (cells + 8) (slots + 6000) Q (F0 m 3541 ls1 [])) : W p l e R s m args below meth c H locs cells slots Q (F0 m 2259 ls []) := by
  obtain ⟨hF, hNc, hA1, hA2, hfl, hX, hbl, hbA, hL, hR⟩ := C
  obtain ⟨Sc, Sr, dq, cap, A, v1, v2, hJ, hc, hq⟩ := I
  have hx := hF.1
  have hb := hF.2.1
  have g5 : lRm5 rm_X5_turn := ⟨(Nat.le_of_ble_eq_true rfl), (Nat.le_of_ble_eq_true rfl), (Nat.le_of_ble_eq_true rfl), (Nat.le_of_ble_eq_true rfl)⟩
  obtain ⟨rm, k, c1, Sc', hs', hrm, hMet, hOK⟩ := lz_turn (D := D) (Y := Y) (yl := yl) (o := o1) (c0 := v1) hfl hc hq hn (xs (i + 1))
  refine g_aload_n hx hb dL_law_2259 rfl (lv_at hls 1 rfl) ?_
  refine l_arg (jj := 1) hx hb hX hbl hbA hJ.1.2.2.2.1 (lv_at hls 0 rfl) (lv_at hls 5 rfl) (by omega) hL dL_law_2260 dL_law_2261 dL_law_2263 (by decide) dL_law_2264 dL_law_2265 ?_
  refine g_aload_n hx hb dL_law_2266 rfl (lv_at hls 3 rfl) ?_
  refine l_callW (rest := []) hF hNc hA1 hJ hq.fre hMet kL_turn u900 u901 rfl hls.1 rfl (Nat.le_of_ble_eq_true rfl) dL_law_2267 (hrm.fit hR (Nat.le_of_ble_eq_true rfl)) (hrm.fit2 hf) (fun H1 locs1 z1 z2 J1 => ?_)
  obtain ⟨v, Sr', hs3, dq', cap', A', h5, hle, hk, hOk, hc', hq'⟩ := hOK H1.size z1
  refine lv_istore (i := 6) (lv' := (6, .int k) :: lLs bs b r o1 o2 i) hx hb dL_law_2270 hls (by decide) rfl (fun ls1 hl1 => ?_)
  refine g_aload_n hx hb dL_law_2272 rfl (lv_at hl1 3 rfl) ?_
  refine l_arg (jj := 1) hx hb hX hbl hbA J1.1.2.2.2.1 (lv_at hl1 1 rfl) (lv_at hl1 6 rfl) (by omega) hL dL_law_2273 dL_law_2274 dL_law_2276 (by decide) dL_law_2277 dL_law_2278 ?_
  obtain ⟨h6, rfl⟩ := rL_of h5
  refine l_callR (As := [.int (xs (i + 1))]) (rest := []) hF J1 hc'.fre (c_X5_turn h6) k_X5_turn u1438 u1439 u1440 rfl rfl hq.tag rfl hl1.1 rfl (Nat.le_of_ble_eq_true rfl) dL_law_2279 (g5.fit hR (Nat.le_of_ble_eq_true rfl)) (lRm5.fit2 hrm g5 hf) (fun H2 locs2 z3 z4 J2 => ?_)
  refine lv_istore (i := 7) (lv' := (7, .int v) :: (6, .int k) :: lLs bs b r o1 o2 i) hx hb dL_law_2282 hl1 (by decide) rfl (fun ls2 hl2 => ?_)
  refine l_thr hF J2 (hc'.mono z4).fre hq'.tag hk (lv_at hl2 4 rfl) (lv_at hl2 1 rfl) hl2.1 u1132 u1133 u1134 hR (lRm5.fit2 hrm g5 hf) dL_law_2284 dL_law_2285 dL_law_2288 dL_law_2290 (fun H3 locs3 z5 J3 => ?_)
  refine l_cmpI hF hA1 J3 (lv_at hl2 5 rfl) (lv_at hl2 1 rfl) (lv_at hl2 0 rfl) hOk dL_law_2295 dL_law_2297 dL_law_2300 dL_law_2301 dL_law_2302 dL_law_2303 dL_law_2305 dL_law_2306 dL_law_2307 dL_law_2312 (by decide) ?_
  refine W.widen (lRm5.fit3 (slots := slots) hrm g5).1 (lRm5.fit3 (cells := cells) hrm g5).2 (kk H3 locs3 ls2 ⟨Sc', Sr', dq', cap', A', c1, v2, J3, ?_, ?_⟩ (lv_sub hl2 [2, 3, 4, 5, 6, 7] rfl))
  · exact hc'.mono (by omega)
  · exact hq'.mono (by omega)
theorem lz_swap {l : Launch} {D : va_G} {Y : Nat → ClassId} {Sc Sr : GS} {hs : Nat} {yl : ClassId} {o : Nat} {c0 : Value} {b r n cap : Nat} {dq : Nat → Nat} {A : AS} (hfl : l.stackTraces = false) (hc : Rc b n Sc hs A) (hq : Rq r dq cap Sr hs A) (hn : n ≤ 511) (x1 x2 x3 : Int32) : lZ l yL_swap (lWs yL_swap cL_swap 6 [(0, 12, 15, 13), (0, 12, 19, 15), (0, 12, 23, 71), (0, 12, 27, 17)]) [va_rf (some b), .int x1, .int x2, .int x3, va_rf (some o)] D Y Sc hs .long yl o c0 b r (n + 1) (fun c v => c = .long v.toInt64) (fun hs2 => rL hs2 (f_X5_swap Sr r x1 x2 x3)) := by
  exact lZ_chg (lx := [1, 2, 3, 4]) (rm1 := rmL_swap) (rm2 := rmLx_swap) (g := fun v => .long v.toInt64) hc hn ⟨by decide, by decide⟩ ⟨(Nat.le_of_ble_eq_true rfl), (Nat.le_of_ble_eq_true rfl), (Nat.le_of_ble_eq_true rfl), (Nat.le_of_ble_eq_true rfl)⟩ ⟨(Nat.le_of_ble_eq_true rfl), (Nat.le_of_ble_eq_true rfl), (Nat.le_of_ble_eq_true rfl), (Nat.le_of_ble_eq_true rfl)⟩ (c_swap hc (by omega) x1 x2 x3) (fun hs2 h2 => r_swap (hq.mono h2) hc.1 (by have := hc.2.1; omega) x1 x2 x3) (fun v => rfl) (fun v S' e => cL_swap_r e hc.tag) (fun x i e hi => cL_swap_x hfl e hc.tag hi)
set_option maxHeartbeats 4000000 in
set_option maxRecDepth 100000 in
theorem lc_swap {p : Program} {l : Launch} {e : Env} {R : Room} {s : State} {m : MethodId} {args : Array Value} {below : List Frame} {meth : Method} {c : Code} {H : Heap} {locs : List Loc} {cells slots : Nat} {Q : State → Prop} {ls : Array Slot} {D : va_G} {Y : Nat → ClassId} {Af : Nat → Prop} {rt : Option FieldType} {yl yd : ClassId} {o1 o2 b r n bs L i : Nat} {xs : Nat → Int32} (C : lCx p l s m args meth c rt D Y Af R yl yd bs L xs) (I : lInv D Y Af s.heap yl yd o1 o2 b r n H locs) (hn : n ≤ 511) (hi : i + 5 ≤ L) (hls : lv_has ls 9 (lLs bs b r o1 o2 i)) (hf : cells + 8 ≤ R.cells ∧ slots + 6000 ≤ R.slots)
    (kk : ∀ (H1 : Heap) (locs1 : List Loc) (ls1 : Array Slot), lInv D Y Af s.heap yl yd o1 o2 b r (n + 1) H1 locs1 → lv_has ls1 9 (lLs bs b r o1 o2 i) → W p l e R s m args below meth c H1 locs1 (cells + 8) (slots + 6000) Q (F0 m 3541 ls1 [])) : W p l e R s m args below meth c H locs cells slots Q (F0 m 2315 ls []) := by
  obtain ⟨hF, hNc, hA1, hA2, hfl, hX, hbl, hbA, hL, hR⟩ := C
  obtain ⟨Sc, Sr, dq, cap, A, v1, v2, hJ, hc, hq⟩ := I
  have hx := hF.1
  have hb := hF.2.1
  have g5 : lRm5 rm_X5_swap := ⟨(Nat.le_of_ble_eq_true rfl), (Nat.le_of_ble_eq_true rfl), (Nat.le_of_ble_eq_true rfl), (Nat.le_of_ble_eq_true rfl)⟩
  obtain ⟨rm, k, c1, Sc', hs', hrm, hMet, hOK⟩ := lz_swap (D := D) (Y := Y) (yl := yl) (o := o1) (c0 := v1) hfl hc hq hn (xs (i + 1)) (xs (i + 2)) (xs (i + 3))
  refine g_aload_n hx hb dL_law_2315 rfl (lv_at hls 1 rfl) ?_
  refine l_arg (jj := 1) hx hb hX hbl hbA hJ.1.2.2.2.1 (lv_at hls 0 rfl) (lv_at hls 5 rfl) (by omega) hL dL_law_2316 dL_law_2317 dL_law_2319 (by decide) dL_law_2320 dL_law_2321 ?_
  refine l_arg (jj := 2) hx hb hX hbl hbA hJ.1.2.2.2.1 (lv_at hls 0 rfl) (lv_at hls 5 rfl) (by omega) hL dL_law_2322 dL_law_2323 dL_law_2325 (by decide) dL_law_2326 dL_law_2327 ?_
  refine l_arg (jj := 3) hx hb hX hbl hbA hJ.1.2.2.2.1 (lv_at hls 0 rfl) (lv_at hls 5 rfl) (by omega) hL dL_law_2328 dL_law_2329 dL_law_2331 (by decide) dL_law_2332 dL_law_2333 ?_
  refine g_aload_n hx hb dL_law_2334 rfl (lv_at hls 3 rfl) ?_
  refine l_callW (rest := []) hF hNc hA1 hJ hq.fre hMet kL_swap u908 u909 rfl hls.1 rfl (Nat.le_of_ble_eq_true rfl) dL_law_2335 (hrm.fit hR (Nat.le_of_ble_eq_true rfl)) (hrm.fit2 hf) (fun H1 locs1 z1 z2 J1 => ?_)
  obtain ⟨v, Sr', hs3, dq', cap', A', h5, hle, hk, hOk, hc', hq'⟩ := hOK H1.size z1
  refine lv_istore (i := 6) (lv' := (6, .int k) :: lLs bs b r o1 o2 i) hx hb dL_law_2338 hls (by decide) rfl (fun ls1 hl1 => ?_)
  refine g_aload_n hx hb dL_law_2340 rfl (lv_at hl1 3 rfl) ?_
  refine l_arg (jj := 1) hx hb hX hbl hbA J1.1.2.2.2.1 (lv_at hl1 1 rfl) (lv_at hl1 6 rfl) (by omega) hL dL_law_2341 dL_law_2342 dL_law_2344 (by decide) dL_law_2345 dL_law_2346 ?_
  refine l_arg (jj := 2) hx hb hX hbl hbA J1.1.2.2.2.1 (lv_at hl1 1 rfl) (lv_at hl1 6 rfl) (by omega) hL dL_law_2347 dL_law_2348 dL_law_2350 (by decide) dL_law_2351 dL_law_2352 ?_
  refine l_arg (jj := 3) hx hb hX hbl hbA J1.1.2.2.2.1 (lv_at hl1 1 rfl) (lv_at hl1 6 rfl) (by omega) hL dL_law_2353 dL_law_2354 dL_law_2356 (by decide) dL_law_2357 dL_law_2358 ?_
  obtain ⟨h6, rfl⟩ := rL_of h5
  refine l_callR (As := [.int (xs (i + 1)), .int (xs (i + 2)), .int (xs (i + 3))]) (rest := []) hF J1 hc'.fre (c_X5_swap h6) k_X5_swap u1446 u1447 u1448 rfl rfl hq.tag rfl hl1.1 rfl (Nat.le_of_ble_eq_true rfl) dL_law_2359 (g5.fit hR (Nat.le_of_ble_eq_true rfl)) (lRm5.fit2 hrm g5 hf) (fun H2 locs2 z3 z4 J2 => ?_)
  refine lv_istore (i := 7) (lv' := (7, .int v) :: (6, .int k) :: lLs bs b r o1 o2 i) hx hb dL_law_2362 hl1 (by decide) rfl (fun ls2 hl2 => ?_)
  refine l_thr hF J2 (hc'.mono z4).fre hq'.tag hk (lv_at hl2 4 rfl) (lv_at hl2 1 rfl) hl2.1 u1132 u1133 u1134 hR (lRm5.fit2 hrm g5 hf) dL_law_2364 dL_law_2365 dL_law_2368 dL_law_2370 (fun H3 locs3 z5 J3 => ?_)
  refine l_cmpI hF hA1 J3 (lv_at hl2 5 rfl) (lv_at hl2 1 rfl) (lv_at hl2 0 rfl) hOk dL_law_2375 dL_law_2377 dL_law_2380 dL_law_2381 dL_law_2382 dL_law_2383 dL_law_2385 dL_law_2386 dL_law_2387 dL_law_2392 (by decide) ?_
  refine W.widen (lRm5.fit3 (slots := slots) hrm g5).1 (lRm5.fit3 (cells := cells) hrm g5).2 (kk H3 locs3 ls2 ⟨Sc', Sr', dq', cap', A', c1, v2, J3, ?_, ?_⟩ (lv_sub hl2 [2, 3, 4, 5, 6, 7] rfl))
  · exact hc'.mono (by omega)
  · exact hq'.mono (by omega)
theorem lz_rotate {l : Launch} {D : va_G} {Y : Nat → ClassId} {Sc Sr : GS} {hs : Nat} {yl : ClassId} {o : Nat} {c0 : Value} {b r n cap : Nat} {dq : Nat → Nat} {A : AS} (hfl : l.stackTraces = false) (hc : Rc b n Sc hs A) (hq : Rq r dq cap Sr hs A) (hn : n ≤ 511) (x1 x2 : Int32) : lZ l yL_rotate (lWs yL_rotate cL_rotate 5 [(0, 10, 13, 13), (0, 10, 17, 15), (0, 10, 21, 71), (0, 10, 25, 17)]) [va_rf (some b), .int x1, .int x2, va_rf (some o)] D Y Sc hs .long yl o c0 b r (n + 1) (fun c v => c = .long v.toInt64) (fun hs2 => rL hs2 (f_X5_rotate Sr r x1 x2)) := by
  exact lZ_chg (lx := [1, 2, 3, 4]) (rm1 := rmL_rotate) (rm2 := rmLx_rotate) (g := fun v => .long v.toInt64) hc hn ⟨by decide, by decide⟩ ⟨(Nat.le_of_ble_eq_true rfl), (Nat.le_of_ble_eq_true rfl), (Nat.le_of_ble_eq_true rfl), (Nat.le_of_ble_eq_true rfl)⟩ ⟨(Nat.le_of_ble_eq_true rfl), (Nat.le_of_ble_eq_true rfl), (Nat.le_of_ble_eq_true rfl), (Nat.le_of_ble_eq_true rfl)⟩ (c_rotate hc (by omega) x1 x2) (fun hs2 h2 => r_rotate (hq.mono h2) hc.1 (by have := hc.2.1; omega) x1 x2) (fun v => rfl) (fun v S' e => cL_rotate_r e hc.tag) (fun x i e hi => cL_rotate_x hfl e hc.tag hi)
set_option maxHeartbeats 4000000 in
set_option maxRecDepth 100000 in
theorem lc_rotate {p : Program} {l : Launch} {e : Env} {R : Room} {s : State} {m : MethodId} {args : Array Value} {below : List Frame} {meth : Method} {c : Code} {H : Heap} {locs : List Loc} {cells slots : Nat} {Q : State → Prop} {ls : Array Slot} {D : va_G} {Y : Nat → ClassId} {Af : Nat → Prop} {rt : Option FieldType} {yl yd : ClassId} {o1 o2 b r n bs L i : Nat} {xs : Nat → Int32} (C : lCx p l s m args meth c rt D Y Af R yl yd bs L xs) (I : lInv D Y Af s.heap yl yd o1 o2 b r n H locs) (hn : n ≤ 511) (hi : i + 5 ≤ L) (hls : lv_has ls 9 (lLs bs b r o1 o2 i)) (hf : cells + 8 ≤ R.cells ∧ slots + 6000 ≤ R.slots)
    (kk : ∀ (H1 : Heap) (locs1 : List Loc) (ls1 : Array Slot), lInv D Y Af s.heap yl yd o1 o2 b r (n + 1) H1 locs1 → lv_has ls1 9 (lLs bs b r o1 o2 i) → W p l e R s m args below meth c H1 locs1 (cells + 8) (slots + 6000) Q (F0 m 3541 ls1 [])) : W p l e R s m args below meth c H locs cells slots Q (F0 m 2395 ls []) := by
  obtain ⟨hF, hNc, hA1, hA2, hfl, hX, hbl, hbA, hL, hR⟩ := C
  obtain ⟨Sc, Sr, dq, cap, A, v1, v2, hJ, hc, hq⟩ := I
  have hx := hF.1
  have hb := hF.2.1
  have g5 : lRm5 rm_X5_rotate := ⟨(Nat.le_of_ble_eq_true rfl), (Nat.le_of_ble_eq_true rfl), (Nat.le_of_ble_eq_true rfl), (Nat.le_of_ble_eq_true rfl)⟩
  obtain ⟨rm, k, c1, Sc', hs', hrm, hMet, hOK⟩ := lz_rotate (D := D) (Y := Y) (yl := yl) (o := o1) (c0 := v1) hfl hc hq hn (xs (i + 1)) (xs (i + 2))
  refine g_aload_n hx hb dL_law_2395 rfl (lv_at hls 1 rfl) ?_
  refine l_arg (jj := 1) hx hb hX hbl hbA hJ.1.2.2.2.1 (lv_at hls 0 rfl) (lv_at hls 5 rfl) (by omega) hL dL_law_2396 dL_law_2397 dL_law_2399 (by decide) dL_law_2400 dL_law_2401 ?_
  refine l_arg (jj := 2) hx hb hX hbl hbA hJ.1.2.2.2.1 (lv_at hls 0 rfl) (lv_at hls 5 rfl) (by omega) hL dL_law_2402 dL_law_2403 dL_law_2405 (by decide) dL_law_2406 dL_law_2407 ?_
  refine g_aload_n hx hb dL_law_2408 rfl (lv_at hls 3 rfl) ?_
  refine l_callW (rest := []) hF hNc hA1 hJ hq.fre hMet kL_rotate u916 u917 rfl hls.1 rfl (Nat.le_of_ble_eq_true rfl) dL_law_2409 (hrm.fit hR (Nat.le_of_ble_eq_true rfl)) (hrm.fit2 hf) (fun H1 locs1 z1 z2 J1 => ?_)
  obtain ⟨v, Sr', hs3, dq', cap', A', h5, hle, hk, hOk, hc', hq'⟩ := hOK H1.size z1
  refine lv_istore (i := 6) (lv' := (6, .int k) :: lLs bs b r o1 o2 i) hx hb dL_law_2412 hls (by decide) rfl (fun ls1 hl1 => ?_)
  refine g_aload_n hx hb dL_law_2414 rfl (lv_at hl1 3 rfl) ?_
  refine l_arg (jj := 1) hx hb hX hbl hbA J1.1.2.2.2.1 (lv_at hl1 1 rfl) (lv_at hl1 6 rfl) (by omega) hL dL_law_2415 dL_law_2416 dL_law_2418 (by decide) dL_law_2419 dL_law_2420 ?_
  refine l_arg (jj := 2) hx hb hX hbl hbA J1.1.2.2.2.1 (lv_at hl1 1 rfl) (lv_at hl1 6 rfl) (by omega) hL dL_law_2421 dL_law_2422 dL_law_2424 (by decide) dL_law_2425 dL_law_2426 ?_
  obtain ⟨h6, rfl⟩ := rL_of h5
  refine l_callR (As := [.int (xs (i + 1)), .int (xs (i + 2))]) (rest := []) hF J1 hc'.fre (c_X5_rotate h6) k_X5_rotate u1450 u1451 u1452 rfl rfl hq.tag rfl hl1.1 rfl (Nat.le_of_ble_eq_true rfl) dL_law_2427 (g5.fit hR (Nat.le_of_ble_eq_true rfl)) (lRm5.fit2 hrm g5 hf) (fun H2 locs2 z3 z4 J2 => ?_)
  refine lv_istore (i := 7) (lv' := (7, .int v) :: (6, .int k) :: lLs bs b r o1 o2 i) hx hb dL_law_2430 hl1 (by decide) rfl (fun ls2 hl2 => ?_)
  refine l_thr hF J2 (hc'.mono z4).fre hq'.tag hk (lv_at hl2 4 rfl) (lv_at hl2 1 rfl) hl2.1 u1132 u1133 u1134 hR (lRm5.fit2 hrm g5 hf) dL_law_2432 dL_law_2433 dL_law_2436 dL_law_2438 (fun H3 locs3 z5 J3 => ?_)
  refine l_cmpI hF hA1 J3 (lv_at hl2 5 rfl) (lv_at hl2 1 rfl) (lv_at hl2 0 rfl) hOk dL_law_2443 dL_law_2445 dL_law_2448 dL_law_2449 dL_law_2450 dL_law_2451 dL_law_2453 dL_law_2454 dL_law_2455 dL_law_2460 (by decide) ?_
  refine W.widen (lRm5.fit3 (slots := slots) hrm g5).1 (lRm5.fit3 (cells := cells) hrm g5).2 (kk H3 locs3 ls2 ⟨Sc', Sr', dq', cap', A', c1, v2, J3, ?_, ?_⟩ (lv_sub hl2 [2, 3, 4, 5, 6, 7] rfl))
  · exact hc'.mono (by omega)
  · exact hq'.mono (by omega)
theorem lz_fill {l : Launch} {D : va_G} {Y : Nat → ClassId} {Sc Sr : GS} {hs : Nat} {yl : ClassId} {o : Nat} {c0 : Value} {b r n cap : Nat} {dq : Nat → Nat} {A : AS} (hfl : l.stackTraces = false) (hc : Rc b n Sc hs A) (hq : Rq r dq cap Sr hs A) (hn : n ≤ 511) (x1 x2 x3 : Int32) : lZ l yL_fill (lWs yL_fill cL_fill 6 [(0, 12, 15, 13), (0, 12, 19, 15), (0, 12, 23, 71), (0, 12, 27, 17)]) [va_rf (some b), .int x1, .int x2, .int x3, va_rf (some o)] D Y Sc hs .long yl o c0 b r (n + 1) (fun c v => c = .long v.toInt64) (fun hs2 => rL hs2 (f_X5_fill Sr r x1 x2 x3)) := by
  exact lZ_chg (lx := [1, 2, 3, 4]) (rm1 := rmL_fill) (rm2 := rmLx_fill) (g := fun v => .long v.toInt64) hc hn ⟨by decide, by decide⟩ ⟨(Nat.le_of_ble_eq_true rfl), (Nat.le_of_ble_eq_true rfl), (Nat.le_of_ble_eq_true rfl), (Nat.le_of_ble_eq_true rfl)⟩ ⟨(Nat.le_of_ble_eq_true rfl), (Nat.le_of_ble_eq_true rfl), (Nat.le_of_ble_eq_true rfl), (Nat.le_of_ble_eq_true rfl)⟩ (c_fill hc (by omega) x1 x2 x3) (fun hs2 h2 => r_fill (hq.mono h2) hc.1 (by have := hc.2.1; omega) x1 x2 x3) (fun v => rfl) (fun v S' e => cL_fill_r e hc.tag) (fun x i e hi => cL_fill_x hfl e hc.tag hi)
set_option maxHeartbeats 4000000 in
set_option maxRecDepth 100000 in
theorem lc_fill {p : Program} {l : Launch} {e : Env} {R : Room} {s : State} {m : MethodId} {args : Array Value} {below : List Frame} {meth : Method} {c : Code} {H : Heap} {locs : List Loc} {cells slots : Nat} {Q : State → Prop} {ls : Array Slot} {D : va_G} {Y : Nat → ClassId} {Af : Nat → Prop} {rt : Option FieldType} {yl yd : ClassId} {o1 o2 b r n bs L i : Nat} {xs : Nat → Int32} (C : lCx p l s m args meth c rt D Y Af R yl yd bs L xs) (I : lInv D Y Af s.heap yl yd o1 o2 b r n H locs) (hn : n ≤ 511) (hi : i + 5 ≤ L) (hls : lv_has ls 9 (lLs bs b r o1 o2 i)) (hf : cells + 8 ≤ R.cells ∧ slots + 6000 ≤ R.slots)
    (kk : ∀ (H1 : Heap) (locs1 : List Loc) (ls1 : Array Slot), lInv D Y Af s.heap yl yd o1 o2 b r (n + 1) H1 locs1 → lv_has ls1 9 (lLs bs b r o1 o2 i) → W p l e R s m args below meth c H1 locs1 (cells + 8) (slots + 6000) Q (F0 m 3541 ls1 [])) : W p l e R s m args below meth c H locs cells slots Q (F0 m 2463 ls []) := by
  obtain ⟨hF, hNc, hA1, hA2, hfl, hX, hbl, hbA, hL, hR⟩ := C
  obtain ⟨Sc, Sr, dq, cap, A, v1, v2, hJ, hc, hq⟩ := I
  have hx := hF.1
  have hb := hF.2.1
  have g5 : lRm5 rm_X5_fill := ⟨(Nat.le_of_ble_eq_true rfl), (Nat.le_of_ble_eq_true rfl), (Nat.le_of_ble_eq_true rfl), (Nat.le_of_ble_eq_true rfl)⟩
  obtain ⟨rm, k, c1, Sc', hs', hrm, hMet, hOK⟩ := lz_fill (D := D) (Y := Y) (yl := yl) (o := o1) (c0 := v1) hfl hc hq hn (xs (i + 1)) (xs (i + 2)) (xs (i + 3))
  refine g_aload_n hx hb dL_law_2463 rfl (lv_at hls 1 rfl) ?_
  refine l_arg (jj := 1) hx hb hX hbl hbA hJ.1.2.2.2.1 (lv_at hls 0 rfl) (lv_at hls 5 rfl) (by omega) hL dL_law_2464 dL_law_2465 dL_law_2467 (by decide) dL_law_2468 dL_law_2469 ?_
  refine l_arg (jj := 2) hx hb hX hbl hbA hJ.1.2.2.2.1 (lv_at hls 0 rfl) (lv_at hls 5 rfl) (by omega) hL dL_law_2470 dL_law_2471 dL_law_2473 (by decide) dL_law_2474 dL_law_2475 ?_
  refine l_arg (jj := 3) hx hb hX hbl hbA hJ.1.2.2.2.1 (lv_at hls 0 rfl) (lv_at hls 5 rfl) (by omega) hL dL_law_2476 dL_law_2477 dL_law_2479 (by decide) dL_law_2480 dL_law_2481 ?_
  refine g_aload_n hx hb dL_law_2482 rfl (lv_at hls 3 rfl) ?_
  refine l_callW (rest := []) hF hNc hA1 hJ hq.fre hMet kL_fill u924 u925 rfl hls.1 rfl (Nat.le_of_ble_eq_true rfl) dL_law_2483 (hrm.fit hR (Nat.le_of_ble_eq_true rfl)) (hrm.fit2 hf) (fun H1 locs1 z1 z2 J1 => ?_)
  obtain ⟨v, Sr', hs3, dq', cap', A', h5, hle, hk, hOk, hc', hq'⟩ := hOK H1.size z1
  refine lv_istore (i := 6) (lv' := (6, .int k) :: lLs bs b r o1 o2 i) hx hb dL_law_2486 hls (by decide) rfl (fun ls1 hl1 => ?_)
  refine g_aload_n hx hb dL_law_2488 rfl (lv_at hl1 3 rfl) ?_
  refine l_arg (jj := 1) hx hb hX hbl hbA J1.1.2.2.2.1 (lv_at hl1 1 rfl) (lv_at hl1 6 rfl) (by omega) hL dL_law_2489 dL_law_2490 dL_law_2492 (by decide) dL_law_2493 dL_law_2494 ?_
  refine l_arg (jj := 2) hx hb hX hbl hbA J1.1.2.2.2.1 (lv_at hl1 1 rfl) (lv_at hl1 6 rfl) (by omega) hL dL_law_2495 dL_law_2496 dL_law_2498 (by decide) dL_law_2499 dL_law_2500 ?_
  refine l_arg (jj := 3) hx hb hX hbl hbA J1.1.2.2.2.1 (lv_at hl1 1 rfl) (lv_at hl1 6 rfl) (by omega) hL dL_law_2501 dL_law_2502 dL_law_2504 (by decide) dL_law_2505 dL_law_2506 ?_
  obtain ⟨h6, rfl⟩ := rL_of h5
  refine l_callR (As := [.int (xs (i + 1)), .int (xs (i + 2)), .int (xs (i + 3))]) (rest := []) hF J1 hc'.fre (c_X5_fill h6) k_X5_fill u1454 u1455 u1456 rfl rfl hq.tag rfl hl1.1 rfl (Nat.le_of_ble_eq_true rfl) dL_law_2507 (g5.fit hR (Nat.le_of_ble_eq_true rfl)) (lRm5.fit2 hrm g5 hf) (fun H2 locs2 z3 z4 J2 => ?_)
  refine lv_istore (i := 7) (lv' := (7, .int v) :: (6, .int k) :: lLs bs b r o1 o2 i) hx hb dL_law_2510 hl1 (by decide) rfl (fun ls2 hl2 => ?_)
  refine l_thr hF J2 (hc'.mono z4).fre hq'.tag hk (lv_at hl2 4 rfl) (lv_at hl2 1 rfl) hl2.1 u1132 u1133 u1134 hR (lRm5.fit2 hrm g5 hf) dL_law_2512 dL_law_2513 dL_law_2516 dL_law_2518 (fun H3 locs3 z5 J3 => ?_)
  refine l_cmpI hF hA1 J3 (lv_at hl2 5 rfl) (lv_at hl2 1 rfl) (lv_at hl2 0 rfl) hOk dL_law_2523 dL_law_2525 dL_law_2528 dL_law_2529 dL_law_2530 dL_law_2531 dL_law_2533 dL_law_2534 dL_law_2535 dL_law_2540 (by decide) ?_
  refine W.widen (lRm5.fit3 (slots := slots) hrm g5).1 (lRm5.fit3 (cells := cells) hrm g5).2 (kk H3 locs3 ls2 ⟨Sc', Sr', dq', cap', A', c1, v2, J3, ?_, ?_⟩ (lv_sub hl2 [2, 3, 4, 5, 6, 7] rfl))
  · exact hc'.mono (by omega)
  · exact hq'.mono (by omega)
theorem lz_rowIn {l : Launch} {D : va_G} {Y : Nat → ClassId} {Sc Sr : GS} {hs : Nat} {yl : ClassId} {o : Nat} {c0 : Value} {b r n cap : Nat} {dq : Nat → Nat} {A : AS} (hfl : l.stackTraces = false) (hc : Rc b n Sc hs A) (hq : Rq r dq cap Sr hs A) (hn : n ≤ 511) (x1 x2 x3 : Int32) : lZ l yL_rowIn (lWs yL_rowIn cL_rowIn 6 [(0, 12, 15, 13), (0, 12, 19, 15)]) [va_rf (some b), .int x1, .int x2, .int x3, va_rf (some o)] D Y Sc hs .long yl o c0 b r (n + 1) (fun c v => c = .long v.toInt64) (fun hs2 => rL hs2 (f_X5_rowIn Sr r x1 x2 x3)) := by
  obtain ⟨hw, hp, pa, ch, hr⟩ := id hc
  exact lZ_ask (lx := [1, 2]) (rm1 := rmL_rowIn) (rm2 := rmLx_rowIn) (g := fun v => .long v.toInt64) hc hq hn ⟨by decide, by decide⟩ ⟨(Nat.le_of_ble_eq_true rfl), (Nat.le_of_ble_eq_true rfl), (Nat.le_of_ble_eq_true rfl), (Nat.le_of_ble_eq_true rfl)⟩ ⟨(Nat.le_of_ble_eq_true rfl), (Nat.le_of_ble_eq_true rfl), (Nat.le_of_ble_eq_true rfl), (Nat.le_of_ble_eq_true rfl)⟩ (c_rowIn hr hw x1 x2 x3) (r_rowIn hq hw x1 x2 x3) (hz_same (V := Int32) (g := fun v => .long v.toInt64) (Ok := fun c v => c = .long v.toInt64) fun v _ => rfl) (fun v e => cL_rowIn_r e hc.tag) (fun x i e hi => cL_rowIn_x hfl e hc.tag hi)
set_option maxHeartbeats 4000000 in
set_option maxRecDepth 100000 in
theorem lc_rowIn {p : Program} {l : Launch} {e : Env} {R : Room} {s : State} {m : MethodId} {args : Array Value} {below : List Frame} {meth : Method} {c : Code} {H : Heap} {locs : List Loc} {cells slots : Nat} {Q : State → Prop} {ls : Array Slot} {D : va_G} {Y : Nat → ClassId} {Af : Nat → Prop} {rt : Option FieldType} {yl yd : ClassId} {o1 o2 b r n bs L i : Nat} {xs : Nat → Int32} (C : lCx p l s m args meth c rt D Y Af R yl yd bs L xs) (I : lInv D Y Af s.heap yl yd o1 o2 b r n H locs) (hn : n ≤ 511) (hi : i + 5 ≤ L) (hls : lv_has ls 9 (lLs bs b r o1 o2 i)) (hf : cells + 8 ≤ R.cells ∧ slots + 6000 ≤ R.slots)
    (kk : ∀ (H1 : Heap) (locs1 : List Loc) (ls1 : Array Slot), lInv D Y Af s.heap yl yd o1 o2 b r (n + 1) H1 locs1 → lv_has ls1 9 (lLs bs b r o1 o2 i) → W p l e R s m args below meth c H1 locs1 (cells + 8) (slots + 6000) Q (F0 m 3541 ls1 [])) : W p l e R s m args below meth c H locs cells slots Q (F0 m 2543 ls []) := by
  obtain ⟨hF, hNc, hA1, hA2, hfl, hX, hbl, hbA, hL, hR⟩ := C
  obtain ⟨Sc, Sr, dq, cap, A, v1, v2, hJ, hc, hq⟩ := I
  have hx := hF.1
  have hb := hF.2.1
  have g5 : lRm5 rm_X5_rowIn := ⟨(Nat.le_of_ble_eq_true rfl), (Nat.le_of_ble_eq_true rfl), (Nat.le_of_ble_eq_true rfl), (Nat.le_of_ble_eq_true rfl)⟩
  obtain ⟨rm, k, c1, Sc', hs', hrm, hMet, hOK⟩ := lz_rowIn (D := D) (Y := Y) (yl := yl) (o := o1) (c0 := v1) hfl hc hq hn (xs (i + 1)) (xs (i + 2)) (bz (xs (i + 3)))
  refine g_aload_n hx hb dL_law_2543 rfl (lv_at hls 1 rfl) ?_
  refine l_arg (jj := 1) hx hb hX hbl hbA hJ.1.2.2.2.1 (lv_at hls 0 rfl) (lv_at hls 5 rfl) (by omega) hL dL_law_2544 dL_law_2545 dL_law_2547 (by decide) dL_law_2548 dL_law_2549 ?_
  refine l_arg (jj := 2) hx hb hX hbl hbA hJ.1.2.2.2.1 (lv_at hls 0 rfl) (lv_at hls 5 rfl) (by omega) hL dL_law_2550 dL_law_2551 dL_law_2553 (by decide) dL_law_2554 dL_law_2555 ?_
  refine l_arg (jj := 3) hx hb hX hbl hbA hJ.1.2.2.2.1 (lv_at hls 0 rfl) (lv_at hls 5 rfl) (by omega) hL dL_law_2556 dL_law_2557 dL_law_2559 (by decide) dL_law_2560 dL_law_2561 ?_
  refine l_bool hx hb dL_law_2562 dL_law_2565 dL_law_2566 dL_law_2569 ?_
  refine g_aload_n hx hb dL_law_2570 rfl (lv_at hls 3 rfl) ?_
  refine l_callW (rest := []) hF hNc hA1 hJ hq.fre hMet kL_rowIn u931 u932 rfl hls.1 rfl (Nat.le_of_ble_eq_true rfl) dL_law_2571 (hrm.fit hR (Nat.le_of_ble_eq_true rfl)) (hrm.fit2 hf) (fun H1 locs1 z1 z2 J1 => ?_)
  obtain ⟨v, Sr', hs3, dq', cap', A', h5, hle, hk, hOk, hc', hq'⟩ := hOK H1.size z1
  refine lv_istore (i := 6) (lv' := (6, .int k) :: lLs bs b r o1 o2 i) hx hb dL_law_2574 hls (by decide) rfl (fun ls1 hl1 => ?_)
  refine g_aload_n hx hb dL_law_2576 rfl (lv_at hl1 3 rfl) ?_
  refine l_arg (jj := 1) hx hb hX hbl hbA J1.1.2.2.2.1 (lv_at hl1 1 rfl) (lv_at hl1 6 rfl) (by omega) hL dL_law_2577 dL_law_2578 dL_law_2580 (by decide) dL_law_2581 dL_law_2582 ?_
  refine l_arg (jj := 2) hx hb hX hbl hbA J1.1.2.2.2.1 (lv_at hl1 1 rfl) (lv_at hl1 6 rfl) (by omega) hL dL_law_2583 dL_law_2584 dL_law_2586 (by decide) dL_law_2587 dL_law_2588 ?_
  refine l_arg (jj := 3) hx hb hX hbl hbA J1.1.2.2.2.1 (lv_at hl1 1 rfl) (lv_at hl1 6 rfl) (by omega) hL dL_law_2589 dL_law_2590 dL_law_2592 (by decide) dL_law_2593 dL_law_2594 ?_
  refine l_bool hx hb dL_law_2595 dL_law_2598 dL_law_2599 dL_law_2602 ?_
  obtain ⟨h6, rfl⟩ := rL_of h5
  refine l_callR (As := [.int (xs (i + 1)), .int (xs (i + 2)), .int (bz (xs (i + 3)))]) (rest := []) hF J1 hc'.fre (c_X5_rowIn h6) k_X5_rowIn u1458 u1459 u1460 rfl rfl hq.tag rfl hl1.1 rfl (Nat.le_of_ble_eq_true rfl) dL_law_2603 (g5.fit hR (Nat.le_of_ble_eq_true rfl)) (lRm5.fit2 hrm g5 hf) (fun H2 locs2 z3 z4 J2 => ?_)
  refine lv_istore (i := 7) (lv' := (7, .int v) :: (6, .int k) :: lLs bs b r o1 o2 i) hx hb dL_law_2606 hl1 (by decide) rfl (fun ls2 hl2 => ?_)
  refine l_thr hF J2 (hc'.mono z4).fre hq'.tag hk (lv_at hl2 4 rfl) (lv_at hl2 1 rfl) hl2.1 u1132 u1133 u1134 hR (lRm5.fit2 hrm g5 hf) dL_law_2608 dL_law_2609 dL_law_2612 dL_law_2614 (fun H3 locs3 z5 J3 => ?_)
  refine l_cmpI hF hA1 J3 (lv_at hl2 5 rfl) (lv_at hl2 1 rfl) (lv_at hl2 0 rfl) hOk dL_law_2619 dL_law_2621 dL_law_2624 dL_law_2625 dL_law_2626 dL_law_2627 dL_law_2629 dL_law_2630 dL_law_2631 dL_law_2636 (by decide) ?_
  refine W.widen (lRm5.fit3 (slots := slots) hrm g5).1 (lRm5.fit3 (cells := cells) hrm g5).2 (kk H3 locs3 ls2 ⟨Sc', Sr', dq', cap', A', c1, v2, J3, ?_, ?_⟩ (lv_sub hl2 [2, 3, 4, 5, 6, 7] rfl))
  · exact hc'.mono (by omega)
  · exact hq'.mono (by omega)
theorem lz_often {l : Launch} {D : va_G} {Y : Nat → ClassId} {Sc Sr : GS} {hs : Nat} {yl : ClassId} {o : Nat} {c0 : Value} {b r n cap : Nat} {dq : Nat → Nat} {A : AS} (hfl : l.stackTraces = false) (hc : Rc b n Sc hs A) (hq : Rq r dq cap Sr hs A) (hn : n ≤ 511) (x1 x2 x3 : Int32) : lZ l yL_often (lWs yL_often cL_often 6 [(0, 12, 15, 13), (0, 12, 19, 15)]) [va_rf (some b), .int x1, .int x2, .int x3, va_rf (some o)] D Y Sc hs .long yl o c0 b r (n + 1) (fun c v => c = .long v.toInt64) (fun hs2 => rL hs2 (f_X5_often Sr r x1 x2 x3)) := by
  obtain ⟨hw, hp, pa, ch, hr⟩ := id hc
  exact lZ_ask (lx := [1, 2]) (rm1 := rmL_often) (rm2 := rmLx_often) (g := fun v => .long v.toInt64) hc hq hn ⟨by decide, by decide⟩ ⟨(Nat.le_of_ble_eq_true rfl), (Nat.le_of_ble_eq_true rfl), (Nat.le_of_ble_eq_true rfl), (Nat.le_of_ble_eq_true rfl)⟩ ⟨(Nat.le_of_ble_eq_true rfl), (Nat.le_of_ble_eq_true rfl), (Nat.le_of_ble_eq_true rfl), (Nat.le_of_ble_eq_true rfl)⟩ (c_often hr hw x1 x2 x3) (r_often hq hw x1 x2 x3) (hz_same (V := Int32) (g := fun v => .long v.toInt64) (Ok := fun c v => c = .long v.toInt64) fun v _ => rfl) (fun v e => cL_often_r e hc.tag) (fun x i e hi => cL_often_x hfl e hc.tag hi)
set_option maxHeartbeats 4000000 in
set_option maxRecDepth 100000 in
theorem lc_often {p : Program} {l : Launch} {e : Env} {R : Room} {s : State} {m : MethodId} {args : Array Value} {below : List Frame} {meth : Method} {c : Code} {H : Heap} {locs : List Loc} {cells slots : Nat} {Q : State → Prop} {ls : Array Slot} {D : va_G} {Y : Nat → ClassId} {Af : Nat → Prop} {rt : Option FieldType} {yl yd : ClassId} {o1 o2 b r n bs L i : Nat} {xs : Nat → Int32} (C : lCx p l s m args meth c rt D Y Af R yl yd bs L xs) (I : lInv D Y Af s.heap yl yd o1 o2 b r n H locs) (hn : n ≤ 511) (hi : i + 5 ≤ L) (hls : lv_has ls 9 (lLs bs b r o1 o2 i)) (hf : cells + 8 ≤ R.cells ∧ slots + 6000 ≤ R.slots)
    (kk : ∀ (H1 : Heap) (locs1 : List Loc) (ls1 : Array Slot), lInv D Y Af s.heap yl yd o1 o2 b r (n + 1) H1 locs1 → lv_has ls1 9 (lLs bs b r o1 o2 i) → W p l e R s m args below meth c H1 locs1 (cells + 8) (slots + 6000) Q (F0 m 3541 ls1 [])) : W p l e R s m args below meth c H locs cells slots Q (F0 m 2639 ls []) := by
  obtain ⟨hF, hNc, hA1, hA2, hfl, hX, hbl, hbA, hL, hR⟩ := C
  obtain ⟨Sc, Sr, dq, cap, A, v1, v2, hJ, hc, hq⟩ := I
  have hx := hF.1
  have hb := hF.2.1
  have g5 : lRm5 rm_X5_often := ⟨(Nat.le_of_ble_eq_true rfl), (Nat.le_of_ble_eq_true rfl), (Nat.le_of_ble_eq_true rfl), (Nat.le_of_ble_eq_true rfl)⟩
  obtain ⟨rm, k, c1, Sc', hs', hrm, hMet, hOK⟩ := lz_often (D := D) (Y := Y) (yl := yl) (o := o1) (c0 := v1) hfl hc hq hn (xs (i + 1)) (xs (i + 2)) (xs (i + 3))
  refine g_aload_n hx hb dL_law_2639 rfl (lv_at hls 1 rfl) ?_
  refine l_arg (jj := 1) hx hb hX hbl hbA hJ.1.2.2.2.1 (lv_at hls 0 rfl) (lv_at hls 5 rfl) (by omega) hL dL_law_2640 dL_law_2641 dL_law_2643 (by decide) dL_law_2644 dL_law_2645 ?_
  refine l_arg (jj := 2) hx hb hX hbl hbA hJ.1.2.2.2.1 (lv_at hls 0 rfl) (lv_at hls 5 rfl) (by omega) hL dL_law_2646 dL_law_2647 dL_law_2649 (by decide) dL_law_2650 dL_law_2651 ?_
  refine l_arg (jj := 3) hx hb hX hbl hbA hJ.1.2.2.2.1 (lv_at hls 0 rfl) (lv_at hls 5 rfl) (by omega) hL dL_law_2652 dL_law_2653 dL_law_2655 (by decide) dL_law_2656 dL_law_2657 ?_
  refine g_aload_n hx hb dL_law_2658 rfl (lv_at hls 3 rfl) ?_
  refine l_callW (rest := []) hF hNc hA1 hJ hq.fre hMet kL_often u939 u940 rfl hls.1 rfl (Nat.le_of_ble_eq_true rfl) dL_law_2659 (hrm.fit hR (Nat.le_of_ble_eq_true rfl)) (hrm.fit2 hf) (fun H1 locs1 z1 z2 J1 => ?_)
  obtain ⟨v, Sr', hs3, dq', cap', A', h5, hle, hk, hOk, hc', hq'⟩ := hOK H1.size z1
  refine lv_istore (i := 6) (lv' := (6, .int k) :: lLs bs b r o1 o2 i) hx hb dL_law_2662 hls (by decide) rfl (fun ls1 hl1 => ?_)
  refine g_aload_n hx hb dL_law_2664 rfl (lv_at hl1 3 rfl) ?_
  refine l_arg (jj := 1) hx hb hX hbl hbA J1.1.2.2.2.1 (lv_at hl1 1 rfl) (lv_at hl1 6 rfl) (by omega) hL dL_law_2665 dL_law_2666 dL_law_2668 (by decide) dL_law_2669 dL_law_2670 ?_
  refine l_arg (jj := 2) hx hb hX hbl hbA J1.1.2.2.2.1 (lv_at hl1 1 rfl) (lv_at hl1 6 rfl) (by omega) hL dL_law_2671 dL_law_2672 dL_law_2674 (by decide) dL_law_2675 dL_law_2676 ?_
  refine l_arg (jj := 3) hx hb hX hbl hbA J1.1.2.2.2.1 (lv_at hl1 1 rfl) (lv_at hl1 6 rfl) (by omega) hL dL_law_2677 dL_law_2678 dL_law_2680 (by decide) dL_law_2681 dL_law_2682 ?_
  obtain ⟨h6, rfl⟩ := rL_of h5
  refine l_callR (As := [.int (xs (i + 1)), .int (xs (i + 2)), .int (xs (i + 3))]) (rest := []) hF J1 hc'.fre (c_X5_often h6) k_X5_often u1466 u1467 u1468 rfl rfl hq.tag rfl hl1.1 rfl (Nat.le_of_ble_eq_true rfl) dL_law_2683 (g5.fit hR (Nat.le_of_ble_eq_true rfl)) (lRm5.fit2 hrm g5 hf) (fun H2 locs2 z3 z4 J2 => ?_)
  refine lv_istore (i := 7) (lv' := (7, .int v) :: (6, .int k) :: lLs bs b r o1 o2 i) hx hb dL_law_2686 hl1 (by decide) rfl (fun ls2 hl2 => ?_)
  refine l_thr hF J2 (hc'.mono z4).fre hq'.tag hk (lv_at hl2 4 rfl) (lv_at hl2 1 rfl) hl2.1 u1132 u1133 u1134 hR (lRm5.fit2 hrm g5 hf) dL_law_2688 dL_law_2689 dL_law_2692 dL_law_2694 (fun H3 locs3 z5 J3 => ?_)
  refine l_cmpI hF hA1 J3 (lv_at hl2 5 rfl) (lv_at hl2 1 rfl) (lv_at hl2 0 rfl) hOk dL_law_2699 dL_law_2701 dL_law_2704 dL_law_2705 dL_law_2706 dL_law_2707 dL_law_2709 dL_law_2710 dL_law_2711 dL_law_2716 (by decide) ?_
  refine W.widen (lRm5.fit3 (slots := slots) hrm g5).1 (lRm5.fit3 (cells := cells) hrm g5).2 (kk H3 locs3 ls2 ⟨Sc', Sr', dq', cap', A', c1, v2, J3, ?_, ?_⟩ (lv_sub hl2 [2, 3, 4, 5, 6, 7] rfl))
  · exact hc'.mono (by omega)
  · exact hq'.mono (by omega)
