/-! the law's stretches: an argument out of the script, 'thrown' compared, the answers compared -/
def bz (x : Int32) : Int32 := if x = 0 then 0 else 1
def bzL (x : Int32) : Int64 := if x = 0 then 0 else 1
def chz (x : Int32) : Int32 := (x.toUInt32 % 65536).toInt32
theorem lc0 (x : Int64) : (if x > x then (1 : Int32) else if x = x then 0 else -1) = 0 := by
  rw [if_neg (fun z => Int64.lt_irrefl z), if_pos rfl]
section LawRows
variable {p : Program} {l : Launch} {e : Env} {R : Room} {s : State} {m : MethodId} {args : Array Value} {below : List Frame} {meth : Method} {c : Code} {H : Heap} {locs : List Loc} {cells slots : Nat} {Q : State → Prop}
variable {cc : ByteArray} {pc : Nat} {ls : Array Slot} {rest st0 : List Value} {D : va_G} {Y : Nat → ClassId} {A : Nat → Prop} {own : String} {nL : Nat} {rt : Option FieldType} {H0 : Heap} {S S' Sc Sr Sc' : GS} {hs hs' : Nat} {yl yd : ClassId} {o1 o2 : Nat} {v1 v2 w1 : Value} {b L : Nat} {xs : Nat → Int32}
theorem l_arg (hx : p.tables.exec = Jvm.exec) (hb : c.code = cc) (hX : va_X b L xs s H0) (hbl : b < H0.size) (hbA : ¬ A b) (hS : va_S A H0 H locs) (h0 : ls[0]? = some (.val (va_rf (some b)))) {i jj : Nat} (h5 : ls[5]? = some (.val (.int (nI i)))) (hj : i + jj < L) (hL : L ≤ 2560)
    (d0 : decode cc pc = .ok (.aload_n 0, 1)) (d1 : decode cc (pc + 1) = .ok (.iload 5, 2)) {n : Int} (d3 : decode cc (pc + 1 + 2) = .ok (.iconst n, 1)) (hn : Int32.ofInt n = nI jj) (d4 : decode cc (pc + 1 + 2 + 1) = .ok (.iadd, 1)) (d5 : decode cc (pc + 1 + 2 + 1 + 1) = .ok (.iaload, 1))
    (kk : W p l e R s m args below meth c H locs cells slots Q (F0 m (pc + 6) ls (.int (xs (i + jj)) :: rest))) : W p l e R s m args below meth c H locs cells slots Q (F0 m pc ls rest) := by
  refine g_aload_n hx hb d0 rfl h0 ?_
  refine lv_iload hx hb d1 h5 ?_
  refine lv_iconst (v := nI jj) hx hb d3 hn ?_
  refine lv_iadd hx hb d4 ?_
  rw [nI_add]
  have hc : (nI (i + jj)).toNatClampNeg = i + jj := nI_clamp (by omega)
  refine va_sld hx hb hX hbl hbA hS (i := nI (i + jj)) (by rw [vp_in_iff, nI_toInt (by omega)]; omega) d5 ?_
  rw [hc]
  exact kk
theorem l_bool (hx : p.tables.exec = Jvm.exec) (hb : c.code = cc) {x : Int32} (d0 : decode cc pc = .ok (.ifCond .eq 7, 3)) (d3 : decode cc (pc + 3) = .ok (.iconst 1, 1)) (d4 : decode cc (pc + 3 + 1) = .ok (.goto 4, 3)) (d7 : decode cc (pc + 7) = .ok (.iconst 0, 1))
    (kk : W p l e R s m args below meth c H locs cells slots Q (F0 m (pc + 8) ls (.int (bz x) :: rest))) : W p l e R s m args below meth c H locs cells slots Q (F0 m pc ls (.int x :: rest)) := by
  refine lv_if_eq (tgt := pc + 7) hx hb d0 (by omega) (fun h => ?_) (fun h => ?_)
  · refine lv_iconst (v := 0) hx hb d7 (by decide) ?_
    have e : bz x = 0 := if_pos h
    rw [e] at kk
    exact kk
  · refine lv_iconst (v := 1) hx hb d3 (by decide) ?_
    refine lv_goto (tgt := pc + 8) hx hb d4 (by omega) ?_
    have e : bz x = 1 := if_neg h
    rw [e] at kk
    exact kk
/-- 'm.thrown() != k' -/
theorem l_thr (hF : gF p s m args meth c RL code nL rt D Y A) (hJ : lJ D Y A s.heap yl yd o1 o2 Sc Sr v1 v2 H locs) (hfr : fre Sc H.size) {r : Nat} {k : Int32} (hT : gT Sr r = 6) (hk : gI Sr r 19 = k) (h2 : ls[2]? = some (.val (va_rf (some r)))) (h6 : ls[6]? = some (.val (.int k))) (hsize : ls.size = nL) (hl : Cond.methodLink RL 175 yX5_thrown ∈ aw) (hin : Cond.instanceMethod yX5_thrown ∈ aw) (hse : Cond.selects RX5 yX5_thrown yX5_thrown ∈ aw)
    (hR : 22 ≤ R.frames ∧ 10948 ≤ R.locals) (hf : cells ≤ R.cells ∧ slots ≤ R.slots) (d0 : decode code pc = .ok (.aload_n 2, 1)) (d1 : decode code (pc + 1) = .ok (.invokevirtual 175, 3)) (d4 : decode code (pc + 1 + 3) = .ok (.iload 6, 2)) (d6 : decode code (pc + 1 + 3 + 2) = .ok (.if_icmp .eq 5, 3))
    (kk : ∀ (H1 : Heap) (locs1 : List Loc), H1.size = H.size → lJ D Y A s.heap yl yd o1 o2 Sc Sr v1 v2 H1 locs1 → W p l e R s m args below meth c H1 locs1 cells slots Q (F0 m (pc + 11) ls [])) : W p l e R s m args below meth c H locs cells slots Q (F0 m pc ls []) := by
  have hx := hF.1
  have hb := hF.2.1
  refine g_aload_n hx hb d0 rfl h2 ?_
  refine l_callR (As := []) (rest := []) hF hJ hfr (c_X5_thrown (f_thrown hT)) k_X5_thrown hl hin hse rfl rfl hT rfl hsize rfl (Nat.le_of_ble_eq_true rfl) d1 ⟨Nat.le_trans (Nat.le_of_ble_eq_true rfl) hR.1, Nat.le_trans (Nat.le_of_ble_eq_true rfl) hR.2⟩ hf (fun H1 locs1 z1 _ J1 => ?_)
  refine lv_iload hx hb d4 h6 ?_
  refine lv_icmp_eq (tgt := pc + 11) hx hb d6 (by omega) (fun _ => ?_) (fun h => absurd hk h)
  exact kk H1 locs1 z1 J1
theorem l_cmpI (hF : gF p s m args meth c own cc nL rt D Y A) (hAr : ArrOfT s yl .long) (hJ : lJ D Y A s.heap yl yd o1 o2 Sc Sr v1 v2 H locs) {k x : Int32} (h3 : ls[3]? = some (.val (va_rf (some o1)))) (h6 : ls[6]? = some (.val (.int k))) (h7 : ls[7]? = some (.val (.int x))) (hv : k = 0 → v1 = .long x.toInt64) {off : Int}
    (d0 : decode cc pc = .ok (.iload 6, 2)) (d2 : decode cc (pc + 2) = .ok (.ifCond .ne 15, 3)) (d5 : decode cc (pc + 2 + 3) = .ok (.aload_n 3, 1)) (d6 : decode cc (pc + 2 + 3 + 1) = .ok (.iconst 0, 1)) (d7 : decode cc (pc + 2 + 3 + 1 + 1) = .ok (.laload, 1)) (d8 : decode cc (pc + 2 + 3 + 1 + 1 + 1) = .ok (.iload 7, 2)) (d10 : decode cc (pc + 2 + 3 + 1 + 1 + 1 + 2) = .ok (.i2l, 1)) (d11 : decode cc (pc + 2 + 3 + 1 + 1 + 1 + 2 + 1) = .ok (.lcmp, 1)) (d12 : decode cc (pc + 2 + 3 + 1 + 1 + 1 + 2 + 1 + 1) = .ok (.ifCond .eq 5, 3)) (d17 : decode cc (pc + 17) = .ok (.goto off, 3)) (ht : ((pc + 17 : Nat) : Int) + off = ((3541 : Nat) : Int))
    (kk : W p l e R s m args below meth c H locs cells slots Q (F0 m 3541 ls [])) : W p l e R s m args below meth c H locs cells slots Q (F0 m pc ls []) := by
  have hx := hF.1
  have hb := hF.2.1
  refine lv_iload hx hb d0 h6 ?_
  refine lv_if_ne (tgt := pc + 17) hx hb d2 (by omega) (fun _ => lv_goto hx hb d17 ht kk) (fun h => ?_)
  have h0 : k = 0 := h
  have hO := hJ.2.2.2.2.2.2.1
  rw [hv h0] at hO
  refine g_aload_n hx hb d5 rfl h3 ?_
  refine lv_iconst (v := 0) hx hb d6 (by decide) ?_
  refine W.lald (v := .long x.toInt64) hx hb hO (hAr 1 _) (fun q => by cases q) (by rw [arrV_size]; decide) (by rw [arrV_read _ _ (by decide)]) rfl rfl d7 ?_
  show W p l e R s m args below meth c H locs cells slots Q (F0 m (pc + 2 + 3 + 1 + 1 + 1) ls [.long _])
  refine lv_iload hx hb d8 h7 ?_
  refine lv_i2l hx hb d10 rfl ?_
  refine lv_lcmp hx hb d11 ?_
  rw [lc0]
  exact lv_if_eq (tgt := pc + 17) hx hb d12 (by omega) (fun _ => lv_goto hx hb d17 ht kk) (fun h => absurd rfl h)
theorem l_cmpJ (hF : gF p s m args meth c own cc nL rt D Y A) (hAr : ArrOfT s yl .long) (hJ : lJ D Y A s.heap yl yd o1 o2 Sc Sr v1 v2 H locs) {k : Int32} {x : Int64} (h3 : ls[3]? = some (.val (va_rf (some o1)))) (h6 : ls[6]? = some (.val (.int k))) (h7 : ls[7]? = some (.val (.long x))) (hv : k = 0 → v1 = .long x) {off : Int}
    (d0 : decode cc pc = .ok (.iload 6, 2)) (d2 : decode cc (pc + 2) = .ok (.ifCond .ne 14, 3)) (d5 : decode cc (pc + 2 + 3) = .ok (.aload_n 3, 1)) (d6 : decode cc (pc + 2 + 3 + 1) = .ok (.iconst 0, 1)) (d7 : decode cc (pc + 2 + 3 + 1 + 1) = .ok (.laload, 1)) (d8 : decode cc (pc + 2 + 3 + 1 + 1 + 1) = .ok (.lload 7, 2)) (d11 : decode cc (pc + 2 + 3 + 1 + 1 + 1 + 2) = .ok (.lcmp, 1)) (d12 : decode cc (pc + 2 + 3 + 1 + 1 + 1 + 2 + 1) = .ok (.ifCond .eq 5, 3)) (d17 : decode cc (pc + 16) = .ok (.goto off, 3)) (ht : ((pc + 16 : Nat) : Int) + off = ((3541 : Nat) : Int))
    (kk : W p l e R s m args below meth c H locs cells slots Q (F0 m 3541 ls [])) : W p l e R s m args below meth c H locs cells slots Q (F0 m pc ls []) := by
  have hx := hF.1
  have hb := hF.2.1
  refine lv_iload hx hb d0 h6 ?_
  refine lv_if_ne (tgt := pc + 16) hx hb d2 (by omega) (fun _ => lv_goto hx hb d17 ht kk) (fun h => ?_)
  have h0 : k = 0 := h
  have hO := hJ.2.2.2.2.2.2.1
  rw [hv h0] at hO
  refine g_aload_n hx hb d5 rfl h3 ?_
  refine lv_iconst (v := 0) hx hb d6 (by decide) ?_
  refine W.lald (v := .long x) hx hb hO (hAr 1 _) (fun q => by cases q) (by rw [arrV_size]; decide) (by rw [arrV_read _ _ (by decide)]) rfl rfl d7 ?_
  show W p l e R s m args below meth c H locs cells slots Q (F0 m (pc + 2 + 3 + 1 + 1 + 1) ls [.long _])
  refine lv_lload hx hb d8 h7 ?_
  refine lv_lcmp hx hb d11 ?_
  rw [lc0]
  exact lv_if_eq (tgt := pc + 16) hx hb d12 (by omega) (fun _ => lv_goto hx hb d17 ht kk) (fun h => absurd rfl h)
theorem l_cmpZ (hF : gF p s m args meth c own cc nL rt D Y A) (hAr : ArrOfT s yl .long) (hJ : lJ D Y A s.heap yl yd o1 o2 Sc Sr v1 v2 H locs) {k x : Int32} (h3 : ls[3]? = some (.val (va_rf (some o1)))) (h6 : ls[6]? = some (.val (.int k))) (h7 : ls[7]? = some (.val (.int x))) (hv : k = 0 → v1 = .long (bzL x)) {off : Int}
    (d0 : decode cc pc = .ok (.iload 6, 2)) (d2 : decode cc (pc + 2) = .ok (.ifCond .ne 22, 3)) (d5 : decode cc (pc + 2 + 3) = .ok (.aload_n 3, 1)) (d6 : decode cc (pc + 2 + 3 + 1) = .ok (.iconst 0, 1)) (d7 : decode cc (pc + 2 + 3 + 1 + 1) = .ok (.laload, 1)) (d8 : decode cc (pc + 2 + 3 + 1 + 1 + 1) = .ok (.iload 7, 2)) (d10 : decode cc (pc + 2 + 3 + 1 + 1 + 1 + 2) = .ok (.ifCond .eq 7, 3)) (d13 : decode cc (pc + 2 + 3 + 1 + 1 + 1 + 2 + 3) = .ok (.lconst 1, 1)) (d14 : decode cc (pc + 2 + 3 + 1 + 1 + 1 + 2 + 3 + 1) = .ok (.goto 4, 3)) (d17 : decode cc (pc + 17) = .ok (.lconst 0, 1)) (d18 : decode cc (pc + 18) = .ok (.lcmp, 1)) (d19 : decode cc (pc + 19) = .ok (.ifCond .eq 5, 3)) (d24 : decode cc (pc + 24) = .ok (.goto off, 3)) (ht : ((pc + 24 : Nat) : Int) + off = ((3541 : Nat) : Int))
    (kk : W p l e R s m args below meth c H locs cells slots Q (F0 m 3541 ls [])) : W p l e R s m args below meth c H locs cells slots Q (F0 m pc ls []) := by
  have hx := hF.1
  have hb := hF.2.1
  refine lv_iload hx hb d0 h6 ?_
  refine lv_if_ne (tgt := pc + 24) hx hb d2 (by omega) (fun _ => lv_goto hx hb d24 ht kk) (fun h => ?_)
  have h0 : k = 0 := h
  have hO := hJ.2.2.2.2.2.2.1
  rw [hv h0] at hO
  refine g_aload_n hx hb d5 rfl h3 ?_
  refine lv_iconst (v := 0) hx hb d6 (by decide) ?_
  refine W.lald (v := .long (bzL x)) hx hb hO (hAr 1 _) (fun q => by cases q) (by rw [arrV_size]; decide) (by rw [arrV_read _ _ (by decide)]) rfl rfl d7 ?_
  show W p l e R s m args below meth c H locs cells slots Q (F0 m (pc + 2 + 3 + 1 + 1 + 1) ls [.long _])
  refine lv_iload hx hb d8 h7 ?_
  have fin : W p l e R s m args below meth c H locs cells slots Q (F0 m (pc + 18) ls [.long (bzL x), .long (bzL x)]) := by
    refine lv_lcmp hx hb d18 ?_
    rw [lc0]
    exact lv_if_eq (tgt := pc + 24) hx hb d19 (by omega) (fun _ => lv_goto hx hb d24 ht kk) (fun h => absurd rfl h)
  refine lv_if_eq (tgt := pc + 17) hx hb d10 (by omega) (fun c1 => ?_) (fun c1 => ?_)
  · refine lv_lconst (v := 0) hx hb d17 (by decide) ?_
    have e : bzL x = 0 := if_pos c1
    rw [e] at fin ⊢
    exact fin
  · refine lv_lconst (v := 1) hx hb d13 (by decide) ?_
    refine lv_goto (tgt := pc + 18) hx hb d14 (by omega) ?_
    have e : bzL x = 1 := if_neg c1
    rw [e] at fin ⊢
    exact fin
theorem l_cmpF (hF : gF p s m args meth c own cc nL rt D Y A) (hAr : ArrOfT s yd .double) (hJ : lJ D Y A s.heap yl yd o1 o2 Sc Sr v1 v2 H locs) {k : Int32} {x : UInt32} (h4 : ls[4]? = some (.val (va_rf (some o2)))) (h6 : ls[6]? = some (.val (.int k))) (h7 : ls[7]? = some (.val (.float x))) (hv : k = 0 → v2 = .double (FP.f2d x) ∧ vf_n64 (FP.f2d x) ∧ FP.dcmp (FP.f2d x) (FP.f2d x) = some .eq) {off : Int}
    (d0 : decode cc pc = .ok (.iload 6, 2)) (d2 : decode cc (pc + 2) = .ok (.ifCond .ne 36, 3)) (d5 : decode cc (pc + 2 + 3) = .ok (.aload 4, 2)) (d7 : decode cc (pc + 2 + 3 + 2) = .ok (.iconst 0, 1)) (d8 : decode cc (pc + 2 + 3 + 2 + 1) = .ok (.daload, 1)) (d9 : decode cc (pc + 2 + 3 + 2 + 1 + 1) = .ok (.fload 7, 2)) (d11 : decode cc (pc + 2 + 3 + 2 + 1 + 1 + 2) = .ok (.f2d, 1)) (d12 : decode cc (pc + 2 + 3 + 2 + 1 + 1 + 2 + 1) = .ok (.dcmp .l, 1)) (d13 : decode cc (pc + 2 + 3 + 2 + 1 + 1 + 2 + 1 + 1) = .ok (.ifCond .eq 25, 3)) (d38 : decode cc (pc + 38) = .ok (.goto off, 3)) (ht : ((pc + 38 : Nat) : Int) + off = ((3541 : Nat) : Int))
    (kk : W p l e R s m args below meth c H locs cells slots Q (F0 m 3541 ls [])) : W p l e R s m args below meth c H locs cells slots Q (F0 m pc ls []) := by
  have hx := hF.1
  have hb := hF.2.1
  refine lv_iload hx hb d0 h6 ?_
  refine lv_if_ne (tgt := pc + 38) hx hb d2 (by omega) (fun _ => lv_goto hx hb d38 ht kk) (fun h => ?_)
  have h0 : k = 0 := h
  have hO := hJ.2.2.2.2.2.2.2
  obtain ⟨g1, g2, g3⟩ := hv h0
  rw [g1] at hO
  refine g_aload hx hb d5 h4 ?_
  refine lv_iconst (v := 0) hx hb d7 (by decide) ?_
  refine W.dald (v := .double (FP.f2d x)) hx hb hO (hAr 1 _) (fun q => by cases q) (by rw [arrV_size]; decide) (by rw [arrV_read _ _ (by decide)]) rfl rfl d8 ?_
  show W p l e R s m args below meth c H locs cells slots Q (F0 m (pc + 2 + 3 + 2 + 1 + 1) ls [.double _])
  refine lv_fload hx hb d9 h7 ?_
  refine lv_f2d hx hb d11 g2 ?_
  refine lv_dcmp hx hb d12 ?_
  rw [g3]
  exact lv_if_eq (tgt := pc + 38) hx hb d13 (by omega) (fun _ => lv_goto hx hb d38 ht kk) (fun h => absurd rfl h)
theorem l_cmpD (hF : gF p s m args meth c own cc nL rt D Y A) (hAr : ArrOfT s yd .double) (hJ : lJ D Y A s.heap yl yd o1 o2 Sc Sr v1 v2 H locs) {k : Int32} {x : UInt64} (h4 : ls[4]? = some (.val (va_rf (some o2)))) (h6 : ls[6]? = some (.val (.int k))) (h7 : ls[7]? = some (.val (.double x))) (hv : k = 0 → v2 = .double x ∧ FP.dcmp x x = some .eq) {off : Int}
    (d0 : decode cc pc = .ok (.iload 6, 2)) (d2 : decode cc (pc + 2) = .ok (.ifCond .ne 35, 3)) (d5 : decode cc (pc + 2 + 3) = .ok (.aload 4, 2)) (d7 : decode cc (pc + 2 + 3 + 2) = .ok (.iconst 0, 1)) (d8 : decode cc (pc + 2 + 3 + 2 + 1) = .ok (.daload, 1)) (d9 : decode cc (pc + 2 + 3 + 2 + 1 + 1) = .ok (.dload 7, 2)) (d12 : decode cc (pc + 2 + 3 + 2 + 1 + 1 + 2) = .ok (.dcmp .l, 1)) (d13 : decode cc (pc + 2 + 3 + 2 + 1 + 1 + 2 + 1) = .ok (.ifCond .eq 25, 3)) (d38 : decode cc (pc + 37) = .ok (.goto off, 3)) (ht : ((pc + 37 : Nat) : Int) + off = ((3541 : Nat) : Int))
    (kk : W p l e R s m args below meth c H locs cells slots Q (F0 m 3541 ls [])) : W p l e R s m args below meth c H locs cells slots Q (F0 m pc ls []) := by
  have hx := hF.1
  have hb := hF.2.1
  refine lv_iload hx hb d0 h6 ?_
  refine lv_if_ne (tgt := pc + 37) hx hb d2 (by omega) (fun _ => lv_goto hx hb d38 ht kk) (fun h => ?_)
  have h0 : k = 0 := h
  have hO := hJ.2.2.2.2.2.2.2
  obtain ⟨g1, g3⟩ := hv h0
  rw [g1] at hO
  refine g_aload hx hb d5 h4 ?_
  refine lv_iconst (v := 0) hx hb d7 (by decide) ?_
  refine W.dald (v := .double x) hx hb hO (hAr 1 _) (fun q => by cases q) (by rw [arrV_size]; decide) (by rw [arrV_read _ _ (by decide)]) rfl rfl d8 ?_
  show W p l e R s m args below meth c H locs cells slots Q (F0 m (pc + 2 + 3 + 2 + 1 + 1) ls [.double _])
  refine lv_dload hx hb d9 h7 ?_
  refine lv_dcmp hx hb d12 ?_
  rw [g3]
  exact lv_if_eq (tgt := pc + 37) hx hb d13 (by omega) (fun _ => lv_goto hx hb d38 ht kk) (fun h => absurd rfl h)
end LawRows
/-! what is no NaN is itself, and goes over to a double that is none -/
theorem ok_ofF {r : UInt32} (h : gn32 r = true) : okNF r.toNat := by
  unfold gn32 at h
  have h2 := of_decide_eq_true h
  rw [UInt32.le_iff_toNat_le, UInt32.toNat_and] at h2
  have e1 : (0x7fffffff : UInt32).toNat = 2 ^ 31 - 1 := by decide
  have e2 : (0x7f800000 : UInt32).toNat = 2139095040 := by decide
  rw [e1, e2, Nat.and_two_pow_sub_one_eq_mod] at h2
  exact ⟨r.toNat_lt, h2⟩
theorem ok_ofD {r : UInt64} (h : gn64 r = true) : okND r.toNat := by
  unfold gn64 at h
  have h2 := of_decide_eq_true h
  rw [UInt64.le_iff_toNat_le, UInt64.toNat_and] at h2
  have e1 : (0x7fffffffffffffff : UInt64).toNat = 2 ^ 63 - 1 := by decide
  have e2 : (0x7ff0000000000000 : UInt64).toNat = 9218868437227405312 := by decide
  rw [e1, e2, Nat.and_two_pow_sub_one_eq_mod] at h2
  exact ⟨r.toNat_lt, h2⟩
theorem ord_self {d : Jvm.FP.Core.Datum} (h : d ≠ .nan) : Jvm.FP.Core.order d d = some .eq := by
  have e : ∀ a : Int, compare a a = Ordering.eq := fun a => Std.ReflCmp.compare_self
  cases d with
  | nan => exact absurd rfl h
  | inf s => exact congrArg some (e _)
  | fin s c q => exact congrArg some (e _)
theorem cmp_selfD {r : UInt64} (h : gn64 r = true) : FP.dcmp r r = some .eq := ord_self (nn_decD (ok_ofD h))
theorem ok_conv {d : Jvm.FP.Core.Datum} (h : d ≠ .nan) : okND (Jvm.FP.Core.encode Jvm.FP.Core.b64 (Jvm.FP.Core.round Jvm.FP.Core.b64 d)) := by
  cases d with
  | nan => exact absurd rfl h
  | inf s => exact ok_infD
  | fin s c q => exact ok_ratioD
theorem gn_f2d {r : UInt32} (h : gn32 r = true) : gn64 (FP.f2d r) = true := by
  have hn := nn_decF (ok_ofF h)
  have e : FP.f2d r = Jvm.FP.Core.f2d r := by
    unfold FP.f2d
    exact if_neg (fun z => hn (of_decide_eq_true z))
  rw [e]
  exact gn_toD (ok_conv hn)
theorem nn_share {b k hs : Nat} {S : GS} {A : AS} {pa ch : Nat → Nat} (h : Rcp b k pa ch S hs A) (hw : WF A) {x : Int32} {r : UInt32} (e : q_share A x = .inl r) : gn32 r = true := by
  unfold q_share at e
  rcases c_needRow (x := x) h hw with ⟨e0, e1, e2⟩ | ⟨s, a, e1, e2, e3, e4, e5, e6⟩
  · have e1 : ndL A x isRw = .inr e0 := e1
    rw [e1] at e
    cases e
  · have e1 : ndL A x isRw = .inl s := e1
    have h24 := e5.view.2.2.1
    rw [e1] at e
    simp only [bnd] at e
    by_cases c : (vw A s).length = 0
    · rw [if_pos c] at e; cases e
    · rw [if_neg c] at e
      cases e
      exact gn_divF _ (by omega) h24
theorem nn_meanKey {b k hs : Nat} {S : GS} {A : AS} {pa ch : Nat → Nat} (h : Rcp b k pa ch S hs A) (hw : WF A) {x : Int32} {r : UInt64} (e : q_meanKey A x = .inl r) : gn64 r = true := by
  unfold q_meanKey at e
  rcases c_needRow (x := x) h hw with ⟨e0, e1, e2⟩ | ⟨s, a, e1, e2, e3, e4, e5, e6⟩
  · have e1 : ndL A x isRw = .inr e0 := e1
    rw [e1] at e
    cases e
  · have e1 : ndL A x isRw = .inl s := e1
    have h24 := e5.view.2.2.1
    rw [e1] at e
    simp only [bnd] at e
    by_cases c : (vw A s).length = 0
    · rw [if_pos c] at e; cases e
    · rw [if_neg c] at e
      cases e
      exact gn_divD _ (by omega) h24
