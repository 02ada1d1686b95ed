/-! the law's start: one object of each side, the rows of answers; and its walk -/
def S00 : GS := (fun _ _ => 0, fun _ _ => none, fun _ => 0, fun _ => 0)
theorem gT_S00 (a : Nat) : gT S00 a = 0 := rfl
theorem gWd_S00 {D : va_G} {Y : Nat → ClassId} {H : Heap} : gWd D Y S00 H := fun a =>
  ⟨fun ci r g1 _ => absurd (show 0 = ci + 1 from g1) (by omega), fun y b g1 => (by have g1 : gArr 0 = some (y, b) := g1; cases g1)⟩
theorem gWd_kept {D : va_G} {Y : Nat → ClassId} {S : GS} {H H1 : Heap} {n : Nat} (h : gWd D Y S H) (hf : fre S n) (hk : ∀ q, q < n → H1[q]? = H[q]?) : gWd D Y S H1 := fun a => by
  by_cases ha : a < n
  · exact (h a).moved ⟨rfl, rfl, fun _ => rfl, fun _ => rfl⟩ (hk a ha)
  · have h0 : gT S a = 0 := hf a (by omega)
    exact ⟨fun ci r g1 _ => absurd (h0.symm.trans g1) (by omega), fun y b g1 => (by rw [h0] at g1; cases g1)⟩
section LawStart
variable {p : Program} {l : Launch} {e : Env} {R : Room} {s : State} {m : MethodId} {args : Array Value} {below : List Frame} {meth : Method} {c : Code} {H : Heap} {locs : List Loc} {cells slots : Nat} {Q : State → Prop}
variable {cc : ByteArray} {pc : Nat} {ls : Array Slot} {rest st0 : List Value} {D : va_G} {Y : Nat → ClassId} {A : Nat → Prop} {own : String} {nL : Nat} {rt : Option FieldType} {H0 : Heap} {S S' : GS} {hs hs' : Nat}
theorem l_new (hF : gF p s m args meth c own cc nL rt D Y A) (hM : gM D Y A H0 S hs H locs) {ci N : Nat} {C : String} {T : u_T} {ty : Nat → FieldType} (hd : gFd ci C T N ty) {index : Nat} (hcl : Cond.classLink own index C ∈ aw) (hinst : Cond.instantiable C N ∈ aw) (hini : Cond.initialized C ∈ aw) (hcells : cells + 1 ≤ R.cells) (hslots : slots + N ≤ R.slots) (hdg : decode cc pc = .ok (.new index, 3))
    (kk : ∀ (H1 : Heap), gM D Y A H0 (gnw S hs (ci + 1) 0) (hs + 1) H1 locs → (∀ q, q < hs → H1[q]? = H[q]?) → W p l e R s m args below meth c H1 locs (cells + 1) (slots + N) Q (F0 m (pc + 3) ls (va_rf (some hs) :: rest))) : W p l e R s m args below meth c H locs cells slots Q (F0 m pc ls rest) := by
  obtain ⟨hx, hb, hml, hown, hts, hK, -⟩ := hF
  obtain ⟨hc, hty, hin, hp, hnm, hC, hdf⟩ := hd
  have hKn := hK.1 ci _ hc
  refine W.newcK hx hb hown (hts _ hcl) (hts _ hinst) (hts _ hini) rfl hdg hcells hslots hKn.2.1 hM.1 fun H1 kC hkC e1 z1 o1 => ?_
  refine kk H1 (hM.new ⟨fun ci' r' g1 g2 => ?_, fun y b g1 => ?_⟩ z1 o1) o1
  · have g3 : ci + 1 = ci' + 1 := by simpa [gnw, gT] using g1
    have : ci = ci' := by omega
    subst this
    cases hc.symm.trans g2
    refine (u_born ty hts hin hKn hkC e1 hp).to fun k hk => ?_
    rw [hdf k hk]
    simp [gV, hty, gnw, gI, gR]
  · have hlt : ci < 6 := (List.getElem?_eq_some_iff.mp hc).1
    have g3 : gArr (ci + 1) = some (y, b) := by simpa [gnw, gT] using g1
    have : ci = 0 ∨ ci = 1 ∨ ci = 2 ∨ ci = 3 ∨ ci = 4 ∨ ci = 5 := by omega
    rcases this with rfl | rfl | rfl | rfl | rfl | rfl <;> cases g3
theorem l_callI (hF : gF p s m args meth c own cc nL rt D Y A) (hM : gM D Y A s.heap S hs H locs) {y : MethodName} {bytes : ByteArray} {maxL index n b : Nat} {rm : Room} {As : List Value} (hMet : gMet l y (gWs y bytes maxL none) rm (.ref b :: As) D Y S hs none S' hs') (hk : gKc y bytes maxL none n) (hl : Cond.methodLink own index y ∈ aw) (hin : Cond.instanceMethod y ∈ aw) (hy : y.name = "<init>")
    (hn : As.length = n) (hsize : ls.size = nL) (hst : st0 = As.reverse ++ .ref b :: rest) (hW : (rest.map fun v => v.category).sum ≤ 8) (hdg : decode cc pc = .ok (.invokespecial index, 3)) (hR : rm.frames + 1 ≤ R.frames ∧ 8 + (maxL + 11) + rm.locals ≤ R.locals) (hf : cells + rm.cells ≤ R.cells ∧ slots + rm.slots ≤ R.slots)
    (kk : ∀ (H1 : Heap) (locs1 : List Loc), gM D Y A s.heap S' hs' H1 locs1 → H.size ≤ H1.size → (∀ q, q < H.size → ¬ gA S hs q → H1[q]? = H[q]?) → W p l e R s m args below meth c H1 locs1 (cells + rm.cells) (slots + rm.slots) Q (F0 m (pc + 3) ls rest)) : W p l e R s m args below meth c H locs cells slots Q (F0 m pc ls st0) := by
  have hts := hF.2.2.2.2.1
  exact g_callF (rv := none) hM (va_runI (As := As) (rest := rest) ⟨hF.1, hF.2.1, hF.2.2.1, hF.2.2.2.1, hts⟩ hMet ⟨g_callB hF hk hl hR, hy, hts _ hin⟩ ⟨gPre.blind, fun U hU hW => ⟨rfl, gPre.at hF hM hU hW⟩⟩ rfl hn hsize hst (lv_room hW) hdg hf) (fun H1 locs1 h1 h2 h3 _ => kk H1 locs1 h1 h2 h3)
end LawStart
theorem uM_cl : Cond.classLink RL 166 RX5 ∈ aw := aw_in 1053 (by decide +kernel) (by decide +kernel)
theorem uM_in : Cond.instantiable RX5 23 ∈ aw := aw_in 1054 (by decide +kernel) (by decide +kernel)
theorem uM_ini : Cond.initialized RX5 ∈ aw := aw_in 67 (by decide +kernel) (by decide +kernel)
theorem uV_ini : Cond.initialized RX4 ∈ aw := aw_in 63 (by decide +kernel) (by decide +kernel)
theorem uM_lk : Cond.methodLink RL 168 yX5_init ∈ aw := aw_in 1055 (by decide +kernel) (by decide +kernel)
theorem uM_im : Cond.instanceMethod yX5_init ∈ aw := aw_in 1056 (by decide +kernel) (by decide +kernel)
set_option maxHeartbeats 4000000 in
set_option maxRecDepth 100000 in
theorem whole_start {p : Program} {e : Env} {s : State} {m : MethodId} {below : List Frame} {meth : Method} {c : Code} (l : Launch) (hflags : l.flags = flags0) {b L : Nat} {xs : Nat → Int32} (hL : L ≤ 2560) (C0 : lw_At p s m meth c b L xs) : W p l e room_1 s m #[Value.ref b] below meth c s.heap [] 0 0 (lw_Z below #[Value.ref b] s) (entryFrame m ([Value.ref b] : List Value).toArray 9) := by
  obtain ⟨D, Y, hF, hNc⟩ := l_ctx C0
  obtain ⟨hx, hb, hr, hml, hown, hts, hX, hbl, hlocks, hgv⟩ := id C0
  have hfl : l.stackTraces = false := by
    unfold Launch.stackTraces
    rw [hflags]
    decide +kernel
  have hbA : ¬ (fun q : Nat => s.heap.size ≤ q) b := Nat.not_le.mpr hbl
  have hl := lv_entry ([.ref b]) (n := 9) (Nat.le_of_ble_eq_true rfl)
  rw [lg_entry_eq]
  generalize (lg_sl ([.ref b]) ++ List.replicate (9 - (lg_sl ([.ref b])).length) Slot.unset).toArray = ls at hl ⊢
  have hl : lv_has ls 9 [(0, va_rf (some b))] := hl
  obtain ⟨x0, hx0⟩ : ∃ x0, s.heap.size = x0 := ⟨_, rfl⟩
  rw [hx0] at hF hbA
  have hM0 : gM D Y (fun q => x0 ≤ q) s.heap S00 x0 s.heap [] := ⟨hx0, gWd_S00, fun a h => absurd rfl h, va_S.rf, fun q hq => by show x0 ≤ q; omega⟩
  -- the class's object
  refine l_new hF hM0 fdX4 u85 u86 uV_ini (Nat.le_of_ble_eq_true rfl) (Nat.le_of_ble_eq_true rfl) dL_law_0 (fun H1 hM1 o1 => ?_)
  refine lv_dup hx hb dL_law_3 rfl ?_
  obtain ⟨Sc, e1, hc, hsam⟩ := c_init (S := gnw S00 x0 5 0) (b := x0) (by rw [gT_gnw, if_pos rfl]) (fun a ha => by rw [gT_gnw, if_neg (by omega)]; rfl)
  refine l_callI (As := []) (rest := [va_rf (some x0)]) hF hM1 (c_X4_init e1) k_X4_init u87 u88 rfl rfl hl.1 rfl (Nat.le_of_ble_eq_true rfl) dL_law_4 ⟨Nat.le_of_ble_eq_true rfl, Nat.le_of_ble_eq_true rfl⟩ ⟨Nat.le_of_ble_eq_true rfl, Nat.le_of_ble_eq_true rfl⟩ (fun H2 locs2 hM2 z2 k2 => ?_)
  refine g_astore_n (i := 1) (lv' := [(0, va_rf (some b))]) hx hb dL_law_7 rfl hl (by decide) (fun v => rfl) (fun ls1 hl1 => ?_)
  have y2 : H2.size = x0 + 33 := hM2.1
  -- the reference's object
  have hN2 : gM D Y (fun q => x0 ≤ q) s.heap S00 (x0 + 33) H2 locs2 := ⟨y2, gWd_S00, fun a h => absurd rfl h, hM2.2.2.2.1, hM2.2.2.2.2⟩
  refine l_new hF hN2 fdX5 uM_cl uM_in uM_ini (Nat.le_of_ble_eq_true rfl) (Nat.le_of_ble_eq_true rfl) dL_law_8 (fun H3 hM3 o3 => ?_)
  refine lv_dup hx hb dL_law_11 rfl ?_
  obtain ⟨Sr, e3, hq, h19, hbel⟩ := r_init (S := gnw S00 (x0 + 33) 6 0) (r := x0 + 33) (by rw [gT_gnw, if_pos rfl]) (fun k => by rw [gI_gnw, if_pos rfl]) (fun a ha => by rw [gT_gnw, if_neg (by omega)]; rfl)
  refine l_callI (As := []) (rest := [va_rf (some (x0 + 33))]) hF hM3 (c_X5_init e3) k_X5_init uM_lk uM_im rfl rfl hl1.1 rfl (Nat.le_of_ble_eq_true rfl) dL_law_12 ⟨Nat.le_of_ble_eq_true rfl, Nat.le_of_ble_eq_true rfl⟩ ⟨Nat.le_of_ble_eq_true rfl, Nat.le_of_ble_eq_true rfl⟩ (fun H4 locs4 hM4 z4 k4 => ?_)
  refine g_astore_n (i := 2) (lv' := [(1, va_rf (some x0)), (0, va_rf (some b))]) hx hb dL_law_15 rfl hl1 (by decide) (fun v => rfl) (fun ls2 hl2 => ?_)
  have y4 : H4.size = x0 + 33 + 31 := hM4.1
  have y3 : H3.size = x0 + 33 + 1 := hM3.1
  have kc4 : ∀ q, q < x0 + 33 → H4[q]? = H2[q]? := fun q hq4 => (k4 q (by omega) (fun h => h.elim (fun h => h (by rw [gT_gnw, if_neg (by omega)]; rfl)) (fun h => by omega))).trans (o3 q hq4)
  -- the rows of answers
  refine lv_iconst (v := 1) hx hb dL_law_16 (by decide) ?_
  refine va_newaK hx hb (hF.2.2.2.2.1 _ u1570) rfl dL_law_17 rfl (by decide) (N := 1) (by decide) (by decide) (Nat.le_of_ble_eq_true rfl) (Nat.le_of_ble_eq_true rfl) y4 (fun H5 yl f1 f2 f3 f4 _ => ?_)
  refine g_astore_n (r := some (x0 + 33 + 31)) (i := 3) (lv' := [(2, va_rf (some (x0 + 33))), (1, va_rf (some x0)), (0, va_rf (some b))]) hx hb dL_law_19 rfl hl2 (by decide) (fun v => rfl) (fun ls3 hl3 => ?_)
  refine lv_iconst (v := 1) hx hb dL_law_20 (by decide) ?_
  refine va_newaK hx hb (hF.2.2.2.2.1 _ u1571) rfl dL_law_21 rfl (by decide) (N := 1) (by decide) (by decide) (Nat.le_of_ble_eq_true rfl) (Nat.le_of_ble_eq_true rfl) f2 (fun H6 yd g1 g2 g3 g4 _ => ?_)
  refine g_astore (r := some (x0 + 33 + 31 + 1)) (i := 4) (lv' := [(3, va_rf (some (x0 + 33 + 31))), (2, va_rf (some (x0 + 33))), (1, va_rf (some x0)), (0, va_rf (some b))]) hx hb dL_law_23 hl3 (by decide) (fun v => rfl) (fun ls4 hl4 => ?_)
  refine lv_iconst (v := 0) hx hb dL_law_25 (by decide) ?_
  refine lv_istore (i := 5) (lv' := [(5, .int 0), (4, va_rf (some (x0 + 33 + 31 + 1))), (3, va_rf (some (x0 + 33 + 31))), (2, va_rf (some (x0 + 33))), (1, va_rf (some x0)), (0, va_rf (some b))]) hx hb dL_law_26 hl4 (by decide) rfl (fun ls5 hl5 => ?_)
  have kc6 : ∀ q, q < x0 + 33 + 31 → H6[q]? = H4[q]? := fun q h => (g3 q (by omega)).trans (f3 q h)
  have hS6 : va_S (fun q => x0 ≤ q) s.heap H6 locs4 := ⟨by omega, fun q h1 h2 => (kc6 q (by omega)).trans (hM4.2.2.2.1.2.1 q h1 h2), hM4.2.2.2.1.2.2⟩
  have J : lJ D Y (fun q => x0 ≤ q) s.heap yl yd (x0 + 33 + 31) (x0 + 33 + 31 + 1) Sc Sr (defaultValue (newarray.typeOf .long)) (defaultValue (newarray.typeOf .double)) H6 locs4 := by
    refine ⟨⟨rfl, gWd_kept hM2.2.1 hc.fre (fun q h => (kc6 q (by omega)).trans (kc4 q h)), hM2.2.2.1, hS6, hM2.2.2.2.2⟩, ⟨rfl, gWd_kept hM4.2.1 hq.fre (fun q h => kc6 q h), hM4.2.2.1, hS6, hM2.2.2.2.2⟩, fun a ha => ?_, ⟨by show x0 ≤ _; omega, by show x0 ≤ _; omega, by omega⟩, ⟨hc.fre _ (by omega), hc.fre _ (by omega)⟩, ⟨hq.fre _ (by omega), hq.fre _ (by omega)⟩, (g3 _ (by omega)).trans f1, g1⟩
    by_cases h : a < x0 + 33
    · rw [(hbel a h).1, gT_gnw, if_neg (by omega)]; rfl
    · exact absurd (hc.fre a (by omega)) ha
  have I : lInv D Y (fun q => x0 ≤ q) s.heap yl yd (x0 + 33 + 31) (x0 + 33 + 31 + 1) x0 (x0 + 33) 0 H6 locs4 := ⟨Sc, Sr, _, _, A0, _, _, J, hc.mono (by omega), hq.mono (by omega)⟩
  have hR : 22 ≤ room_1.frames ∧ 10948 ≤ room_1.locals := ⟨Nat.le_of_ble_eq_true rfl, Nat.le_of_ble_eq_true rfl⟩
  refine W.widen (k := 100 + 8 * 0) (n := 2000 + 6000 * 0) (Nat.le_of_ble_eq_true rfl) (Nat.le_of_ble_eq_true rfl) ?_
  refine l_loop (c0 := 100) (s0 := 2000) (bs := b) (L := L) (xs := xs) ⟨hF, hNc, f4, g4, hfl, hX, hbl, hbA, hL, hR⟩ ⟨Nat.le_of_ble_eq_true rfl, Nat.le_of_ble_eq_true rfl⟩ (fun H locs ls hS => ?_) 512 0 H6 locs4 ls5 I (lv_sub hl5 [5, 4, 3, 2, 1, 0] rfl) (by omega) (by omega)
  refine lv_iconst (v := 1) hx hb dL_law_3547 (by decide) ?_
  refine va_forget (fun q hq => by have := hS.2.2 q hq; show s.heap.size ≤ _; rw [hx0]; exact this) ?_
  refine W.widen (k := 1130485) (n := 5637065) (Nat.le_of_ble_eq_true rfl) (Nat.le_of_ble_eq_true rfl) ?_
  exact lw_ret (Drawn.sameBut.refl s.drawn lw_cs) hx hb hr hlocks dL_law_3548
