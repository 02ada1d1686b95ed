section GCalls
variable {p : Program} {l : Launch} {e : Env} {R : Room} {s : State} {m : MethodId} {args : Array Value} {below : List Frame} {meth : Method} {c : Code} {H : Heap} {locs : List Loc} {cells slots : Nat} {Q : State → Prop}
variable {cc : ByteArray} {pc : Nat} {ls : Array Slot} {rest st0 : List Value} {D : va_G} {Y : Nat → ClassId} {A : Nat → Prop} {own : String} {nL : Nat} {rt : Option FieldType} {H0 : Heap} {S S' : GS} {hs hs' : Nat}
theorem g_aload_n (hx : p.tables.exec = Jvm.exec) (hb : c.code = cc) {k : Fin 4} {i : Nat} {r : Option Nat} (hdg : decode cc pc = .ok (.aload_n k, 1)) (hi : (k : Nat) = i) (hl : ls[i]? = some (.val (va_rf r)))
    (kk : W p l e R s m args below meth c H locs cells slots Q (F0 m (pc + 1) ls (va_rf r :: rest))) : W p l e R s m args below meth c H locs cells slots Q (F0 m pc ls rest) := by
  cases r with
  | none => exact lv_aload_nN hx hb hdg hi hl kk
  | some a => exact lv_aload_n hx hb hdg hi hl kk
theorem g_aload (hx : p.tables.exec = Jvm.exec) (hb : c.code = cc) {i : Nat} {r : Option Nat} (hdg : decode cc pc = .ok (.aload i, 2)) (hl : ls[i]? = some (.val (va_rf r)))
    (kk : W p l e R s m args below meth c H locs cells slots Q (F0 m (pc + 2) ls (va_rf r :: rest))) : W p l e R s m args below meth c H locs cells slots Q (F0 m pc ls rest) := by
  cases r with
  | none => exact lv_aloadN hx hb hdg hl kk
  | some a => exact lv_aload hx hb hdg hl kk
theorem rf_cat (r : Option Nat) : (va_rf r).category = 1 := by cases r <;> rfl
theorem g_astore_n (hx : p.tables.exec = Jvm.exec) (hb : c.code = cc) {k : Fin 4} {i : Nat} {r : Option Nat} {lv lv' : List (Nat × Value)} (hdg : decode cc pc = .ok (.astore_n k, 1)) (hi : (k : Nat) = i) (h : lv_has ls nL lv) (hn : i < nL) (hl : ∀ v : Value, (i, v) :: lv.filter (fun q => !(q.1 == i) && !(q.1 + 1 == i && q.2.category == 2)) = (i, v) :: lv')
    (kk : ∀ ls' : Array Slot, lv_has ls' nL ((i, va_rf r) :: lv') → W p l e R s m args below meth c H locs cells slots Q (F0 m (pc + 1) ls' rest)) : W p l e R s m args below meth c H locs cells slots Q (F0 m pc ls (va_rf r :: rest)) := by
  cases r with
  | none => exact lv_astore_nN hx hb hdg hi h hn (hl _) kk
  | some a => exact lv_astore_n hx hb hdg hi h hn (hl _) kk
theorem g_astore (hx : p.tables.exec = Jvm.exec) (hb : c.code = cc) {i : Nat} {r : Option Nat} {lv lv' : List (Nat × Value)} (hdg : decode cc pc = .ok (.astore i, 2)) (h : lv_has ls nL lv) (hn : i < nL) (hl : ∀ v : Value, (i, v) :: lv.filter (fun q => !(q.1 == i) && !(q.1 + 1 == i && q.2.category == 2)) = (i, v) :: lv')
    (kk : ∀ ls' : Array Slot, lv_has ls' nL ((i, va_rf r) :: lv') → W p l e R s m args below meth c H locs cells slots Q (F0 m (pc + 2) ls' rest)) : W p l e R s m args below meth c H locs cells slots Q (F0 m pc ls (va_rf r :: rest)) := by
  cases r with
  | none => exact lv_astoreN hx hb hdg h hn (hl _) kk
  | some a => exact lv_astore hx hb hdg h hn (hl _) kk
theorem g_ifnull (hx : p.tables.exec = Jvm.exec) (hb : c.code = cc) {r : Option Nat} {off : Int} {tgt : Nat} (hdg : decode cc pc = .ok (.ifnull off, 3)) (ht : (pc : Int) + off = (tgt : Int))
    (kt : r = none → W p l e R s m args below meth c H locs cells slots Q (F0 m tgt ls rest)) (kf : ¬ r = none → W p l e R s m args below meth c H locs cells slots Q (F0 m (pc + 3) ls rest)) : W p l e R s m args below meth c H locs cells slots Q (F0 m pc ls (va_rf r :: rest)) := by
  cases r with
  | none => exact lv_ifnullN hx hb hdg ht (kt rfl)
  | some a => exact lv_ifnull hx hb hdg (kf (fun h => by cases h))
theorem g_ifnonnull (hx : p.tables.exec = Jvm.exec) (hb : c.code = cc) {r : Option Nat} {off : Int} {tgt : Nat} (hdg : decode cc pc = .ok (.ifnonnull off, 3)) (ht : (pc : Int) + off = (tgt : Int))
    (kt : ¬ r = none → W p l e R s m args below meth c H locs cells slots Q (F0 m tgt ls rest)) (kf : r = none → W p l e R s m args below meth c H locs cells slots Q (F0 m (pc + 3) ls rest)) : W p l e R s m args below meth c H locs cells slots Q (F0 m pc ls (va_rf r :: rest)) := by
  cases r with
  | none => exact lv_ifnonnullN hx hb hdg (kf rfl)
  | some a => exact lv_ifnonnull hx hb hdg ht (kt (fun h => by cases h))
theorem g_null (hx : p.tables.exec = Jvm.exec) (hb : c.code = cc) (hdg : decode cc pc = .ok (.aconst_null, 1)) (k : W p l e R s m args below meth c H locs cells slots Q (F0 m (pc + 1) ls (va_rf none :: rest))) : W p l e R s m args below meth c H locs cells slots Q (F0 m pc ls rest) := lv_null hx hb hdg k
/-- the locals at a method's start, no long or double among them -/
theorem g_entry (vs : List Value) {n : Nat} (h1 : ∀ v ∈ vs, v.category = 1) (h : vs.length ≤ n) : lv_has ((lg_sl vs ++ List.replicate (n - (lg_sl vs).length) Slot.unset).toArray) n (lv_args 0 vs) := by
  have e : (lg_sl vs).length = vs.length := by
    clear h
    induction vs with
    | nil => rfl
    | cons a l ih =>
      have h2 := h1 a List.mem_cons_self
      have h3 := ih (fun v hv => h1 v (List.mem_cons_of_mem _ hv))
      simp only [lg_sl, List.flatMap_cons, h2, List.length_append, List.length_cons] at h3 ⊢
      simp at h3 ⊢
      omega
  exact lv_entry vs (by rw [e]; exact h)
theorem g_args (vs : List Value) : ∀ (i : Nat), (∀ v ∈ vs, v.category = 1) → lv_args i vs = (vs.zipIdx i).map (fun q => (q.2, q.1)) := by
  induction vs with
  | nil => intro i _; rfl
  | cons a l ih =>
    intro i h1
    have h2 := h1 a List.mem_cons_self
    have h3 := ih (i + 1) (fun v hv => h1 v (List.mem_cons_of_mem _ hv))
    simp only [lv_args, h2, List.zipIdx_cons, List.map_cons]
    simp [h3]
/-- a method's name, bytes, locals, answer, parameters -/
def gKc (y : MethodName) (bytes : ByteArray) (maxL : Nat) (ret : Option FieldType) (n : Nat) : Prop := Cond.code y bytes maxL ret ∈ aw ∧ Cond.initialized y.cls ∈ aw ∧ y.cls ≠ "java/lang/invoke/MethodHandle" ∧ y.cls ≠ "java/lang/invoke/VarHandle" ∧ (parseMethodDescriptor y.desc).map (fun d => d.parameters.length) = some n
abbrev gWs (y : MethodName) (bytes : ByteArray) (maxL : Nat) (ret : Option FieldType) : List Cond := Cond.code y bytes maxL ret :: aw
theorem g_callB (hF : gF p s m args meth c own cc nL rt D Y A) {y : MethodName} {bytes : ByteArray} {maxL index n : Nat} {ret : Option FieldType} {rm : Room} (hk : gKc y bytes maxL ret n) (hl : Cond.methodLink own index y ∈ aw) (hR : rm.frames + 1 ≤ R.frames ∧ 8 + (maxL + 11) + rm.locals ≤ R.locals) : CallB R s args own index y bytes maxL ret (gWs y bytes maxL ret) rm rm.cells rm.slots n := by
  obtain ⟨hx, hb, hml, hown, hts, -⟩ := hF
  refine callB_of (Ts := aw) (ws' := aw) n hts (fun w hw => ?_) rfl rfl rfl (hts _ hk.2.1) (hts _ hl) hk.2.2 hR
  have : w ∈ aw := by
    rcases List.mem_cons.mp hw with rfl | h
    · exact hk.1
    · exact h
  exact ⟨this, good_of_word (List.mem_filter.mp this).2⟩
theorem gX.at (h : gX Y A s s.heap) (hM : gM D Y A s.heap S hs H locs) {U : State} (hU : U.heap = H) (hW : s.WarmedH U.vm) : gX Y (gA S hs) U U.heap := by
  obtain ⟨h1, h2, h3, h4⟩ := h
  obtain ⟨m1, m2, m3, m4, m5⟩ := hM
  have hA : ∀ q, gA S hs q → A q := fun q hq => hq.elim (m3 q) (fun h => m5 q (by have := m4.1; omega))
  rw [hU]
  exact ⟨((h1.kept m4.2.1).narrow hA).moved hW.alike, ((h2.kept m4.2.1).narrow hA).moved hW.alike, h3.warm hW, (h4.kept m4.2.1 hA).warm hW⟩
theorem gPre.at (hF : gF p s m args meth c own cc nL rt D Y A) (hM : gM D Y A s.heap S hs H locs) {U : State} (hU : U.heap = H) (hW : s.WarmedH U.vm) : gPre D Y S hs U := by
  obtain ⟨hx, hb, hml, hown, hts, hK, hr, hlk, hX⟩ := hF
  exact ⟨by rw [hU]; exact hM.1, by rw [hU]; exact hM.2.1, va_K.moved hW.alike hK, hX.at hM hU hW⟩
theorem gPre.blind {As : List Value} : FrameBlind (va_Pc As (gPre D Y S hs)) := fun a U g mk q => by
  obtain ⟨q0, q1, q2, q3, q4, q5, q6, q7⟩ := q
  exact ⟨q0, q1, q2, va_K.moved (u := U) (U := U.calling g mk a) (Vm.Alike.refl U.vm) q3, vx_Zq.moved (u := U) (U := U.calling g mk a) (Vm.Alike.refl U.vm) q4, vx_Zq.moved (u := U) (U := U.calling g mk a) (Vm.Alike.refl U.vm) q5, q6.same (U := U.calling g mk a) rfl, q7.same (U := U.calling g mk a) rfl⟩
theorem g_call {rv : Option Value} {mc ms : Nat} {a : Array Value} (hM : gM D Y A s.heap S hs H locs) (hr : va_Run p l e R s m args below meth c H locs cells slots mc ms (F0 m pc ls st0) rest (gQ rv D Y S' hs' (gA S hs) a) (gA S hs))
    (kk : ∀ (H1 : Heap) (locs1 : List Loc), gM D Y A s.heap S' hs' H1 locs1 → W p l e R s m args below meth c H1 locs1 (cells + mc) (slots + ms) Q (F0 m (pc + 3) ls (rv.toList ++ rest))) : W p l e R s m args below meth c H locs cells slots Q (F0 m pc ls st0) := by
  intro T hT X
  obtain ⟨v, st₀, t, T', L, h0, X', hL, e1, e2, ⟨hv, ⟨g1, g2, g3, g4⟩, hz, hk⟩, st⟩ := hr T hT X
  cases hv
  rw [h0] at hz hk
  obtain ⟨m1, m2, m3, m4, m5⟩ := hM
  have hA : ∀ q, gA S hs q → A q := fun q hq => hq.elim (m3 q) (fun h => m5 q (by have := m4.1; omega))
  obtain ⟨t2, a1, b1⟩ := kk T'.heap (locs ++ L) ⟨by rw [e1]; exact g1, by rw [e1]; exact g2, fun a ha => hA _ (g4 a ha), ⟨Nat.le_trans m4.1 (by rw [e1]; exact hz), fun q h1 h2 => by rw [e1, hk q (Nat.lt_of_lt_of_le h1 m4.1) (fun z => h2 (hA q z))]; exact m4.2.1 q h1 h2, fun q hq => by
      rcases List.mem_append.mp hq with h | h
      · exact m4.2.2 q h
      · exact hA _ (hL q h)⟩, m5⟩ T' rfl X'
  exact ⟨t2, st t2 a1, b1⟩
theorem g_recv (hF : gF p s m args meth c own cc nL rt D Y A) (hM : gM D Y A s.heap S hs H locs) {ci b : Nat} {r : vw_C} (hc : gCl[ci]? = some r) (hT : gT S b = ci + 1) : ∃ cellB : Cell, H[b]? = some cellB ∧ cellB.vm.isStatics = false ∧ s.vm.findClass r.1 = some cellB.cls := by
  obtain ⟨cell, g1, g2, g3, -⟩ := (hM.2.1 b).1 ci r hT hc
  exact ⟨cell, g1, by rw [g3]; rfl, by rw [g2]; exact (hF.2.2.2.2.2.1.1 ci r hc).2.1⟩
/-- a call by a receiver -/
theorem g_callV (hF : gF p s m args meth c own cc nL rt D Y A) (hM : gM D Y A s.heap S hs H locs) {y : MethodName} {bytes : ByteArray} {maxL index n ci b : Nat} {ret : Option FieldType} {rm : Room} {As : List Value} {rv : Option Value} {r : vw_C} (hMet : gMet l y (gWs y bytes maxL ret) rm (.ref b :: As) D Y S hs rv S' hs') (hk : gKc y bytes maxL ret n) (hl : Cond.methodLink own index y ∈ aw) (hin : Cond.instanceMethod y ∈ aw) (hse : Cond.selects y.cls y y ∈ aw)
    (hc : gCl[ci]? = some r) (hC : r.1 = y.cls) (hT : gT S b = ci + 1) (hn : As.length = n) (hsize : ls.size = nL) (hst : st0 = As.reverse ++ .ref b :: rest) (hW : (rest.map fun v => v.category).sum ≤ 8) (hdg : decode cc pc = .ok (.invokevirtual index, 3)) (hR : rm.frames + 1 ≤ R.frames ∧ 8 + (maxL + 11) + rm.locals ≤ R.locals) (hf : cells + rm.cells ≤ R.cells ∧ slots + rm.slots ≤ R.slots)
    (kk : ∀ (H1 : Heap) (locs1 : List Loc), gM D Y A s.heap S' hs' H1 locs1 → W p l e R s m args below meth c H1 locs1 (cells + rm.cells) (slots + rm.slots) Q (F0 m (pc + 3) ls (rv.toList ++ rest))) : W p l e R s m args below meth c H locs cells slots Q (F0 m pc ls st0) := by
  have hts := hF.2.2.2.2.1
  refine g_call hM (va_runV (As := As) (rest := rest) ⟨hF.1, hF.2.1, hF.2.2.1, hF.2.2.2.1, hts⟩ hMet ⟨g_callB hF hk hl hR, hts _ hin, hts _ hse⟩ ⟨gPre.blind, hC ▸ g_recv hF hM hc hT, fun U hU hW => ⟨rfl, gPre.at hF hM hU hW⟩⟩ rfl hn hsize hst (lv_room hW) hdg hf) kk
theorem g_callS (hF : gF p s m args meth c own cc nL rt D Y A) (hM : gM D Y A s.heap S hs H locs) {y : MethodName} {bytes : ByteArray} {maxL index n : Nat} {ret : Option FieldType} {rm : Room} {As : List Value} {rv : Option Value} (hMet : gMet l y (gWs y bytes maxL ret) rm As D Y S hs rv S' hs') (hk : gKc y bytes maxL ret n) (hl : Cond.methodLink own index y ∈ aw) (hin : Cond.static y ∈ aw)
    (hn : As.length = n) (hsize : ls.size = nL) (hst : st0 = As.reverse ++ rest) (hW : (rest.map fun v => v.category).sum ≤ 8) (hdg : decode cc pc = .ok (.invokestatic index, 3)) (hR : rm.frames + 1 ≤ R.frames ∧ 8 + (maxL + 11) + rm.locals ≤ R.locals) (hf : cells + rm.cells ≤ R.cells ∧ slots + rm.slots ≤ R.slots)
    (kk : ∀ (H1 : Heap) (locs1 : List Loc), gM D Y A s.heap S' hs' H1 locs1 → W p l e R s m args below meth c H1 locs1 (cells + rm.cells) (slots + rm.slots) Q (F0 m (pc + 3) ls (rv.toList ++ rest))) : W p l e R s m args below meth c H locs cells slots Q (F0 m pc ls st0) := by
  have hts := hF.2.2.2.2.1
  exact g_call hM (va_runS (As := As) (rest := rest) ⟨hF.1, hF.2.1, hF.2.2.1, hF.2.2.2.1, hts⟩ hMet ⟨g_callB hF hk hl hR, hts _ hin⟩ ⟨gPre.blind, fun U hU hW => ⟨rfl, gPre.at hF hM hU hW⟩⟩ rfl hn hsize hst (lv_room hW) hdg hf) kk
theorem g_callI (hF : gF p s m args meth c own cc nL rt D Y A) (hM : gM D Y A s.heap S hs H locs) {y : MethodName} {bytes : ByteArray} {maxL index n b : Nat} {rm : Room} {As : List Value} (hMet : gMet l y (gWs y bytes maxL none) rm (.ref b :: As) D Y S hs none S' hs') (hk : gKc y bytes maxL none n) (hl : Cond.methodLink own index y ∈ aw) (hin : Cond.instanceMethod y ∈ aw) (hy : y.name = "<init>")
    (hn : As.length = n) (hsize : ls.size = nL) (hst : st0 = As.reverse ++ .ref b :: rest) (hW : (rest.map fun v => v.category).sum ≤ 8) (hdg : decode cc pc = .ok (.invokespecial index, 3)) (hR : rm.frames + 1 ≤ R.frames ∧ 8 + (maxL + 11) + rm.locals ≤ R.locals) (hf : cells + rm.cells ≤ R.cells ∧ slots + rm.slots ≤ R.slots)
    (kk : ∀ (H1 : Heap) (locs1 : List Loc), gM D Y A s.heap S' hs' H1 locs1 → W p l e R s m args below meth c H1 locs1 (cells + rm.cells) (slots + rm.slots) Q (F0 m (pc + 3) ls rest)) : W p l e R s m args below meth c H locs cells slots Q (F0 m pc ls st0) := by
  have hts := hF.2.2.2.2.1
  exact g_call (rv := none) hM (va_runI (As := As) (rest := rest) ⟨hF.1, hF.2.1, hF.2.2.1, hF.2.2.2.1, hts⟩ hMet ⟨g_callB hF hk hl hR, hy, hts _ hin⟩ ⟨gPre.blind, fun U hU hW => ⟨rfl, gPre.at hF hM hU hW⟩⟩ rfl hn hsize hst (lv_room hW) hdg hf) kk
/-- Object.<init> -/
theorem g_objInit (hF : gF p s m args meth c own cc nL rt D Y A) {idx : Nat} {a : Nat} (hl : Cond.methodLink own idx Lib.objectInit ∈ aw) (hin : Cond.instanceMethod Lib.objectInit ∈ aw) (hco : Cond.code Lib.objectInit ⟨#[0xb1]⟩ 1 none ∈ aw) (hsize : ls.size = nL) (hdg : decode cc pc = .ok (.invokespecial idx, 3)) (hR : 1 ≤ R.frames ∧ 20 ≤ R.locals) (hW : (rest.map fun v => v.category).sum ≤ 8)
    (kk : W p l e R s m args below meth c H locs cells slots Q (F0 m (pc + 3) ls rest)) : W p l e R s m args below meth c H locs cells slots Q (F0 m pc ls (va_rf (some a) :: rest)) := by
  obtain ⟨hx, hb, hml, hown, hts, -⟩ := hF
  exact W.objInit hx hb hown (hts _ hl) (hts _ hin) (hts _ hco) rfl (by rw [hml]; exact hsize) rfl hdg hR.1 (by have := lv_room (m := m) (pc := pc) (ls := ls) (rest := va_rf (some a) :: rest) hW; simp only [F0] at this ⊢; omega) kk
/-! the ends -/
theorem gQ.at (hF : gF p s m args meth c own cc nL rt D Y A) (hM : gM D Y A s.heap S hs H locs) {rv : Option Value} {t : State} (ht : t.heap = H) (hW : s.WarmedH t.vm) : gQ rv D Y S hs A args s (.returned rv) t :=
  ⟨rfl, ⟨by rw [ht]; exact hM.1, by rw [ht]; exact hM.2.1, va_K.moved hW.alike hF.2.2.2.2.2.1, hM.2.2.1⟩, hM.2.2.2.1.F ht⟩
theorem g_iret (hF : gF p s m args meth c own cc nL rt D Y A) (hM : gM D Y A s.heap S hs H locs) {v : Int32} {ty : FieldType} {mc ms : Nat} (hr : rt = some ty) (hn : narrow ty (.int v) = .int v) (hdg : decode cc pc = .ok (.ireturn, 1)) (h1 : cells ≤ mc) (h2 : slots ≤ ms) : W p l e R s m args below meth c H locs cells slots (MQ below (gQ (some (.int v)) D Y S hs A) args s mc ms A) (F0 m pc ls [.int v]) := by
  have hlk := hF.2.2.2.2.2.2.2.1
  exact W.widen h1 h2 (W.zret hF.1 hF.2.1 (hF.2.2.2.2.2.2.1.trans hr) hn (fun t ht hW => gQ.at hF hM ht hW) hM.2.2.2.1.2.2 hdg)
theorem g_aret (hF : gF p s m args meth c own cc nL rt D Y A) (hM : gM D Y A s.heap S hs H locs) {v : Option Nat} {ty : FieldType} {mc ms : Nat} (hr : rt = some ty) (hty : (∃ n, ty = .object n) ∨ ∃ t, ty = .array t) (hdg : decode cc pc = .ok (.areturn, 1)) (h1 : cells ≤ mc) (h2 : slots ≤ ms) : W p l e R s m args below meth c H locs cells slots (MQ below (gQ (some (va_rf v)) D Y S hs A) args s mc ms A) (F0 m pc ls [va_rf v]) := by
  have hlk := hF.2.2.2.2.2.2.2.1
  exact W.widen h1 h2 (W.aret hF.1 hF.2.1 (hF.2.2.2.2.2.2.1.trans hr) hty (va_rf_or v) (fun t ht hW => gQ.at hF hM ht hW) hM.2.2.2.1.2.2 hdg)
theorem g_vret (hF : gF p s m args meth c own cc nL rt D Y A) (hM : gM D Y A s.heap S hs H locs) {mc ms : Nat} (hr : rt = none) (hdg : decode cc pc = .ok (.return_, 1)) (h1 : cells ≤ mc) (h2 : slots ≤ ms) : W p l e R s m args below meth c H locs cells slots (MQ below (gQ none D Y S hs A) args s mc ms A) (F0 m pc ls []) := by
  have hlk := hF.2.2.2.2.2.2.2.1
  exact W.widen h1 h2 (W.vret hF.1 hF.2.1 (hF.2.2.2.2.2.2.1.trans hr) (fun t ht hW => gQ.at hF hM ht hW) hM.2.2.2.1.2.2 hdg)
theorem g_lret (hF : gF p s m args meth c own cc nL rt D Y A) (hM : gM D Y A s.heap S hs H locs) {v : Int64} {mc ms : Nat} (hr : rt = some .long) (hdg : decode cc pc = .ok (.lreturn, 1)) (h1 : cells ≤ mc) (h2 : slots ≤ ms) : W p l e R s m args below meth c H locs cells slots (MQ below (gQ (some (.long v)) D Y S hs A) args s mc ms A) (F0 m pc ls [.long v]) := by
  have hlk := hF.2.2.2.2.2.2.2.1
  exact W.widen h1 h2 (W.lret hF.1 hF.2.1 (hF.2.2.2.2.2.2.1.trans hr) (fun t ht hW => gQ.at hF hM ht hW) hM.2.2.2.1.2.2 hdg)
theorem g_fret (hF : gF p s m args meth c own cc nL rt D Y A) (hM : gM D Y A s.heap S hs H locs) {v : UInt32} {mc ms : Nat} (hr : rt = some .float) (hdg : decode cc pc = .ok (.freturn, 1)) (h1 : cells ≤ mc) (h2 : slots ≤ ms) : W p l e R s m args below meth c H locs cells slots (MQ below (gQ (some (.float v)) D Y S hs A) args s mc ms A) (F0 m pc ls [.float v]) := by
  have hlk := hF.2.2.2.2.2.2.2.1
  exact W.widen h1 h2 (W.fret hF.1 hF.2.1 (hF.2.2.2.2.2.2.1.trans hr) (fun t ht hW => gQ.at hF hM ht hW) hM.2.2.2.1.2.2 hdg)
theorem g_dret (hF : gF p s m args meth c own cc nL rt D Y A) (hM : gM D Y A s.heap S hs H locs) {v : UInt64} {mc ms : Nat} (hr : rt = some .double) (hdg : decode cc pc = .ok (.dreturn, 1)) (h1 : cells ≤ mc) (h2 : slots ≤ ms) : W p l e R s m args below meth c H locs cells slots (MQ below (gQ (some (.double v)) D Y S hs A) args s mc ms A) (F0 m pc ls [.double v]) := by
  have hlk := hF.2.2.2.2.2.2.2.1
  exact W.widen h1 h2 (W.dret hF.1 hF.2.1 (hF.2.2.2.2.2.2.1.trans hr) (fun t ht hW => gQ.at hF hM ht hW) hM.2.2.2.1.2.2 hdg)
/-- a method's start -/
theorem g_ofWF {y : MethodName} {ws ws' : List Cond} {rm : Room} {Pc : Array Value → State → Prop} {Qc : Array Value → State → Outcome → State → Prop} {mc ms : Nat} {free : Addr → Prop} {cc : ByteArray} {maxL : Nat} {ret : Option FieldType} (hy : plainFor y = true) (hw : ws = Cond.code y cc maxL ret :: ws')
    (body : ∀ p e s m args below meth c s₁, BodyLoose p l y (headSpec ws rm) cc maxL ret e s m args below meth c s₁ → c.maxLocals = maxL → Pc args s →
      W p l e (headSpec ws rm).room s m args below meth c s.heap [] 0 0 (MQ below Qc args s mc ms free) (entryFrame m args maxL)) : Met l y ws rm Pc Qc mc ms free := by
  refine MetFree.of_bodySF (code := cc) (maxLocals := maxL) (ret := ret) hy ?_ ?_
  · intro args s m h hn
    obtain ⟨meth, c, h1, h2, h3, h4, h5, h6, -, -⟩ := Cond.code_spec hn (atoms_spec (ws := ws) h _ (by rw [hw]; exact List.mem_cons_self))
    exact ⟨meth, c, h1, h2, h3, h4, h5, h6⟩
  · intro p e s m args below meth c s₁ B hml hP _
    have hh0 : s₁.heap = s.heap := by rw [B.state]; rfl
    obtain ⟨t, a1, o, b1, b2, b3⟩ := body p e s m args below meth c s₁ B hml hP s₁ hh0 (Stand.of_body B)
    exact ⟨t, o, a1, b1, b2, ⟨b3.1, b3.2⟩⟩
theorem g_ofW {y : MethodName} {bytes : ByteArray} {maxL : Nat} {ret : Option FieldType} {rm : Room} {As : List Value} {rv : Option Value} (hy : plainFor y = true) (hn : As.length ≤ maxL ∧ (∀ v ∈ As, v.category = 1) ∨ (lg_sl As).length ≤ maxL)
    (body : ∀ (p : Program) (e : Env) (s : State) (m : MethodId) (args : Array Value) (below : List Frame) (meth : Method) (c : Code) (ls : Array Slot), s.heap.size = hs → meth.name = y.name → gF p s m args meth c y.cls bytes maxL ret D Y (gA S hs) → gM D Y (gA S hs) s.heap S hs s.heap [] → lv_has ls maxL (lv_args 0 As) →
      W p l e rm s m args below meth c s.heap [] 0 0 (MQ below (gQ rv D Y S' hs' (gA S hs)) args s rm.cells rm.slots (gA S hs)) (F0 m 0 ls [])) : gMet l y (gWs y bytes maxL ret) rm As D Y S hs rv S' hs' := by
  refine g_ofWF (cc := bytes) (maxL := maxL) (ret := ret) hy rfl ?_
  intro p e s m args below meth c s₁ B hml hv
  obtain ⟨rfl, hsz, hW, hK, hX⟩ := hv
  have hts := atoms_spec (ws := gWs y bytes maxL ret) B.pre
  have hl : lv_has ((lg_sl As ++ List.replicate (maxL - (lg_sl As).length) Slot.unset).toArray) maxL (lv_args 0 As) := by
    rcases hn with ⟨h1, h2⟩ | h1
    · exact g_entry As h2 h1
    · exact lv_entry As h1
  rw [lg_entry_eq]
  refine body p e s m _ below meth c _ hsz (name_of_methodNamed B.named B.method).1 ⟨B.exec, B.bytes, hml, findClass_of_methodNamed B.named, fun w hw => hts w (List.mem_cons_of_mem _ hw), hK, B.returns, B.notSynchronized, hX⟩ ⟨hsz, hW, fun a ha => Or.inl ha, va_S.rf, fun q hq => Or.inr (by rw [← hsz]; exact hq)⟩ hl
end GCalls
