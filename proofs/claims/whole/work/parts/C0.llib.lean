/-! THE LAW'S SIDE. A wrapper: a static method of the law with a table of handlers, that puts the class's answer into a row of one place and answers 0, or answers the handler's number. -/
def gNc (U : State) : Prop := ∀ a b : Nat, 1 ≤ a → a ≤ 6 → 1 ≤ b → b ≤ 6 → a ≠ b → va_Nc (gE a) (gE b) U
theorem gNc.moved {u U : State} (hvm : u.vm.Alike U.vm) (h : gNc u) : gNc U := fun a b h1 h2 h3 h4 h5 => (h a b h1 h2 h3 h4 h5).moved hvm
def lA (S : GS) (hs o : Nat) : Nat → Prop := fun q => gA S hs q ∨ q = o
def lPre (D : va_G) (Y : Nat → ClassId) (S : GS) (hs : Nat) (ty : FieldType) (yl : ClassId) (o : Nat) (c0 : Value) (U : State) : Prop := gPre D Y S hs U ∧ gNc U ∧ ArrOfT U yl ty ∧ U.heap[o]? = some (arrV yl 1 (fun _ => c0)) ∧ gT S o = 0
def lPo (k : Int32) (c1 : Value) (D : va_G) (Y : Nat → ClassId) (S' : GS) (hs' : Nat) (A : Nat → Prop) (yl : ClassId) (o : Nat) : Array Value → State → Outcome → State → Prop := fun _ st oc t =>
  oc = .returned (some (.int k)) ∧ hs' ≤ t.heap.size ∧ gWd D Y S' t.heap ∧ gK D Y t ∧ (∀ a, gT S' a ≠ 0 → A a) ∧ t.heap[o]? = some (arrV yl 1 (fun _ => c1)) ∧ va_F (fun q => A q ∨ q = o) st t
def lMet (l : Launch) (y : MethodName) (ws : List Cond) (rm : Room) (As : List Value) (D : va_G) (Y : Nat → ClassId) (S : GS) (hs : Nat) (ty : FieldType) (yl : ClassId) (o : Nat) (c0 : Value) (k : Int32) (c1 : Value) (S' : GS) (hs' : Nat) : Prop :=
  Met l y ws rm (va_Pc As (lPre D Y S hs ty yl o c0)) (lPo k c1 D Y S' hs' (gA S hs) yl o) rm.cells rm.slots (lA S hs o)
abbrev lWs (y : MethodName) (bytes : ByteArray) (maxL : Nat) (hh : List (Nat × Nat × Nat × Nat)) : List Cond := Cond.codeWith y bytes maxL (some .int) hh :: aw
def lKc (y : MethodName) (bytes : ByteArray) (maxL : Nat) (hh : List (Nat × Nat × Nat × Nat)) (n : Nat) : Prop := Cond.codeWith y bytes maxL (some .int) hh ∈ aw ∧ Cond.initialized y.cls ∈ aw ∧ y.cls ≠ "java/lang/invoke/MethodHandle" ∧ y.cls ≠ "java/lang/invoke/VarHandle" ∧ (parseMethodDescriptor y.desc).map (fun d => d.parameters.length) = some n
section LLib
variable {p : Program} {l : Launch} {e : Env} {R : Room} {s : State} {m : MethodId} {args : Array Value} {below : List Frame} {meth : Method} {c : Code} {H : Heap} {locs : List Loc} {cells slots : Nat} {Q : State → Prop}
variable {cc : ByteArray} {pc : Nat} {ls : Array Slot} {rest st0 : List Value} {D : va_G} {Y : Nat → ClassId} {A : Nat → Prop} {own : String} {nL : Nat} {rt : Option FieldType} {H0 : Heap} {S S' : GS} {hs hs' : Nat}
theorem lPre.blind {As : List Value} {ty : FieldType} {yl : ClassId} {o : Nat} {c0 : Value} : FrameBlind (va_Pc As (lPre D Y S hs ty yl o c0)) := fun a U g mk q => by
  obtain ⟨q0, q1, q2, q3, q4, q5⟩ := q
  exact ⟨q0, (gPre.blind (As := As) a U g mk ⟨q0, q1⟩).2, q2.moved (u := U) (U := U.calling g mk a) (Vm.Alike.refl U.vm), arrOfT_moved (E := U.calling g mk a) (Vm.Alike.refl U.vm) q3, q4, q5⟩
/-- a wrapper's start -/
theorem l_ofW {y : MethodName} {bytes : ByteArray} {maxL : Nat} {hh : List (Nat × Nat × Nat × Nat)} {rm : Room} {As : List Value} {k : Int32} {c0 c1 : Value} {ty : FieldType} {yl : ClassId} {o : Nat} (hy : plainName y.cls = true) (hn : As.length ≤ maxL ∧ ∀ v ∈ As, v.category = 1)
    (body : ∀ (p : Program) (e : Env) (s : State) (m : MethodId) (args : Array Value) (below : List Frame) (meth : Method) (c : Code) (ls : Array Slot), s.heap.size = hs → c.exceptionTable.toList = tableOf hh → gF p s m args meth c y.cls bytes maxL (some .int) D Y (gA S hs) → gNc s → ArrOfT s yl ty → s.heap[o]? = some (arrV yl 1 (fun _ => c0)) → gT S o = 0 → gM D Y (gA S hs) s.heap S hs s.heap [] → lv_has ls maxL (lv_args 0 As) →
      W p l e rm s m args below meth c s.heap [] 0 0 (MQ below (lPo k c1 D Y S' hs' (gA S hs) yl o) args s rm.cells rm.slots (lA S hs o)) (F0 m 0 ls [])) : lMet l y (lWs y bytes maxL hh) rm As D Y S hs ty yl o c0 k c1 S' hs' := by
  unfold lMet Met
  refine MetFree.of_bodyS (code := bytes) (maxLocals := maxL) (ret := some .int) hy ?_ ?_
  · intro args s m h hn
    obtain ⟨m9, meth, c, hn9, h1, h2, h3, h4, -, h5, h6, -⟩ := Cond.codeWith_spec (atoms_spec (ws := lWs y bytes maxL hh) h _ List.mem_cons_self)
    cases hn.symm.trans hn9
    exact ⟨meth, c, h1, h2, h3, h4, h5, h6⟩
  · intro p e s m args below meth c s₁ B hml hP _
    obtain ⟨rfl, ⟨hsz, hW, hK, hX⟩, hNc, hAr, hO, hT⟩ := hP
    have hh0 : s₁.heap = s.heap := by rw [B.state]; rfl
    have hts := atoms_spec (ws := lWs y bytes maxL hh) B.pre
    have htab := vx_table (x := y) B (hts _ List.mem_cons_self)
    have hl : lv_has ((lg_sl As ++ List.replicate (maxL - (lg_sl As).length) Slot.unset).toArray) maxL (lv_args 0 As) := g_entry As hn.2 hn.1
    rw [lg_entry_eq]
    obtain ⟨t, a1, o, b1, b2, b3⟩ := body p e s m _ below meth c _ hsz htab ⟨B.exec, B.bytes, hml, findClass_of_methodNamed B.named, fun w hw => hts w (List.mem_cons_of_mem _ hw), hK, B.returns, B.notSynchronized, hX⟩ hNc hAr hO hT ⟨hsz, hW, fun a ha => Or.inl ha, va_S.rf, fun q hq => Or.inr (by rw [← hsz]; exact hq)⟩ hl s₁ hh0 (Stand.of_body B)
    exact ⟨t, o, a1, b1, b2, ⟨b3.1, b3.2⟩⟩
/-- a call by a receiver in a method that catches what it throws -/
theorem l_callX {x : Nat} {pre suf : List ExceptionTableEntry} {x0 : ExceptionTableEntry} {hh : List (Nat × Nat × Nat × Nat)} (hF : gF p s m args meth c own cc nL rt D Y A) (hNc : gNc s) (hM : gM D Y A s.heap S hs H locs) (hout : c.exceptionTable.toList = tableOf hh) {y : MethodName} {bytes : ByteArray} {maxL index n ci b : Nat} {ret : Option FieldType} {rm : Room} {As : List Value} {r : vw_C} (hMet : gMx l y (gWs y bytes maxL ret) rm (.ref b :: As) D Y S hs (.inr x)) (hk : gKc y bytes maxL ret n) (hl : Cond.methodLink own index y ∈ aw) (hin : Cond.instanceMethod y ∈ aw) (hse : Cond.selects y.cls y y ∈ aw)
    (hc : gCl[ci]? = some r) (hC : r.1 = y.cls) (hT : gT S b = ci + 1) (hn : As.length = n) (hsize : ls.size = nL) (hst : st0 = As.reverse ++ .ref b :: rest) (hW : (rest.map fun v => v.category).sum ≤ 8) (hdg : decode cc pc = .ok (.invokevirtual index, 3)) (hR : rm.frames + 1 ≤ R.frames ∧ 8 + (maxL + 11) + rm.locals ≤ R.locals) (hf : cells + rm.cells ≤ R.cells ∧ slots + rm.slots ≤ R.slots)
    (hsp : tableOf hh = pre ++ x0 :: suf) (hcv : covers x0 pc = true) (h0 : x0.catchType ≠ 0) (hx1 : 1 ≤ x ∧ x ≤ 6) (hpass : ∀ z ∈ pre, z.catchType ≠ 0 ∧ ∃ y : Nat, (1 ≤ y ∧ y ≤ 6 ∧ x ≠ y) ∧ Cond.classLink own z.catchType (gE y) ∈ aw) (hlk : Cond.classLink own x0.catchType (gE x) ∈ aw)
    (kk : ∀ (q : Nat) (H1 : Heap) (locs1 : List Loc), hs ≤ H1.size → gWd D Y S H1 → va_S A s.heap H1 locs1 → W p l e R s m args below meth c H1 locs1 (cells + rm.cells) (slots + rm.slots) Q (F0 m x0.handlerPc ls [va_rf (some q)])) : W p l e R s m args below meth c H locs cells slots Q (F0 m pc ls st0) := by
  have hts := hF.2.2.2.2.1
  have hr := vx_runV (As := As) (rest := rest) (H := H) (locs := locs) (cells := cells) (slots := slots) (g := F0 m pc ls st0) (R := R) (below := below) (e := e) (meth := meth) ⟨hF.1, hF.2.1, hF.2.2.1, hF.2.2.2.1, hts⟩ hMet ⟨g_callB hF hk hl hR, hts _ hin, hts _ hse⟩ ⟨gPre.blind, hC ▸ g_recv hF hM hc hT, fun U hU hW => ⟨rfl, gPre.at hF hM hU hW⟩⟩ rfl hn hsize hst (lv_room hW) hdg hf
  intro T hT X
  obtain ⟨m1, m2, m3, m4, m5⟩ := hM
  have hA : ∀ q, gA S hs q → A q := fun q hq => hq.elim (m3 q) (fun h => m5 q (by have := m4.1; omega))
  rcases hr T hT X with ⟨v, st₀, t, T', L, h0, X', hL, e1, e2, ⟨rv, S', hs', hz1, -⟩, st⟩ | ⟨q, st₀, t, T', L, E, ce, h9, X', hL, e1, e2, ⟨x', hz1, hE, g2, g3, hFr⟩, hce, hcv2, hcl, st⟩
  · cases hz1
  · cases hz1
    subst hE
    obtain ⟨hz, hk9⟩ := hFr
    rw [h9] at hz hk9
    have hS : va_S A s.heap T'.heap (locs ++ L) := ⟨Nat.le_trans m4.1 (by rw [e1]; exact hz), fun q h1 h2 => by rw [e1, hk9 q (Nat.lt_of_lt_of_le h1 m4.1) (fun z => h2 (hA q z))]; exact m4.2.1 q h1 h2, fun q hq => by
      rcases List.mem_append.mp hq with h | h
      · exact m4.2.2 q h
      · exact hA _ (hL q h)⟩
    obtain ⟨t2, a1, b1⟩ := vx_catch (l := l) (e := e) (R := R) (below := below) (ls := ls) (rest := rest) (pc := pc) (own := own) (name := gE x) (E := gE x) (q := q) hF.2.2.2.1 pre x0 suf (hout.trans hsp) (fun z hz => by
        obtain ⟨z1, y, ⟨y1, y2, y3⟩, z2⟩ := hpass z hz
        exact Or.inr ⟨z1, gE y, hts _ z2, hNc x y hx1.1 hx1.2 y1 y2 y3⟩) hcv h0 (hts _ hlk) (va_Nw.use rfl (hF.2.2.2.2.2.2.2.2.2.2.1.1 x)) (by rw [e1]; exact hce) hcv2 hcl
      (kk q T'.heap (locs ++ L) (by rw [e1, ← m1]; exact hz) (by rw [e1]; exact g2) hS) T' rfl X'
    exact ⟨t2, st.trans a1, b1⟩
/-- the answer put into the row's place -/
theorem l_last (hF : gF p s m args meth c own cc nL rt D Y (gA S hs)) (hs0 : s.heap.size = hs) (hM : gM D Y (gA S hs) s.heap S' hs' H locs) {yl : ClassId} {o : Nat} {c0 : Value} {v : Int64} (hAr : ArrOfT s yl .long) (hO : s.heap[o]? = some (arrV yl 1 (fun _ => c0))) (hT0 : gT S o = 0) (hdg : decode cc pc = .ok (.lastore, 1))
    (kk : ∀ (H1 : Heap) (locs1 : List Loc), hs' ≤ H1.size → gWd D Y S' H1 → (∀ a, gT S' a ≠ 0 → gA S hs a) → H1[o]? = some (arrV yl 1 (fun _ => .long v)) → va_S (lA S hs o) s.heap H1 locs1 → W p l e R s m args below meth c H1 locs1 cells slots Q (F0 m (pc + 1) ls rest)) :
    W p l e R s m args below meth c H locs cells slots Q (F0 m pc ls (.long v :: .int 0 :: va_rf (some o) :: rest)) := by
  obtain ⟨m1, m2, m3, m4, m5⟩ := hM
  have hlt : o < s.heap.size := (Array.getElem?_eq_some_iff.mp hO).1
  have hno : ¬ gA S hs o := fun h => h.elim (fun h => h hT0) (fun h => by omega)
  have hO1 : H[o]? = some (arrV yl 1 (fun _ => c0)) := (m4.2.1 o hlt hno).trans hO
  refine W.last hF.1 hF.2.1 hO1 (hAr 1 _) (fun q => by cases q) (by rw [arrV_size]; decide) rfl rfl hdg fun H1 e1 z oq => ?_
  refine kk H1 _ (by rw [z, m1]; exact Nat.le_refl _) (fun a => ?_) m3 ?_ ⟨by rw [z]; exact m4.1, fun q h1 h2 => (oq q (fun h => h2 (Or.inr h))).trans (m4.2.1 q h1 (fun h => h2 (Or.inl h))), fun q hq => ?_⟩
  · by_cases ha : a = o
    · have h0 : gT S' a = 0 := by
        by_cases h : gT S' a = 0
        · exact h
        · exact absurd (ha ▸ m3 a h) hno
      exact ⟨fun ci r h1 h2 => (by rw [h0] at h1; exact absurd h1 (by omega)), fun y b h1 => (by rw [h0] at h1; cases h1)⟩
    · exact (m2 a).moved ⟨rfl, rfl, fun _ => rfl, fun _ => rfl⟩ (oq a ha)
  · rw [e1, arrV_store]
    apply congrArg
    unfold arrV
    congr 1
  · rcases List.mem_append.mp hq with h | h
    · exact Or.inl (m4.2.2 q h)
    · rw [List.mem_singleton.mp h]; exact Or.inr rfl
theorem l_dast (hF : gF p s m args meth c own cc nL rt D Y (gA S hs)) (hs0 : s.heap.size = hs) (hM : gM D Y (gA S hs) s.heap S' hs' H locs) {yl : ClassId} {o : Nat} {c0 : Value} {v : UInt64} (hAr : ArrOfT s yl .double) (hO : s.heap[o]? = some (arrV yl 1 (fun _ => c0))) (hT0 : gT S o = 0) (hdg : decode cc pc = .ok (.dastore, 1))
    (kk : ∀ (H1 : Heap) (locs1 : List Loc), hs' ≤ H1.size → gWd D Y S' H1 → (∀ a, gT S' a ≠ 0 → gA S hs a) → H1[o]? = some (arrV yl 1 (fun _ => .double v)) → va_S (lA S hs o) s.heap H1 locs1 → W p l e R s m args below meth c H1 locs1 cells slots Q (F0 m (pc + 1) ls rest)) :
    W p l e R s m args below meth c H locs cells slots Q (F0 m pc ls (.double v :: .int 0 :: va_rf (some o) :: rest)) := by
  obtain ⟨m1, m2, m3, m4, m5⟩ := hM
  have hlt : o < s.heap.size := (Array.getElem?_eq_some_iff.mp hO).1
  have hno : ¬ gA S hs o := fun h => h.elim (fun h => h hT0) (fun h => by omega)
  have hO1 : H[o]? = some (arrV yl 1 (fun _ => c0)) := (m4.2.1 o hlt hno).trans hO
  refine W.dast hF.1 hF.2.1 hO1 (hAr 1 _) (fun q => by cases q) (by rw [arrV_size]; decide) rfl rfl hdg fun H1 e1 z oq => ?_
  refine kk H1 _ (by rw [z, m1]; exact Nat.le_refl _) (fun a => ?_) m3 ?_ ⟨by rw [z]; exact m4.1, fun q h1 h2 => (oq q (fun h => h2 (Or.inr h))).trans (m4.2.1 q h1 (fun h => h2 (Or.inl h))), fun q hq => ?_⟩
  · by_cases ha : a = o
    · have h0 : gT S' a = 0 := by
        by_cases h : gT S' a = 0
        · exact h
        · exact absurd (ha ▸ m3 a h) hno
      exact ⟨fun ci r h1 h2 => (by rw [h0] at h1; exact absurd h1 (by omega)), fun y b h1 => (by rw [h0] at h1; cases h1)⟩
    · exact (m2 a).moved ⟨rfl, rfl, fun _ => rfl, fun _ => rfl⟩ (oq a ha)
  · rw [e1, arrV_store]
    apply congrArg
    unfold arrV
    congr 1
  · rcases List.mem_append.mp hq with h | h
    · exact Or.inl (m4.2.2 q h)
    · rw [List.mem_singleton.mp h]; exact Or.inr rfl
/-- a wrapper's end -/
theorem l_end (hF : gF p s m args meth c own cc nL rt D Y A) {k : Int32} {c1 : Value} {yl : ClassId} {o : Nat} {mc ms : Nat} (hr : rt = some .int) (h1 : hs' ≤ H.size) (h2 : gWd D Y S' H) (h3 : ∀ a, gT S' a ≠ 0 → gA S hs a) (h4 : H[o]? = some (arrV yl 1 (fun _ => c1))) (h5 : va_S (lA S hs o) s.heap H locs) (hdg : decode cc pc = .ok (.ireturn, 1)) (h6 : cells ≤ mc) (h7 : slots ≤ ms) :
    W p l e R s m args below meth c H locs cells slots (MQ below (lPo k c1 D Y S' hs' (gA S hs) yl o) args s mc ms (lA S hs o)) (F0 m pc ls [.int k]) := by
  have hlk := hF.2.2.2.2.2.2.2.1
  exact W.widen h6 h7 (W.zret hF.1 hF.2.1 (hF.2.2.2.2.2.2.1.trans hr) rfl (fun t ht hW => ⟨rfl, by rw [ht]; exact h1, by rw [ht]; exact h2, va_K.moved hW.alike hF.2.2.2.2.2.1, h3, by rw [ht]; exact h4, h5.F ht⟩) h5.2.2 hdg)
/-- a wrapper's end, where it caught -/
theorem l_endX (hF : gF p s m args meth c own cc nL rt D Y (gA S hs)) (hs0 : s.heap.size = hs) {k : Int32} {c0 : Value} {yl : ClassId} {o : Nat} {mc ms : Nat} (hr : rt = some .int) (hO : s.heap[o]? = some (arrV yl 1 (fun _ => c0))) (hT0 : gT S o = 0) (h1 : hs ≤ H.size) (h2 : gWd D Y S H) (h5 : va_S (gA S hs) s.heap H locs) (hdg : decode cc pc = .ok (.ireturn, 1)) (h6 : cells ≤ mc) (h7 : slots ≤ ms) :
    W p l e R s m args below meth c H locs cells slots (MQ below (lPo k c0 D Y S hs (gA S hs) yl o) args s mc ms (lA S hs o)) (F0 m pc ls [.int k]) := by
  have hlt : o < s.heap.size := (Array.getElem?_eq_some_iff.mp hO).1
  have hno : ¬ gA S hs o := fun h => h.elim (fun h => h hT0) (fun h => by omega)
  exact l_end hF hr h1 h2 (fun a ha => Or.inl ha) ((h5.2.1 o hlt hno).trans hO) ⟨h5.1, fun q h1 h2 => h5.2.1 q h1 (fun h => h2 (Or.inl h)), fun q hq => Or.inl (h5.2.2 q hq)⟩ hdg h6 h7
end LLib
