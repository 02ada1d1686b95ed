/-! METHODS THAT MAY THROW: z is what they do: (answer, state, size) or the exception's number (nothing is changed then but that cells came) -/
abbrev gZt : Type := (Option Value × GS × Nat) ⊕ Nat
def gQz (z : gZt) (D : va_G) (Y : Nat → ClassId) (A : Nat → Prop) : Array Value → State → Outcome → State → Prop := fun a st oc t => ∃ (rv : Option Value) (S' : GS) (hs' : Nat), z = .inl (rv, S', hs') ∧ gQ rv D Y S' hs' A a st oc t
def gXz (z : gZt) (D : va_G) (Y : Nat → ClassId) (S : GS) (A : Nat → Prop) : String → State → State → Prop := fun E st t => ∃ e : Nat, z = .inr e ∧ E = gE e ∧ gWd D Y S t.heap ∧ gK D Y t ∧ va_F A st t
def gMx (l : Launch) (y : MethodName) (ws : List Cond) (rm : Room) (As : List Value) (D : va_G) (Y : Nat → ClassId) (S : GS) (hs : Nat) (z : gZt) : Prop :=
  vx_Met l y ws rm (va_Pc As (gPre D Y S hs)) (gQz z D Y (gA S hs)) (gXz z D Y S (gA S hs)) rm.cells rm.slots (gA S hs)
section GThrow
variable {p : Program} {l : Launch} {e : Env} {R : Room} {s : State} {m : MethodId} {args : Array Value} {below : List Frame} {meth : Method} {c : Code} {H : Heap} {locs : List Loc} {cells slots : Nat} {Q : State → Prop}
variable {cc : ByteArray} {pc : Nat} {ls : Array Slot} {rest st0 : List Value} {D : va_G} {Y : Nat → ClassId} {A : Nat → Prop} {own : String} {nL : Nat} {rt : Option FieldType} {H0 : Heap} {S S' : GS} {hs hs' : Nat} {z : gZt} {mc0 ms0 : Nat}
/-- out of a method: the exception e, nothing of its world changed -/
theorem g_out (hF : gF p s m args meth c own cc nL rt D Y A) (hM : gM D Y A s.heap S hs H locs) {H1 : Heap} {locs1 : List Loc} {x : Nat} {E : String} {ce : Cell} {q : Addr} (hz : z = .inr x) (hE : E = gE x) (hout : ∀ x ∈ c.exceptionTable.toList, False) (hcell : H1[q]? = some ce) (hv : ce.vm = .none) (hcl : s.vm.findClass E = some ce.cls) (hW : gWd D Y S H1) (hS : va_S A s.heap H1 locs1) (h1 : cells ≤ mc0) (h2 : slots ≤ ms0) :
    vx_W p l e R s m args below meth c H1 locs1 cells slots (vx_MQ below (gQz z D Y A) (gXz z D Y S A) args s mc0 ms0 A) (F0 m pc ls rest) q := by
  refine vx_out (fun x hx => (hout x hx).elim) hF.2.2.2.2.2.2.2.1 hcell hv hcl (fun t ht hal => ?_) hS.2.2 h1 h2
  exact ⟨x, hz, hE, by rw [ht]; exact hW, va_K.moved hal hF.2.2.2.2.2.1, hS.F ht⟩
theorem g_callx {z1 : gZt} {mc ms : Nat} {a : Array Value} (hF : gF p s m args meth c own cc nL rt D Y A) (hM : gM D Y A s.heap S hs H locs) (hout : ∀ x ∈ c.exceptionTable.toList, False) (hr : vx_Run p l e R s m args below meth c H locs cells slots mc ms (F0 m pc ls st0) rest (gQz z1 D Y (gA S hs) a) (gXz z1 D Y S (gA S hs)) (gA S hs)) (h1 : cells + mc ≤ mc0) (h2 : slots + ms ≤ ms0)
    (kx : ∀ x : Nat, z1 = .inr x → z = .inr x)
    (kk : ∀ (rv : Option Value) (S' : GS) (hs' : Nat), z1 = .inl (rv, S', hs') → ∀ (H1 : Heap) (locs1 : List Loc), gM D Y A s.heap S' hs' H1 locs1 → W p l e R s m args below meth c H1 locs1 (cells + mc) (slots + ms) (vx_MQ below (gQz z D Y A) (gXz z D Y S A) args s mc0 ms0 A) (F0 m (pc + 3) ls (rv.toList ++ rest))) : W p l e R s m args below meth c H locs cells slots (vx_MQ below (gQz z D Y A) (gXz z D Y S A) args s mc0 ms0 A) (F0 m pc ls st0) := by
  intro T hT X
  have hM' := hM
  obtain ⟨m1, m2, m3, m4, m5⟩ := hM
  have hA : ∀ q, gA S hs q → A q := fun q hq => hq.elim (m3 q) (fun h => m5 q (by have := m4.1; omega))
  have keep : ∀ {st₀ t T' : State} {L : List Loc}, st₀.heap = H → T'.heap = t.heap → va_F (gA S hs) st₀ t → (∀ q ∈ L, gA S hs q.base) → va_S A s.heap T'.heap (locs ++ L) := by
    intro st₀ t T' L h0 e1 hFr hL
    obtain ⟨hz, hk⟩ := hFr
    rw [h0] at hz hk
    exact ⟨Nat.le_trans m4.1 (by rw [e1]; exact hz), fun q h1 h2 => by rw [e1, hk q (Nat.lt_of_lt_of_le h1 m4.1) (fun z => h2 (hA q z))]; exact m4.2.1 q h1 h2, fun q hq => by
      rcases List.mem_append.mp hq with h | h
      · exact m4.2.2 q h
      · exact hA _ (hL q h)⟩
  rcases hr T hT X with ⟨v, st₀, t, T', L, h0, X', hL, e1, e2, ⟨rv, S', hs', hz1, hv, ⟨g1, g2, g3, g4⟩, hFr⟩, st⟩ | ⟨q, st₀, t, T', L, E, ce, h0, X', hL, e1, e2, ⟨x, hz1, hE, g2, g3, hFr⟩, hce, hcv, hcl, st⟩
  · cases hv
    obtain ⟨t2, a1, b1⟩ := kk _ S' hs' hz1 T'.heap (locs ++ L) ⟨by rw [e1]; exact g1, by rw [e1]; exact g2, fun a ha => hA _ (g4 a ha), keep h0 e1 hFr hL, m5⟩ T' rfl X'
    exact ⟨t2, st t2 a1, b1⟩
  · obtain ⟨t2, a1, b1⟩ := g_out (l := l) (e := e) (R := R) (below := below) (pc := pc) (ls := ls) (rest := rest) hF hM' (kx x hz1) hE hout (by rw [e1]; exact hce) hcv hcl (by rw [e1]; exact g2) (keep h0 e1 hFr hL) h1 h2 T' rfl X'
    exact ⟨t2, st.trans a1, b1⟩
theorem g_callVx {z1 : gZt} (hF : gF p s m args meth c own cc nL rt D Y A) (hM : gM D Y A s.heap S hs H locs) (hout : ∀ x ∈ c.exceptionTable.toList, False) {y : MethodName} {bytes : ByteArray} {maxL index n ci b : Nat} {ret : Option FieldType} {rm : Room} {As : List Value} {r : vw_C} (hMet : gMx l y (gWs y bytes maxL ret) rm (.ref b :: As) D Y S hs z1) (hk : gKc y bytes maxL ret n) (hl : Cond.methodLink own index y ∈ aw) (hin : Cond.instanceMethod y ∈ aw) (hse : Cond.selects y.cls y y ∈ aw)
    (hc : gCl[ci]? = some r) (hC : r.1 = y.cls) (hT : gT S b = ci + 1) (hn : As.length = n) (hsize : ls.size = nL) (hst : st0 = As.reverse ++ .ref b :: rest) (hW : (rest.map fun v => v.category).sum ≤ 8) (hdg : decode cc pc = .ok (.invokevirtual index, 3)) (hR : rm.frames + 1 ≤ R.frames ∧ 8 + (maxL + 11) + rm.locals ≤ R.locals) (hf : cells + rm.cells ≤ R.cells ∧ slots + rm.slots ≤ R.slots) (h1 : cells + rm.cells ≤ mc0) (h2 : slots + rm.slots ≤ ms0)
    (kx : ∀ x : Nat, z1 = .inr x → z = .inr x)
    (kk : ∀ (rv : Option Value) (S' : GS) (hs' : Nat), z1 = .inl (rv, S', hs') → ∀ (H1 : Heap) (locs1 : List Loc), gM D Y A s.heap S' hs' H1 locs1 → W p l e R s m args below meth c H1 locs1 (cells + rm.cells) (slots + rm.slots) (vx_MQ below (gQz z D Y A) (gXz z D Y S A) args s mc0 ms0 A) (F0 m (pc + 3) ls (rv.toList ++ rest))) : W p l e R s m args below meth c H locs cells slots (vx_MQ below (gQz z D Y A) (gXz z D Y S A) args s mc0 ms0 A) (F0 m pc ls st0) := by
  have hts := hF.2.2.2.2.1
  exact g_callx hF hM hout (vx_runV (As := As) (rest := rest) ⟨hF.1, hF.2.1, hF.2.2.1, hF.2.2.2.1, hts⟩ hMet ⟨g_callB hF hk hl hR, hts _ hin, hts _ hse⟩ ⟨gPre.blind, hC ▸ g_recv hF hM hc hT, fun U hU hW => ⟨rfl, gPre.at hF hM hU hW⟩⟩ rfl hn hsize hst (lv_room hW) hdg hf) h1 h2 kx kk
theorem g_callSx {z1 : gZt} (hF : gF p s m args meth c own cc nL rt D Y A) (hM : gM D Y A s.heap S hs H locs) (hout : ∀ x ∈ c.exceptionTable.toList, False) {y : MethodName} {bytes : ByteArray} {maxL index n : Nat} {ret : Option FieldType} {rm : Room} {As : List Value} (hMet : gMx l y (gWs y bytes maxL ret) rm As D Y S hs z1) (hk : gKc y bytes maxL ret n) (hl : Cond.methodLink own index y ∈ aw) (hin : Cond.static y ∈ aw)
    (hn : As.length = n) (hsize : ls.size = nL) (hst : st0 = As.reverse ++ rest) (hW : (rest.map fun v => v.category).sum ≤ 8) (hdg : decode cc pc = .ok (.invokestatic index, 3)) (hR : rm.frames + 1 ≤ R.frames ∧ 8 + (maxL + 11) + rm.locals ≤ R.locals) (hf : cells + rm.cells ≤ R.cells ∧ slots + rm.slots ≤ R.slots) (h1 : cells + rm.cells ≤ mc0) (h2 : slots + rm.slots ≤ ms0)
    (kx : ∀ x : Nat, z1 = .inr x → z = .inr x)
    (kk : ∀ (rv : Option Value) (S' : GS) (hs' : Nat), z1 = .inl (rv, S', hs') → ∀ (H1 : Heap) (locs1 : List Loc), gM D Y A s.heap S' hs' H1 locs1 → W p l e R s m args below meth c H1 locs1 (cells + rm.cells) (slots + rm.slots) (vx_MQ below (gQz z D Y A) (gXz z D Y S A) args s mc0 ms0 A) (F0 m (pc + 3) ls (rv.toList ++ rest))) : W p l e R s m args below meth c H locs cells slots (vx_MQ below (gQz z D Y A) (gXz z D Y S A) args s mc0 ms0 A) (F0 m pc ls st0) := by
  have hts := hF.2.2.2.2.1
  exact g_callx hF hM hout (vx_runS (As := As) (rest := rest) ⟨hF.1, hF.2.1, hF.2.2.1, hF.2.2.2.1, hts⟩ hMet ⟨g_callB hF hk hl hR, hts _ hin⟩ ⟨gPre.blind, fun U hU hW => ⟨rfl, gPre.at hF hM hU hW⟩⟩ rfl hn hsize hst (lv_room hW) hdg hf) h1 h2 kx kk
/-- a plain end in a method that may throw -/
theorem g_xend {g : JFrame} {rv : Option Value} {S1 S2 : GS} {hs1 : Nat} (hz : z = .inl (rv, S1, hs1)) (k : W p l e R s m args below meth c H locs cells slots (MQ below (gQ rv D Y S1 hs1 A) args s mc0 ms0 A) g) : W p l e R s m args below meth c H locs cells slots (vx_MQ below (gQz z D Y A) (gXz z D Y S2 A) args s mc0 ms0 A) g := by
  intro T hT X
  obtain ⟨t, a1, o, b1, b2, b3, b4⟩ := k T hT X
  exact ⟨t, a1, o, b1, b2, Or.inl ⟨⟨rv, S1, hs1, hz, b3⟩, b4⟩⟩
abbrev gNm : List String := ["java/lang/RuntimeException", "java/lang/Exception"]
/-- the words of 'new E()', thrown, of class own at the pool's rows ik, ic -/
def gEw (own : String) (ik ic x : Nat) : Prop := Cond.classLink own ik (gE x) ∈ aw ∧ Cond.initialized (gE x) ∈ aw ∧ (∀ w ∈ (vx_at0 own ic (gE x) gNm).filter goodWord, w ∈ aw) ∧ (∀ w ∈ (vx_at0 own ic (gE x) gNm).filter (fun w => !goodWord w), w ∈ [Cond.castable (gE x) (gE x), Cond.declares (Bundle.init0 "java/lang/RuntimeException"), Cond.declares (Bundle.init0 "java/lang/Exception"), Cond.declares (Bundle.init0 "java/lang/Throwable")]) ∧ (∀ w ∈ Cond.classLink own ik (gE x) :: Cond.initialized (gE x) :: vx_at0 own ic (gE x) gNm, vx_ot w = true) ∧ Bundle.fit (gE x) = true
theorem g_throw (hF : gF p s m args meth c own cc nL rt D Y A) (hM : gM D Y A s.heap S hs H locs) (hfl : l.stackTraces = false) (hout : ∀ x ∈ c.exceptionTable.toList, False) {ik ic x : Nat} (hw : gEw own ik ic x) (hz : z = .inr x) (hsize : ls.size = nL)
    (d0 : decode cc pc = .ok (.new ik, 3)) (d3 : decode cc (pc + 3) = .ok (.dup, 1)) (d4 : decode cc (pc + 4) = .ok (.invokespecial ic, 3)) (d7 : decode cc (pc + 7) = .ok (.athrow, 1))
    (hRf : 5 < R.frames) (hRl : (rest.map fun v => v.category).sum + 81 ≤ R.locals) (hRc : cells + 1 ≤ R.cells) (hRs : slots + 6 ≤ R.slots) (h1 : cells + 1 ≤ mc0) (h2 : slots + 6 ≤ ms0) : W p l e R s m args below meth c H locs cells slots (vx_MQ below (gQz z D Y A) (gXz z D Y S A) args s mc0 ms0 A) (F0 m pc ls rest) := by
  obtain ⟨hx, hb, hml, hown, hts, hK, hr, hlk, hX⟩ := hF
  obtain ⟨w1, w2, w3, w4, w5, w6⟩ := hw
  obtain ⟨m1, m2, m3, m4, m5⟩ := hM
  refine vx_throw0 (names := gNm) (A := A) hx hb hfl hown w6 (by decide +kernel) (hts _ w1) (hts _ w2) (vx_hat (fun w h => hts _ (w3 w h)) w4 (vx_c (va_Nw.use rfl (hX.2.2.1.1 x)) (vx_c (va_Nw.use rfl (hX.2.2.1.2.1 _ (by simp))) (vx_c (va_Nw.use rfl (hX.2.2.1.2.1 _ (by simp))) (vx_c (va_Nw.use rfl (hX.2.2.1.2.1 _ (by simp))) vx_n))))) w5 hX.1 hX.2.1 m4 (by rw [hml]; exact hsize) d0 d3 d4 d7 (fun x hx => (hout x hx).elim) hRf (by simpa using hRl) hRc hRs hlk (fun t hal g1 g2 => ?_) m4.2.2 h1 h2
  refine ⟨x, hz, rfl, fun a => ?_, va_K.moved hal hK, ⟨Nat.le_trans m4.1 g1, fun q h3 h4 => (g2 q (Nat.lt_of_lt_of_le h3 m4.1)).trans (m4.2.1 q h3 h4)⟩⟩
  refine ⟨fun ci r g3 g4 => ?_, fun y b g3 => ?_⟩
  · have hlt := m2.lt (Or.inl ⟨ci, r, g3, g4⟩)
    exact ((m2 a).1 ci r g3 g4).kept (g2 a hlt)
  · have hlt := m2.lt (Or.inr ⟨_, g3⟩)
    rw [g2 a hlt]
    exact (m2 a).2 y b g3
theorem g_ofWx {y : MethodName} {bytes : ByteArray} {maxL : Nat} {ret : Option FieldType} {rm : Room} {As : List Value} (hy : plainName y.cls = true) (hn : As.length ≤ maxL ∧ (∀ v ∈ As, v.category = 1) ∨ (lg_sl As).length ≤ maxL)
    (body : ∀ (p : Program) (e : Env) (s : State) (m : MethodId) (args : Array Value) (below : List Frame) (meth : Method) (c : Code) (ls : Array Slot), s.heap.size = hs → (∀ x ∈ c.exceptionTable.toList, False) → gF p s m args meth c y.cls bytes maxL ret D Y (gA S hs) → gM D Y (gA S hs) s.heap S hs s.heap [] → lv_has ls maxL (lv_args 0 As) →
      W p l e rm s m args below meth c s.heap [] 0 0 (vx_MQ below (gQz z D Y (gA S hs)) (gXz z D Y S (gA S hs)) args s rm.cells rm.slots (gA S hs)) (F0 m 0 ls [])) : gMx l y (gWs y bytes maxL ret) rm As D Y S hs z := by
  refine vx_ofW (cc := bytes) (maxL := maxL) (ret := ret) hy rfl ?_
  intro p e s m args below meth c s₁ B hml hout hv
  obtain ⟨rfl, hsz, hW, hK, hX⟩ := hv
  have hts := atoms_spec (ws := gWs y bytes maxL ret) B.pre
  have hl : lv_has ((lg_sl As ++ List.replicate (maxL - (lg_sl As).length) Slot.unset).toArray) maxL (lv_args 0 As) := by
    rcases hn with ⟨h1, h2⟩ | h1
    · exact g_entry As h2 h1
    · exact lv_entry As h1
  rw [lg_entry_eq]
  exact body p e s m _ below meth c _ hsz hout ⟨B.exec, B.bytes, hml, findClass_of_methodNamed B.named, fun w hw => hts w (List.mem_cons_of_mem _ hw), hK, B.returns, B.notSynchronized, hX⟩ ⟨hsz, hW, fun a ha => Or.inl ha, va_S.rf, fun q hq => Or.inr (by rw [← hsz]; exact hq)⟩ hl
end GThrow
