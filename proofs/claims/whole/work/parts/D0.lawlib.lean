/-! THE LAW'S TWO WORLDS IN ONE HEAP: the class's Sc, the reference's Sr, no cell in both; the rows out (o1) and outD (o2) outside both. -/
theorem idx_eq {L : List Nat} (hn : L.Nodup) {i j e : Nat} (h1 : L[i]? = some e) (h2 : L[j]? = some e) : i = j := by
  have hi : i < L.length := (List.getElem?_eq_some_iff.mp h1).1
  exact (List.getElem?_inj hi hn).mp (h1.trans h2.symm)
theorem nI_s0 {i : Nat} (h : i < 600) : nI (i + 1) ≠ 0 := nI_ne0 (by omega) (by omega)
theorem Rc.mono {b k hs hs2 : Nat} {S : GS} {A : AS} (h : Rc b k S hs A) (hl : hs ≤ hs2) : Rc b k S hs2 A := by
  obtain ⟨h1, h2, pa, ch, r1, r2, r3, r4, r5, r6, r7, r8, r9⟩ := h
  exact ⟨h1, h2, pa, ch, r1, r2, r3, r4, r5, r6, fun a ha => r7 a (by omega), by omega, r9⟩
theorem Rc.fre {b k hs : Nat} {S : GS} {A : AS} (h : Rc b k S hs A) : fre S hs := by
  obtain ⟨h1, h2, pa, ch, r1, r2, r3, r4, r5, r6, r7, r8⟩ := h
  exact r7
theorem Rc.tag {b k hs : Nat} {S : GS} {A : AS} (h : Rc b k S hs A) : gT S b = 5 := by
  obtain ⟨h1, h2, pa, ch, r1, r2⟩ := h
  exact r1.1.1
theorem Rq.mono {r cap hs hs2 : Nat} {dq : Nat → Nat} {S : GS} {A : AS} (h : Rq r dq cap S hs A) (hl : hs ≤ hs2) : Rq r dq cap S hs2 A := by
  obtain ⟨r1, r2, r3, r4, r5, r6, r7, r8⟩ := h
  exact ⟨r1, r2, r3, r4, r5, r6, fun a ha => r7 a (by omega), by omega⟩
theorem Rq.fre {r cap hs : Nat} {dq : Nat → Nat} {S : GS} {A : AS} (h : Rq r dq cap S hs A) : fre S hs := h.2.2.2.2.2.2.1
theorem Rq.tag {r cap hs : Nat} {dq : Nat → Nat} {S : GS} {A : AS} (h : Rq r dq cap S hs A) : gT S r = 6 := h.1.1
theorem f_thrown {S : GS} {r : Nat} (h : gT S r = 6) : f_X5_thrown S r = some (gI S r 19) := by
  unfold f_X5_thrown gfI
  rw [Option.bind_some, if_pos h]
  rfl
def lJ (D : va_G) (Y : Nat → ClassId) (A : Nat → Prop) (H0 : Heap) (yl yd : ClassId) (o1 o2 : Nat) (Sc Sr : GS) (v1 v2 : Value) (H : Heap) (locs : List Loc) : Prop :=
  gM D Y A H0 Sc H.size H locs ∧ gM D Y A H0 Sr H.size H locs ∧ (∀ a, gT Sc a ≠ 0 → gT Sr a = 0) ∧ (A o1 ∧ A o2 ∧ o1 ≠ o2) ∧ (gT Sc o1 = 0 ∧ gT Sc o2 = 0) ∧ (gT Sr o1 = 0 ∧ gT Sr o2 = 0) ∧ H[o1]? = some (arrV yl 1 (fun _ => v1)) ∧ H[o2]? = some (arrV yd 1 (fun _ => v2))
section LawLib
variable {p : Program} {l : Launch} {e : Env} {R : Room} {s : State} {m : MethodId} {args : Array Value} {below : List Frame} {meth : Method} {c : Code} {H : Heap} {locs : List Loc} {cells slots : Nat} {Q : State → Prop}
variable {cc : ByteArray} {pc : Nat} {ls : Array Slot} {rest st0 : List Value} {D : va_G} {Y : Nat → ClassId} {A : Nat → Prop} {own : String} {nL : Nat} {rt : Option FieldType} {H0 : Heap} {S S' Sc Sr Sc' : GS} {hs hs' : Nat} {yl yd : ClassId} {o1 o2 : Nat} {v1 v2 w1 : Value}
theorem lJ.swap (h : lJ D Y A H0 yl yd o1 o2 Sc Sr v1 v2 H locs) : lJ D Y A H0 yl yd o1 o2 Sr Sc v1 v2 H locs := by
  obtain ⟨h1, h2, h3, h4, h5, h6, h7⟩ := h
  refine ⟨h2, h1, fun a ha => ?_, h4, h6, h5, h7⟩
  by_cases z : gT Sc a = 0
  · exact z
  · exact absurd (h3 a z) ha
theorem lJ.swapO (h : lJ D Y A H0 yl yd o1 o2 Sc Sr v1 v2 H locs) : lJ D Y A H0 yd yl o2 o1 Sc Sr v2 v1 H locs := by
  obtain ⟨h1, h2, h3, ⟨h4, h4b, h4c⟩, ⟨h5, h5b⟩, ⟨h6, h6b⟩, h7, h8⟩ := h
  exact ⟨h1, h2, h3, ⟨h4b, h4, Ne.symm h4c⟩, ⟨h5b, h5⟩, ⟨h6b, h6⟩, h8, h7⟩
theorem lJ.next {H1 : Heap} {locs1 : List Loc} (h : lJ D Y A H0 yl yd o1 o2 Sc Sr v1 v2 H locs) (hfr : fre Sr H.size) (hw : gWd D Y Sc' H1) (ht : ∀ a, gT Sc' a ≠ 0 → gA Sc H.size a) (hk : ∀ q, q < H.size → ¬ gA Sc H.size q → q ≠ o1 → H1[q]? = H[q]?) (hS : va_S A H0 H1 locs1) (e1 : H1[o1]? = some (arrV yl 1 (fun _ => w1))) :
    lJ D Y A H0 yl yd o1 o2 Sc' Sr w1 v2 H1 locs1 := by
  obtain ⟨⟨m1, m2, m3, m4, m5⟩, ⟨n1, n2, n3, n4, n5⟩, h3, ⟨h4, h4b, h4c⟩, ⟨h5, h5b⟩, ⟨h6, h6b⟩, h7, h8⟩ := h
  have l1 : o1 < H.size := (Array.getElem?_eq_some_iff.mp h7).1
  have l2 : o2 < H.size := (Array.getElem?_eq_some_iff.mp h8).1
  have na : ∀ a, a < H.size → gT Sc a = 0 → ¬ gA Sc H.size a := fun a ha hz hg => hg.elim (fun h => h hz) (fun h => by omega)
  have z0 : ∀ a, a < H.size → gT Sc a = 0 → gT Sc' a = 0 := fun a ha hz => by
    by_cases h : gT Sc' a = 0
    · exact h
    · exact absurd (ht a h) (na a ha hz)
  have hA : ∀ q, gA Sc H.size q → A q := fun q hq => hq.elim (m3 q) (fun h => m5 q (by have := m4.1; omega))
  refine ⟨⟨rfl, hw, fun a ha => hA a (ht a ha), hS, m5⟩, ⟨rfl, fun a => ?_, n3, hS, n5⟩, fun a ha => ?_, ⟨h4, h4b, h4c⟩, ⟨z0 _ l1 h5, z0 _ l2 h5b⟩, ⟨h6, h6b⟩, e1, (hk o2 l2 (na _ l2 h5b) (Ne.symm h4c)).trans h8⟩
  · by_cases z : gT Sr a = 0
    · exact ⟨fun ci r g1 g2 => (by rw [z] at g1; exact absurd g1 (by omega)), fun y b g1 => (by rw [z] at g1; cases g1)⟩
    · have hlt : a < H.size := by
        by_cases hlt : a < H.size
        · exact hlt
        · exact absurd (hfr a (by omega)) z
      have hz : gT Sc a = 0 := by
        by_cases y : gT Sc a = 0
        · exact y
        · exact absurd (h3 a y) z
      exact (n2 a).moved ⟨rfl, rfl, fun _ => rfl, fun _ => rfl⟩ (hk a hlt (na a hlt hz) (fun q => z (q ▸ h6)))
  · rcases ht a ha with h | h
    · exact h3 a h
    · exact hfr a h
/-- a call of a wrapper -/
theorem l_callW (hF : gF p s m args meth c own cc nL rt D Y A) (hNc : gNc s) {ty : FieldType} (hAr : ArrOfT s yl ty) (hJ : lJ D Y A s.heap yl yd o1 o2 Sc Sr v1 v2 H locs) (hfr : fre Sr H.size) {y : MethodName} {bytes : ByteArray} {maxL index n : Nat} {hh : List (Nat × Nat × Nat × Nat)} {rm : Room} {As : List Value} {k : Int32} {c1 : Value}
    (hMet : lMet l y (lWs y bytes maxL hh) rm As D Y Sc H.size ty yl o1 v1 k c1 Sc' hs') (hk : lKc y bytes maxL hh n) (hl : Cond.methodLink own index y ∈ aw) (hin : Cond.static y ∈ aw)
    (hn : As.length = n) (hsize : ls.size = nL) (hst : st0 = As.reverse ++ rest) (hW : (rest.map fun v => v.category).sum ≤ 8) (hdg : decode cc pc = .ok (.invokestatic index, 3)) (hR : rm.frames + 1 ≤ R.frames ∧ 8 + (maxL + 11) + rm.locals ≤ R.locals) (hf : cells + rm.cells ≤ R.cells ∧ slots + rm.slots ≤ R.slots)
    (kk : ∀ (H1 : Heap) (locs1 : List Loc), hs' ≤ H1.size → H.size ≤ H1.size → lJ D Y A s.heap yl yd o1 o2 Sc' Sr c1 v2 H1 locs1 → W p l e R s m args below meth c H1 locs1 (cells + rm.cells) (slots + rm.slots) Q (F0 m (pc + 3) ls (.int k :: rest))) : W p l e R s m args below meth c H locs cells slots Q (F0 m pc ls st0) := by
  have hts := hF.2.2.2.2.1
  have cw : vx_CSW R s args own index y bytes maxL (some .int) hh (lWs y bytes maxL hh) rm rm.cells rm.slots n := by
    refine vx_cwSW (Ts := aw) (ws' := aw) n hts (fun w hw => ?_) rfl rfl rfl hk.2.2 hR
    have : w ∈ aw := by
      rcases List.mem_append.mp hw with h | h
      · rcases List.mem_cons.mp h with rfl | h
        · exact hl
        · rcases List.mem_cons.mp h with rfl | h
          · exact hin
          · rcases List.mem_cons.mp h with rfl | h
            · exact hk.2.1
            · exact nomatch h
      · rcases List.mem_cons.mp h with rfl | h
        · exact hk.1
        · exact h
    exact ⟨this, good_of_word (List.mem_filter.mp this).2⟩
  have hJ' := hJ
  obtain ⟨⟨m1, m2, m3, m4, m5⟩, -, -, ⟨h4, -, -⟩, ⟨h5, -⟩, -, h7, -⟩ := hJ
  have hr := vx_runSW (As := As) (rest := rest) (H := H) (locs := locs) (cells := cells) (slots := slots) (g := F0 m pc ls st0) (R := R) (below := below) (e := e) (meth := meth) ⟨hF.1, hF.2.1, hF.2.2.1, hF.2.2.2.1, hts⟩ hMet cw ⟨lPre.blind, fun U hU hW => ⟨rfl, gPre.at hF ⟨m1, m2, m3, m4, m5⟩ hU hW, hNc.moved hW.alike, arrOfT_moved hW.alike hAr, by rw [hU]; exact h7, h5⟩⟩ rfl hn hsize hst (lv_room hW) hdg hf
  intro T hT X
  obtain ⟨v, st₀, t, T', L, h0, X', hL, e1, e2, ⟨hv, g1, g2, g3, g4, g5, hz, hk9⟩, st⟩ := hr T hT X
  cases hv
  rw [h0] at hz hk9
  have hA : ∀ q, gA Sc H.size q → A q := fun q hq => hq.elim (m3 q) (fun h => m5 q (by have := m4.1; omega))
  have hA2 : ∀ q, lA Sc H.size o1 q → A q := fun q hq => hq.elim (hA q) (fun h => h ▸ h4)
  obtain ⟨t2, a1, b1⟩ := kk T'.heap (locs ++ L) (by rw [e1]; exact g1) (by rw [e1]; exact hz) (hJ'.next hfr (by rw [e1]; exact g2) g4 (fun q q1 q2 q3 => by rw [e1]; exact hk9 q q1 (fun h => h.elim q2 q3)) ⟨Nat.le_trans m4.1 (by rw [e1]; exact hz), fun q h1 h2 => by rw [e1, hk9 q (Nat.lt_of_lt_of_le h1 m4.1) (fun z => h2 (hA2 q z))]; exact m4.2.1 q h1 h2, fun q hq => by
      rcases List.mem_append.mp hq with h | h
      · exact m4.2.2 q h
      · exact hA2 _ (hL q h)⟩ (by rw [e1]; exact g5)) T' rfl X'
  exact ⟨t2, st t2 a1, b1⟩
/-- a call that returns, with what it leaves alone -/
theorem g_callF {rv : Option Value} {mc ms : Nat} {a : Array Value} (hM : gM D Y A s.heap S hs H locs) (hr : va_Run p l e R s m args below meth c H locs cells slots mc ms (F0 m pc ls st0) rest (gQ rv D Y S' hs' (gA S hs) a) (gA S hs))
    (kk : ∀ (H1 : Heap) (locs1 : List Loc), gM D Y A s.heap S' hs' H1 locs1 → H.size ≤ H1.size → (∀ q, q < H.size → ¬ gA S hs q → H1[q]? = H[q]?) → (∀ a, gT S' a ≠ 0 → gA S hs a) → W p l e R s m args below meth c H1 locs1 (cells + mc) (slots + ms) Q (F0 m (pc + 3) ls (rv.toList ++ rest))) : W p l e R s m args below meth c H locs cells slots Q (F0 m pc ls st0) := by
  intro T hT X
  obtain ⟨v, st₀, t, T', L, h0, X', hL, e1, e2, ⟨hv, ⟨g1, g2, g3, g4⟩, hz, hk⟩, st⟩ := hr T hT X
  cases hv
  rw [h0] at hz hk
  obtain ⟨m1, m2, m3, m4, m5⟩ := hM
  have hA : ∀ q, gA S hs q → A q := fun q hq => hq.elim (m3 q) (fun h => m5 q (by have := m4.1; omega))
  obtain ⟨t2, a1, b1⟩ := kk T'.heap (locs ++ L) ⟨by rw [e1]; exact g1, by rw [e1]; exact g2, fun a ha => hA _ (g4 a ha), ⟨Nat.le_trans m4.1 (by rw [e1]; exact hz), fun q h1 h2 => by rw [e1, hk q (Nat.lt_of_lt_of_le h1 m4.1) (fun z => h2 (hA q z))]; exact m4.2.1 q h1 h2, fun q hq => by
      rcases List.mem_append.mp hq with h | h
      · exact m4.2.2 q h
      · exact hA _ (hL q h)⟩, m5⟩ (by rw [e1]; exact hz) (fun q q1 q2 => by rw [e1]; exact hk q q1 q2) g4 T' rfl X'
  exact ⟨t2, st t2 a1, b1⟩
/-- a call of the class itself, by the law -/
theorem l_callV (hF : gF p s m args meth c own cc nL rt D Y A) (hJ : lJ D Y A s.heap yl yd o1 o2 Sc Sr v1 v2 H locs) (hfr : fre Sr H.size) {y : MethodName} {bytes : ByteArray} {maxL index n ci b : Nat} {ret : Option FieldType} {rm : Room} {As : List Value} {rv : Option Value} {r : vw_C} (hMet : gMet l y (gWs y bytes maxL ret) rm (.ref b :: As) D Y Sc H.size rv Sc' hs') (hk : gKc y bytes maxL ret n) (hl : Cond.methodLink own index y ∈ aw) (hin : Cond.instanceMethod y ∈ aw) (hse : Cond.selects y.cls y y ∈ aw)
    (hc : gCl[ci]? = some r) (hC : r.1 = y.cls) (hT : gT Sc b = ci + 1) (hn : As.length = n) (hsize : ls.size = nL) (hst : st0 = As.reverse ++ .ref b :: rest) (hW : (rest.map fun v => v.category).sum ≤ 8) (hdg : decode cc pc = .ok (.invokevirtual index, 3)) (hR : rm.frames + 1 ≤ R.frames ∧ 8 + (maxL + 11) + rm.locals ≤ R.locals) (hf : cells + rm.cells ≤ R.cells ∧ slots + rm.slots ≤ R.slots)
    (kk : ∀ (H1 : Heap) (locs1 : List Loc), H1.size = hs' → H.size ≤ H1.size → lJ D Y A s.heap yl yd o1 o2 Sc' Sr v1 v2 H1 locs1 → W p l e R s m args below meth c H1 locs1 (cells + rm.cells) (slots + rm.slots) Q (F0 m (pc + 3) ls (rv.toList ++ rest))) : W p l e R s m args below meth c H locs cells slots Q (F0 m pc ls st0) := by
  have hts := hF.2.2.2.2.1
  have hM := hJ.1
  refine g_callF hM (va_runV (As := As) (rest := rest) ⟨hF.1, hF.2.1, hF.2.2.1, hF.2.2.2.1, hts⟩ hMet ⟨g_callB hF hk hl hR, hts _ hin, hts _ hse⟩ ⟨gPre.blind, hC ▸ g_recv hF hM hc hT, fun U hU hW => ⟨rfl, gPre.at hF hM hU hW⟩⟩ rfl hn hsize hst (lv_room hW) hdg hf) (fun H1 locs1 hM1 h1 h2 h3 => ?_)
  have l1 : o1 < H.size := (Array.getElem?_eq_some_iff.mp hJ.2.2.2.2.2.2.1).1
  refine kk H1 locs1 hM1.1 h1 (hJ.next hfr hM1.2.1 h3 (fun q q1 q2 _ => h2 q q1 q2) hM1.2.2.2.1 ((h2 o1 l1 (fun hg => hg.elim (fun h => h hJ.2.2.2.2.1.1) (fun h => by omega))).trans hJ.2.2.2.2.2.2.1))
/-- a call of the reference, by the law -/
theorem l_callR (hF : gF p s m args meth c own cc nL rt D Y A) (hJ : lJ D Y A s.heap yl yd o1 o2 Sc Sr v1 v2 H locs) (hfr : fre Sc H.size) {y : MethodName} {bytes : ByteArray} {maxL index n ci b : Nat} {ret : Option FieldType} {rm : Room} {As : List Value} {rv : Option Value} {r : vw_C} {Sr' : GS} (hMet : gMet l y (gWs y bytes maxL ret) rm (.ref b :: As) D Y Sr H.size rv Sr' hs') (hk : gKc y bytes maxL ret n) (hl : Cond.methodLink own index y ∈ aw) (hin : Cond.instanceMethod y ∈ aw) (hse : Cond.selects y.cls y y ∈ aw)
    (hc : gCl[ci]? = some r) (hC : r.1 = y.cls) (hT : gT Sr b = ci + 1) (hn : As.length = n) (hsize : ls.size = nL) (hst : st0 = As.reverse ++ .ref b :: rest) (hW : (rest.map fun v => v.category).sum ≤ 8) (hdg : decode cc pc = .ok (.invokevirtual index, 3)) (hR : rm.frames + 1 ≤ R.frames ∧ 8 + (maxL + 11) + rm.locals ≤ R.locals) (hf : cells + rm.cells ≤ R.cells ∧ slots + rm.slots ≤ R.slots)
    (kk : ∀ (H1 : Heap) (locs1 : List Loc), H1.size = hs' → H.size ≤ H1.size → lJ D Y A s.heap yl yd o1 o2 Sc Sr' v1 v2 H1 locs1 → W p l e R s m args below meth c H1 locs1 (cells + rm.cells) (slots + rm.slots) Q (F0 m (pc + 3) ls (rv.toList ++ rest))) : W p l e R s m args below meth c H locs cells slots Q (F0 m pc ls st0) :=
  l_callV hF hJ.swap hfr hMet hk hl hin hse hc hC hT hn hsize hst hW hdg hR hf (fun H1 locs1 h1 h2 h3 => kk H1 locs1 h1 h2 h3.swap)
/-- 'lcmp' -/
theorem lv_lcmp (hexec : p.tables.exec = Jvm.exec) (hb : c.code = cc) {x y : Int64} (hdg : decode cc pc = .ok (.lcmp, 1)) (k : W p l e R s m args below meth c H locs cells slots Q (F0 m (pc + 1) ls (.int (if x > y then 1 else if x = y then 0 else -1) :: rest))) : W p l e R s m args below meth c H locs cells slots Q (F0 m pc ls (.long y :: .long x :: rest)) := by
  intro T hT X
  obtain ⟨t, a, b⟩ := k T hT X
  refine ⟨t, ?_, b⟩
  by_cases h1 : x > y
  · rw [if_pos h1] at a
    jvm_step X.here [X.here.top, hexec, hb, hdg, h1]
    exact a
  · rw [if_neg h1] at a
    by_cases h2 : x = y
    · rw [if_pos h2] at a
      subst h2
      jvm_step X.here [X.here.top, hexec, hb, hdg, h1]
      exact a
    · rw [if_neg h2] at a
      jvm_step X.here [X.here.top, hexec, hb, hdg, h1, h2]
      exact a
end LawLib
