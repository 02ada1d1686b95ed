/-! the words that the printed functions are made of -/
def gN : Nat := 5000
theorem ic_cat (x : Int32) : (Value.int x).category = 1 := rfl
theorem lc_cat (x : Int64) : (Value.long x).category = 2 := rfl
theorem gM.eq {D : va_G} {Y : Nat → ClassId} {A : Nat → Prop} {H0 H : Heap} {S S' : GS} {hs : Nat} {locs : List Loc} (hM : gM D Y A H0 S hs H locs) (e : S = S') : gM D Y A H0 S' hs H locs := e ▸ hM
def gtk (S : GS) (p : Option Nat) (t : Nat) : Option Nat := p.bind fun a => if gT S a = t then some a else none
theorem gtk_of {S : GS} {p : Option Nat} {t a : Nat} (h : gtk S p t = some a) : p = some a ∧ gT S a = t := by
  obtain ⟨b, rfl, g⟩ := gbind h
  by_cases hb : gT S b = t
  · rw [if_pos hb] at g; cases g; exact ⟨rfl, hb⟩
  · rw [if_neg hb] at g; cases g
def gpn (S : GS) (v : Option Nat) : Bool := match v with
  | none => true
  | some b => gT S b == 2
theorem gpn_of {S : GS} {v : Option Nat} (h : gpn S v = true) : ∀ b, v = some b → gT S b = 2 := by
  intro b hb
  subst hb
  exact eq_of_beq h
def gb2 {α β γ : Type} (x : Option (α × β)) (k : α → β → Option γ) : Option γ := x.bind fun z => k z.1 z.2
def gb3 {α β δ γ : Type} (x : Option (α × β × δ)) (k : α → β → δ → Option γ) : Option γ := x.bind fun z => k z.1 z.2.1 z.2.2
theorem gb2E {α β γ : Type} {x : Option (α × β)} {k : α → β → Option γ} {r : γ} (h : gb2 x k = some r) : ∃ a b, x = some (a, b) ∧ k a b = some r := by
  obtain ⟨⟨a, b⟩, e, g⟩ := gbind h
  exact ⟨a, b, e, g⟩
theorem gb3E {α β δ γ : Type} {x : Option (α × β × δ)} {k : α → β → δ → Option γ} {r : γ} (h : gb3 x k = some r) : ∃ a b c, x = some (a, b, c) ∧ k a b c = some r := by
  obtain ⟨⟨a, b, c⟩, e, g⟩ := gbind h
  exact ⟨a, b, c, e, g⟩
def gth {α β : Type} (x : Option (α ⊕ Nat)) (k : α → Option (β ⊕ Nat)) : Option (β ⊕ Nat) := x.bind fun z => Sum.elim k (fun e => some (.inr e)) z
theorem gthE {α β : Type} {x : Option (α ⊕ Nat)} {k : α → Option (β ⊕ Nat)} {r : β ⊕ Nat} (h : gth x k = some r) : (∃ v, x = some (.inl v) ∧ k v = some r) ∨ ∃ e, x = some (.inr e) ∧ r = .inr e := by
  obtain ⟨z, e, g⟩ := gbind h
  cases z with
  | inl v => exact Or.inl ⟨v, e, g⟩
  | inr y => exact Or.inr ⟨y, e, (Option.some.inj g).symm⟩
def gth2 {α β γ : Type} (x : Option ((α × β) ⊕ Nat)) (k : α → β → Option (γ ⊕ Nat)) : Option (γ ⊕ Nat) := gth x fun z => k z.1 z.2
theorem gth2E {α β γ : Type} {x : Option ((α × β) ⊕ Nat)} {k : α → β → Option (γ ⊕ Nat)} {r : γ ⊕ Nat} (h : gth2 x k = some r) : (∃ a b, x = some (.inl (a, b)) ∧ k a b = some r) ∨ ∃ e, x = some (.inr e) ∧ r = .inr e := by
  rcases gthE h with ⟨⟨a, b⟩, e, g⟩ | ⟨e, g⟩
  · exact Or.inl ⟨a, b, e, g⟩
  · exact Or.inr ⟨e, g⟩
def gth3 {α β δ γ : Type} (x : Option ((α × β × δ) ⊕ Nat)) (k : α → β → δ → Option (γ ⊕ Nat)) : Option (γ ⊕ Nat) := gth x fun z => k z.1 z.2.1 z.2.2
theorem gth3E {α β δ γ : Type} {x : Option ((α × β × δ) ⊕ Nat)} {k : α → β → δ → Option (γ ⊕ Nat)} {r : γ ⊕ Nat} (h : gth3 x k = some r) : (∃ a b c, x = some (.inl (a, b, c)) ∧ k a b c = some r) ∨ ∃ e, x = some (.inr e) ∧ r = .inr e := by
  rcases gthE h with ⟨⟨a, b, c⟩, e, g⟩ | ⟨e, g⟩
  · exact Or.inl ⟨a, b, c, e, g⟩
  · exact Or.inr ⟨e, g⟩
def gmin (x y : Int32) : Int32 := if y < x then y else x
def gmax (x y : Int32) : Int32 := if x < y then y else x
def gn32 (r : UInt32) : Bool := decide (r &&& 0x7fffffff ≤ 0x7f800000)
def gn64 (r : UInt64) : Bool := decide (r &&& 0x7fffffffffffffff ≤ 0x7ff0000000000000)
theorem gn32_of {r : UInt32} (h : gn32 r = true) : vf_n32 r := by
  unfold gn32 at h
  have h2 := of_decide_eq_true h
  exact h2
theorem gn64_of {r : UInt64} (h : gn64 r = true) : vf_n64 r := by
  unfold gn64 at h
  have h2 := of_decide_eq_true h
  exact h2
section GLib2
variable {p : Program} {l : Launch} {e : Env} {R : Room} {s : State} {m : MethodId} {args : Array Value} {below : List Frame} {meth : Method} {c : Code} {H : Heap} {locs : List Loc} {cells slots : Nat} {Q : State → Prop}
variable {cc : ByteArray} {pc : Nat} {ls : Array Slot} {rest st0 : List Value} {D : va_G} {Y : Nat → ClassId} {A : Nat → Prop} {own : String} {nL : Nat} {rt : Option FieldType} {H0 : Heap} {S S' : GS} {hs hs' : Nat} {z : gZt} {mc0 ms0 : Nat}
theorem g_callVn {rv : Option Value} (hF : gF p s m args meth c own cc nL rt D Y A) (hM : gM D Y A s.heap S hs H locs) (hout : ∀ x ∈ c.exceptionTable.toList, False) {y : MethodName} {bytes : ByteArray} {maxL index n ci b : Nat} {ret : Option FieldType} {rm : Room} {As : List Value} {r : vw_C} (hMet : gMx l y (gWs y bytes maxL ret) rm (.ref b :: As) D Y S hs (.inl (rv, S', hs'))) (hk : gKc y bytes maxL ret n) (hl : Cond.methodLink own index y ∈ aw) (hin : Cond.instanceMethod y ∈ aw) (hse : Cond.selects y.cls y y ∈ aw)
    (hc : gCl[ci]? = some r) (hC : r.1 = y.cls) (hT : gT S b = ci + 1) (hn : As.length = n) (hsize : ls.size = nL) (hst : st0 = As.reverse ++ .ref b :: rest) (hW : (rest.map fun v => v.category).sum ≤ 8) (hdg : decode cc pc = .ok (.invokevirtual index, 3)) (hR : rm.frames + 1 ≤ R.frames ∧ 8 + (maxL + 11) + rm.locals ≤ R.locals) (hf : cells + rm.cells ≤ R.cells ∧ slots + rm.slots ≤ R.slots) (h1 : cells + rm.cells ≤ mc0) (h2 : slots + rm.slots ≤ ms0)
    (kk : ∀ (H1 : Heap) (locs1 : List Loc), gM D Y A s.heap S' hs' H1 locs1 → W p l e R s m args below meth c H1 locs1 (cells + rm.cells) (slots + rm.slots) (vx_MQ below (gQz z D Y A) (gXz z D Y S A) args s mc0 ms0 A) (F0 m (pc + 3) ls (rv.toList ++ rest))) : W p l e R s m args below meth c H locs cells slots (vx_MQ below (gQz z D Y A) (gXz z D Y S A) args s mc0 ms0 A) (F0 m pc ls st0) :=
  g_callVx hF hM hout hMet hk hl hin hse hc hC hT hn hsize hst hW hdg hR hf h1 h2 (fun x hx => nomatch hx) (fun rv2 S2 hs2 hq => by cases hq; exact kk)
theorem g_callVt {x : Nat} (hF : gF p s m args meth c own cc nL rt D Y A) (hM : gM D Y A s.heap S hs H locs) (hout : ∀ x ∈ c.exceptionTable.toList, False) {y : MethodName} {bytes : ByteArray} {maxL index n ci b : Nat} {ret : Option FieldType} {rm : Room} {As : List Value} {r : vw_C} (hMet : gMx l y (gWs y bytes maxL ret) rm (.ref b :: As) D Y S hs (.inr x)) (hk : gKc y bytes maxL ret n) (hl : Cond.methodLink own index y ∈ aw) (hin : Cond.instanceMethod y ∈ aw) (hse : Cond.selects y.cls y y ∈ aw)
    (hc : gCl[ci]? = some r) (hC : r.1 = y.cls) (hT : gT S b = ci + 1) (hn : As.length = n) (hsize : ls.size = nL) (hst : st0 = As.reverse ++ .ref b :: rest) (hW : (rest.map fun v => v.category).sum ≤ 8) (hdg : decode cc pc = .ok (.invokevirtual index, 3)) (hR : rm.frames + 1 ≤ R.frames ∧ 8 + (maxL + 11) + rm.locals ≤ R.locals) (hf : cells + rm.cells ≤ R.cells ∧ slots + rm.slots ≤ R.slots) (h1 : cells + rm.cells ≤ mc0) (h2 : slots + rm.slots ≤ ms0)
    (hz : z = .inr x) : W p l e R s m args below meth c H locs cells slots (vx_MQ below (gQz z D Y A) (gXz z D Y S A) args s mc0 ms0 A) (F0 m pc ls st0) :=
  g_callVx hF hM hout hMet hk hl hin hse hc hC hT hn hsize hst hW hdg hR hf h1 h2 (fun x hx => by cases hx; exact hz) (fun rv2 S2 hs2 hq => nomatch hq)
theorem g_callSn {rv : Option Value} (hF : gF p s m args meth c own cc nL rt D Y A) (hM : gM D Y A s.heap S hs H locs) (hout : ∀ x ∈ c.exceptionTable.toList, False) {y : MethodName} {bytes : ByteArray} {maxL index n : Nat} {ret : Option FieldType} {rm : Room} {As : List Value} (hMet : gMx l y (gWs y bytes maxL ret) rm As D Y S hs (.inl (rv, S', hs'))) (hk : gKc y bytes maxL ret n) (hl : Cond.methodLink own index y ∈ aw) (hin : Cond.static y ∈ aw)
    (hn : As.length = n) (hsize : ls.size = nL) (hst : st0 = As.reverse ++ rest) (hW : (rest.map fun v => v.category).sum ≤ 8) (hdg : decode cc pc = .ok (.invokestatic index, 3)) (hR : rm.frames + 1 ≤ R.frames ∧ 8 + (maxL + 11) + rm.locals ≤ R.locals) (hf : cells + rm.cells ≤ R.cells ∧ slots + rm.slots ≤ R.slots) (h1 : cells + rm.cells ≤ mc0) (h2 : slots + rm.slots ≤ ms0)
    (kk : ∀ (H1 : Heap) (locs1 : List Loc), gM D Y A s.heap S' hs' H1 locs1 → W p l e R s m args below meth c H1 locs1 (cells + rm.cells) (slots + rm.slots) (vx_MQ below (gQz z D Y A) (gXz z D Y S A) args s mc0 ms0 A) (F0 m (pc + 3) ls (rv.toList ++ rest))) : W p l e R s m args below meth c H locs cells slots (vx_MQ below (gQz z D Y A) (gXz z D Y S A) args s mc0 ms0 A) (F0 m pc ls st0) :=
  g_callSx hF hM hout hMet hk hl hin hn hsize hst hW hdg hR hf h1 h2 (fun x hx => nomatch hx) (fun rv2 S2 hs2 hq => by cases hq; exact kk)
theorem g_callSt {x : Nat} (hF : gF p s m args meth c own cc nL rt D Y A) (hM : gM D Y A s.heap S hs H locs) (hout : ∀ x ∈ c.exceptionTable.toList, False) {y : MethodName} {bytes : ByteArray} {maxL index n : Nat} {ret : Option FieldType} {rm : Room} {As : List Value} (hMet : gMx l y (gWs y bytes maxL ret) rm As D Y S hs (.inr x)) (hk : gKc y bytes maxL ret n) (hl : Cond.methodLink own index y ∈ aw) (hin : Cond.static y ∈ aw)
    (hn : As.length = n) (hsize : ls.size = nL) (hst : st0 = As.reverse ++ rest) (hW : (rest.map fun v => v.category).sum ≤ 8) (hdg : decode cc pc = .ok (.invokestatic index, 3)) (hR : rm.frames + 1 ≤ R.frames ∧ 8 + (maxL + 11) + rm.locals ≤ R.locals) (hf : cells + rm.cells ≤ R.cells ∧ slots + rm.slots ≤ R.slots) (h1 : cells + rm.cells ≤ mc0) (h2 : slots + rm.slots ≤ ms0)
    (hz : z = .inr x) : W p l e R s m args below meth c H locs cells slots (vx_MQ below (gQz z D Y A) (gXz z D Y S A) args s mc0 ms0 A) (F0 m pc ls st0) :=
  g_callSx hF hM hout hMet hk hl hin hn hsize hst hW hdg hR hf h1 h2 (fun x hx => by cases hx; exact hz) (fun rv2 S2 hs2 hq => nomatch hq)
theorem g_mmax (hF : gF p s m args meth c own cc nL rt D Y A) {index : Nat} (hl : Cond.methodLink own index Lib.Math.max.name ∈ aw) (hst : Cond.static Lib.Math.max.name ∈ aw) (hco : Cond.code Lib.Math.max.name Lib.Math.max.code 2 (some .int) ∈ aw) (hini : Cond.initialized "java/lang/Math" ∈ aw) (hsize : ls.size = nL) {x y : Int32} (hdg : decode cc pc = .ok (.invokestatic index, 3)) (hR : 1 ≤ R.frames ∧ 21 ≤ R.locals) (hW : (rest.map fun v => v.category).sum ≤ 8) (hf : cells ≤ R.cells ∧ slots ≤ R.slots)
    (kk : W p l e R s m args below meth c H locs cells slots Q (F0 m (pc + 3) ls (.int (gmax x y) :: rest))) : W p l e R s m args below meth c H locs cells slots Q (F0 m pc ls (.int y :: .int x :: rest)) := by
  obtain ⟨hx, hb, hml, hown, hts, -⟩ := hF
  exact va_mmax hx hb (by rw [hml, hsize]) hown (hts _ hl) (hts _ hst) (hts _ hini) (hts _ hco) hR.1 (by omega) hf.1 hf.2 hdg kk
theorem g_mmin (hF : gF p s m args meth c own cc nL rt D Y A) {index : Nat} (hl : Cond.methodLink own index Lib.Math.min.name ∈ aw) (hst : Cond.static Lib.Math.min.name ∈ aw) (hco : Cond.code Lib.Math.min.name Lib.Math.min.code 2 (some .int) ∈ aw) (hini : Cond.initialized "java/lang/Math" ∈ aw) (hsize : ls.size = nL) {x y : Int32} (hdg : decode cc pc = .ok (.invokestatic index, 3)) (hR : 1 ≤ R.frames ∧ 21 ≤ R.locals) (hW : (rest.map fun v => v.category).sum ≤ 8) (hf : cells ≤ R.cells ∧ slots ≤ R.slots)
    (kk : W p l e R s m args below meth c H locs cells slots Q (F0 m (pc + 3) ls (.int (gmin x y) :: rest))) : W p l e R s m args below meth c H locs cells slots Q (F0 m pc ls (.int y :: .int x :: rest)) := by
  obtain ⟨hx, hb, hml, hown, hts, -⟩ := hF
  exact va_mmin hx hb (by rw [hml, hsize]) hown (hts _ hl) (hts _ hst) (hts _ hini) (hts _ hco) hR.1 (by omega) hf.1 hf.2 hdg kk
end GLib2
