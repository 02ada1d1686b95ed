/-! THE WORLD OF ONE SIDE (class or reference) AS TYPED NUMBERS: S = (ints, references, tags, lengths) by address and place; tags 1.. are the classes of gCl, 11.. the arrays. A method's meaning is a function on S (parts 1x); its contract is made out of that function by program. -/
def aw : List Cond := lw_tbl.filter goodWord
theorem aw_in {w : Cond} (i : Nat) (h : lw_tbl[i]? = some w) (g : goodWord w = true) : w ∈ aw := List.mem_filter.mpr ⟨List.mem_of_getElem? h, g⟩
theorem aw_gin {c0 c1 : Cond} (h1 : c1 ∈ aw) : GoodIn (c0 :: aw) (c1 :: aw) := fun w hw => by
  rcases List.mem_cons.mp hw with rfl | h
  · exact ⟨List.mem_cons_of_mem _ h1, good_of_word (List.mem_filter.mp h1).2⟩
  · exact ⟨List.mem_cons_of_mem _ h, good_of_word (List.mem_filter.mp h).2⟩
abbrev GS : Type := (Nat → Nat → Int32) × (Nat → Nat → Option Nat) × (Nat → Nat) × (Nat → Nat)
def gI (S : GS) (a k : Nat) : Int32 := S.1 a k
def gR (S : GS) (a k : Nat) : Option Nat := S.2.1 a k
def gT (S : GS) (a : Nat) : Nat := S.2.2.1 a
def gZ (S : GS) (a : Nat) : Nat := S.2.2.2 a
def gu2 {α : Type} (f : Nat → Nat → α) (a k : Nat) (v : α) : Nat → Nat → α := fun b j => if b = a then (if j = k then v else f b j) else f b j
def gsI (S : GS) (a k : Nat) (v : Int32) : GS := (gu2 S.1 a k v, S.2.1, S.2.2.1, S.2.2.2)
def gsR (S : GS) (a k : Nat) (v : Option Nat) : GS := (S.1, gu2 S.2.1 a k v, S.2.2.1, S.2.2.2)
def gnw (S : GS) (a t z : Nat) : GS := (fun b j => if b = a then 0 else S.1 b j, fun b j => if b = a then none else S.2.1 b j, fun b => if b = a then t else S.2.2.1 b, fun b => if b = a then z else S.2.2.2 b)
abbrev gCl : List vw_C := [(RX0, TX0, 2), (RX1, TX1, 7), (RX2, TX2, 4), (RX3, TX3, 6), (RX4, TX4, 4), (RX5, TX5, 23)]
def gTy (t : Nat) : Nat → FieldType := match t with
  | 1 => tyX0
  | 2 => tyX1
  | 3 => tyX2
  | 4 => tyX3
  | 5 => tyX4
  | _ => tyX5
def gIsR : FieldType → Bool
  | .object _ => true
  | .array _ => true
  | _ => false
def gV (t : Nat) (S : GS) (a k : Nat) : Value := if gIsR (gTy t k) = true then va_rf (gR S a k) else .int (gI S a k)
def gArr (t : Nat) : Option (Nat × Bool) := match t with
  | 11 => some (0, false)
  | 12 => some (1, false)
  | 13 => some (2, false)
  | 14 => some (3, true)
  | 15 => some (4, true)
  | _ => none
def gW (b : Bool) (S : GS) (a k : Nat) : Value := if b = true then va_rf (gR S a k) else .int (gI S a k)
def gAt (D : va_G) (Y : Nat → ClassId) (S : GS) (H : Heap) (a : Nat) : Prop :=
  (∀ (ci : Nat) (r : vw_C), gT S a = ci + 1 → gCl[ci]? = some r → t_OB a (D.1 ci) r.2.2 (D.2 ci) H (gV (ci + 1) S a)) ∧
  (∀ (y : Nat) (b : Bool), gArr (gT S a) = some (y, b) → H[a]? = some (arrV (Y y) (gZ S a) (fun j => gW b S a j)))
def gSame (S S' : GS) (a : Nat) : Prop := gT S' a = gT S a ∧ gZ S' a = gZ S a ∧ (∀ k, gI S' a k = gI S a k) ∧ (∀ k, gR S' a k = gR S a k)
theorem gSame.v {S S' : GS} {a : Nat} (h : gSame S S' a) (t : Nat) : gV t S' a = gV t S a := by
  funext k
  simp only [gV, h.2.2.1 k, h.2.2.2 k]
theorem gSame.w {S S' : GS} {a : Nat} (h : gSame S S' a) (b : Bool) : (fun j => gW b S' a j) = (fun j => gW b S a j) := by
  funext k
  simp only [gW, h.2.2.1 k, h.2.2.2 k]
theorem gAt.moved {D : va_G} {Y : Nat → ClassId} {S S' : GS} {H H1 : Heap} {a : Nat} (h : gAt D Y S H a) (e : gSame S S' a) (q : H1[a]? = H[a]?) : gAt D Y S' H1 a := by
  refine ⟨fun ci r h1 h2 => ?_, fun y b h1 => ?_⟩
  · rw [e.v]
    exact (h.1 ci r (by rw [← e.1]; exact h1) h2).kept q
  · rw [e.w, q, e.2.1]
    exact h.2 y b (by rw [← e.1]; exact h1)
def gWd (D : va_G) (Y : Nat → ClassId) (S : GS) (H : Heap) : Prop := ∀ a : Nat, gAt D Y S H a
theorem gWd.lt {D : va_G} {Y : Nat → ClassId} {S : GS} {H : Heap} (h : gWd D Y S H) {a : Nat} (ha : (∃ ci r, gT S a = ci + 1 ∧ gCl[ci]? = some r) ∨ ∃ q, gArr (gT S a) = some q) : a < H.size := by
  rcases ha with ⟨ci, r, h1, h2⟩ | ⟨⟨y, b⟩, h1⟩
  · obtain ⟨cell, q1, -⟩ := (h a).1 ci r h1 h2
    exact (Array.getElem?_eq_some_iff.mp q1).1
  · exact (Array.getElem?_eq_some_iff.mp ((h a).2 y b h1)).1
abbrev gTys (Y : Nat → ClassId) : List (ClassId × FieldType) := [(Y 0, .int), (Y 1, .boolean), (Y 2, .char), (Y 3, .object RX1), (Y 4, .array .int)]
def gK (D : va_G) (Y : Nat → ClassId) (U : State) : Prop := va_K D gCl (gTys Y) U
def gA (S : GS) (hs : Nat) : Nat → Prop := fun q => gT S q ≠ 0 ∨ hs ≤ q
/-- the exceptions by their numbers -/
def gE (e : Nat) : String := match e with
  | 1 => "java/lang/IndexOutOfBoundsException"
  | 2 => "java/util/NoSuchElementException"
  | 3 => "java/lang/UnsupportedOperationException"
  | 4 => "java/lang/IllegalArgumentException"
  | 5 => "java/lang/IllegalStateException"
  | _ => "java/lang/ArithmeticException"
/-- the texts of the reference: their places in its pool, their lengths, their letters; Y (100 + k) is the k-th text's object, Y (120 + k) its bytes -/
abbrev gRs : List (Nat × String × Nat) := [(133, "lp", 0), (146, "lpm", 1), (100, "mF", 2), (92, "lpfcae", 3), (104, "lpmkv", 4), (98, "lpfcaev", 5), (102, "k", 6), (218, "kKmM", 7)]
abbrev gLn : List Nat := [2, 3, 2, 6, 5, 7, 1, 4]
abbrev gBy : List (List Int32) := [[108, 112], [108, 112, 109], [109, 70], [108, 112, 102, 99, 97, 101], [108, 112, 109, 107, 118], [108, 112, 102, 99, 97, 101, 118], [107], [107, 75, 109, 77]]
def gAO (U : State) : Prop := (Cond.arrayOver (.array .int)).before #[] U = true
theorem gAO.moved {u U : State} (hvm : u.vm.Alike U.vm) (h : gAO u) : gAO U := by
  obtain ⟨comp, c, k, h1, h2, h3, h4, h5⟩ := arrayOverA_spec h
  obtain ⟨k', hk', he⟩ := hvm.2.2 _ _ h3
  have hi : (U.vm.classes.findIdx? fun (x : Class) => match x.kind with | .array component _ => component == comp | _ => false) = some c := by
    have e1 := va_idx_bare U.vm comp
    first | rw [hvm.bare_eq] at e1 | rw [← hvm.bare_eq] at e1
    rw [va_idx_bare] at e1
    exact e1.symm.trans h2
  have hkind : k'.kind = .array comp (.array .int) := by rw [he]; exact h4
  have f1 : U.vm.findClass (FieldType.array .int).toString = some comp := by rw [hvm.findClass]; exact h1
  have f2 : U.vm.findClass ("[" ++ (FieldType.array .int).toString) = some c := by rw [hvm.findClass]; exact h5
  unfold gAO Cond.before Cond.holds
  simp only [Cond.value]
  rw [f1, Option.bind_some]
  refine (congrArg (fun o : Option Nat => (o.bind (fun c => (U.vm.classes[c]?).map fun (k : Class) => match k.kind with | .array _ ty => decide (ty = FieldType.array .int) && decide (U.vm.findClass ("[" ++ (FieldType.array .int).toString) = some c) | _ => false) == some true)) hi).trans ?_
  simp [hk', hkind, f2]
abbrev gEx : List String := ["java/lang/RuntimeException", "java/lang/Exception", "java/lang/Throwable"]
def gXk (U : State) : Prop := (∀ e : Nat, va_Nw (.castable (gE e) (gE e)) U) ∧ (∀ Z ∈ gEx, va_Nw (.declares (Bundle.init0 Z)) U) ∧ va_AO RX1 U ∧ gAO U
theorem gXk.warm {s U : State} (hW : s.WarmedH U.vm) (h : gXk s) : gXk U := ⟨fun e => (h.1 e).warmC hW, fun Z hZ => (h.2.1 Z hZ).warmD hW, va_AO.moved hW.alike h.2.2.1, gAO.moved hW.alike h.2.2.2⟩
theorem gXk.same {u U : State} (hv : u.vm = U.vm) (h : gXk u) : gXk U := ⟨fun e => va_Nw.same rfl hv (h.1 e), fun Z hZ => va_Nw.same rfl hv (h.2.1 Z hZ), va_AO.moved (by rw [hv]; exact Vm.Alike.refl _) h.2.2.1, gAO.moved (by rw [hv]; exact Vm.Alike.refl _) h.2.2.2⟩
def gXs (Y : Nat → Nat) (A : Nat → Prop) (U : State) (H : Heap) : Prop := vk_S 8 gLn gBy (fun k => Y (100 + k)) (fun k => Y (120 + k)) A U H ∧ va_Z "java/lang/String" "COMPACT_STRINGS" "Z" (.int 1) A U H ∧ ∀ q ∈ gRs, vk_R RX5 q.1 q.2.1 (Y (100 + q.2.2)) U
theorem gXs.kept {Y : Nat → Nat} {A B : Nat → Prop} {U : State} {H H1 : Heap} (h : gXs Y A U H) (hq : ∀ a : Nat, a < H.size → ¬ A a → H1[a]? = H[a]?) (hAB : ∀ q, B q → A q) : gXs Y B U H1 := ⟨(h.1.kept hq).narrow hAB, (h.2.1.kept hq).narrow hAB, h.2.2⟩
theorem gXs.warm {Y : Nat → Nat} {A : Nat → Prop} {s U : State} {H : Heap} (hW : s.WarmedH U.vm) (h : gXs Y A s H) : gXs Y A U H := ⟨h.1.moved hW.alike, h.2.1.moved hW.alike, fun q hq => (h.2.2 q hq).warm hW⟩
theorem gXs.same {Y : Nat → Nat} {A : Nat → Prop} {s U : State} {H : Heap} (hv : s.vm = U.vm) (h : gXs Y A s H) : gXs Y A U H := ⟨h.1.moved (by rw [hv]; exact Vm.Alike.refl _), h.2.1.moved (by rw [hv]; exact Vm.Alike.refl _), fun q hq => vk_R.same hv.symm (h.2.2 q hq)⟩
def gX (Y : Nat → Nat) (A : Nat → Prop) (U : State) (H : Heap) : Prop := vx_Zq Bundle.tN "UNASSIGNED_STACK" Bundle.steD A U H ∧ vx_Zq Bundle.tN "SUPPRESSED_SENTINEL" Bundle.listD A U H ∧ gXk U ∧ gXs Y A U H
def gPre (D : va_G) (Y : Nat → ClassId) (S : GS) (hs : Nat) (U : State) : Prop := U.heap.size = hs ∧ gWd D Y S U.heap ∧ gK D Y U ∧ gX Y (gA S hs) U U.heap
def gPo (D : va_G) (Y : Nat → ClassId) (S' : GS) (hs' : Nat) (A : Nat → Prop) (t : State) : Prop := t.heap.size = hs' ∧ gWd D Y S' t.heap ∧ gK D Y t ∧ ∀ a, gT S' a ≠ 0 → A a
def gQ (rv : Option Value) (D : va_G) (Y : Nat → ClassId) (S' : GS) (hs' : Nat) (A : Nat → Prop) : Array Value → State → Outcome → State → Prop := fun _ st oc t => oc = .returned rv ∧ gPo D Y S' hs' A t ∧ va_F A st t
/-- a method that returns: what it answers, the state behind it, the heap's size behind it -/
def gMet (l : Launch) (y : MethodName) (ws : List Cond) (rm : Room) (As : List Value) (D : va_G) (Y : Nat → ClassId) (S : GS) (hs : Nat) (rv : Option Value) (S' : GS) (hs' : Nat) : Prop :=
  Met l y ws rm (va_Pc As (gPre D Y S hs)) (gQ rv D Y S' hs' (gA S hs)) rm.cells rm.slots (gA S hs)
/-- where the machine stands in a method: its world S, a heap of hs cells -/
def gM (D : va_G) (Y : Nat → ClassId) (A : Nat → Prop) (H0 : Heap) (S : GS) (hs : Nat) (H : Heap) (locs : List Loc) : Prop := H.size = hs ∧ gWd D Y S H ∧ (∀ a, gT S a ≠ 0 → A a) ∧ va_S A H0 H locs ∧ ∀ q, H0.size ≤ q → A q
/-- what stays in a method -/
def gF (p : Program) (s : State) (m : MethodId) (args : Array Value) (meth : Method) (c : Code) (own : String) (cc : ByteArray) (nL : Nat) (rt : Option FieldType) (D : va_G) (Y : Nat → ClassId) (A : Nat → Prop) : Prop :=
  p.tables.exec = Jvm.exec ∧ c.code = cc ∧ c.maxLocals = nL ∧ s.vm.findClass own = some m.cls ∧ (∀ w ∈ aw, w.before args s = true) ∧ gK D Y s ∧ meth.sig.returnType = rt ∧ meth.locks = false ∧ gX Y A s s.heap
/-- a class of gCl, its fields -/
def gFd (ci : Nat) (C : String) (T : u_T) (N : Nat) (ty : Nat → FieldType) : Prop :=
  gCl[ci]? = some (C, T, N) ∧ gTy (ci + 1) = ty ∧ (∀ w ∈ u_ws C T N, w ∈ aw) ∧ (∀ k, k < N → parseFieldDescriptor (T k).2.2.1 = some (ty k)) ∧ (∀ a, a < N → ∀ b, b < N → a ≠ b → (T a).2.1 ≠ (T b).2.1) ∧ (∀ k, k < N → (T k).1 = C) ∧ ∀ k, k < N → defaultValue (ty k) = if gIsR (ty k) = true then va_rf none else .int 0
def gfI (S : GS) (p : Option Nat) (t k : Nat) : Option Int32 := p.bind fun a => if gT S a = t then some (gI S a k) else none
def gfR (S : GS) (p : Option Nat) (t k : Nat) : Option (Option Nat) := p.bind fun a => if gT S a = t then some (gR S a k) else none
def gsfI (S : GS) (p : Option Nat) (t k : Nat) (v : Int32) : Option GS := p.bind fun a => if gT S a = t then some (gsI S a k v) else none
def gsfR (S : GS) (p : Option Nat) (t k : Nat) (v : Option Nat) : Option GS := p.bind fun a => if gT S a = t then some (gsR S a k v) else none
def gIx (S : GS) (a t : Nat) (i : Int32) : Prop := gT S a = t ∧ 0 ≤ i.toInt ∧ i.toInt < (gZ S a : Int)
def gIxD (S : GS) (a t : Nat) (i : Int32) : Decidable (gIx S a t i) := by unfold gIx; infer_instance
def gaI (S : GS) (p : Option Nat) (t : Nat) (i : Int32) : Option Int32 := p.bind fun a => if gT S a = t ∧ 0 ≤ i.toInt ∧ i.toInt < (gZ S a : Int) then some (gI S a i.toNatClampNeg) else none
def gaR (S : GS) (p : Option Nat) (t : Nat) (i : Int32) : Option (Option Nat) := p.bind fun a => if gT S a = t ∧ 0 ≤ i.toInt ∧ i.toInt < (gZ S a : Int) then some (gR S a i.toNatClampNeg) else none
def gsaI (S : GS) (p : Option Nat) (t : Nat) (i : Int32) (v : Int32) : Option GS := p.bind fun a => if gT S a = t ∧ 0 ≤ i.toInt ∧ i.toInt < (gZ S a : Int) then some (gsI S a i.toNatClampNeg v) else none
def gsaR (S : GS) (p : Option Nat) (t : Nat) (i : Int32) (v : Option Nat) : Option GS := p.bind fun a => if gT S a = t ∧ 0 ≤ i.toInt ∧ i.toInt < (gZ S a : Int) then some (gsR S a i.toNatClampNeg v) else none
def gal (S : GS) (p : Option Nat) (t : Nat) : Option Int32 := p.bind fun a => if gT S a = t then some (Int32.ofNat (gZ S a)) else none
/-- a check -/
def gck {α : Type} (b : Bool) (k : Option α) : Option α := if b = true then k else none
theorem gckE {α : Type} {b : Bool} {k : Option α} {r : α} (h : gck b k = some r) : b = true ∧ k = some r := by
  unfold gck at h
  by_cases hb : b = true
  · rw [if_pos hb] at h; exact ⟨hb, h⟩
  · rw [if_neg hb] at h; cases h
theorem gbind {α β : Type} {x : Option α} {k : α → Option β} {r : β} (h : x.bind k = some r) : ∃ v, x = some v ∧ k v = some r := Option.bind_eq_some_iff.mp h
theorem gfI_of {S : GS} {p : Option Nat} {t k : Nat} {v : Int32} (h : gfI S p t k = some v) : ∃ a, p = some a ∧ gT S a = t ∧ v = gI S a k := by
  obtain ⟨a, rfl, g⟩ := gbind h
  by_cases hb : gT S a = t
  · rw [if_pos hb] at g; exact ⟨a, rfl, hb, (Option.some.inj g).symm⟩
  · rw [if_neg hb] at g; cases g
theorem gfR_of {S : GS} {p : Option Nat} {t k : Nat} {v : Option Nat} (h : gfR S p t k = some v) : ∃ a, p = some a ∧ gT S a = t ∧ v = gR S a k := by
  obtain ⟨a, rfl, g⟩ := gbind h
  by_cases hb : gT S a = t
  · rw [if_pos hb] at g; exact ⟨a, rfl, hb, (Option.some.inj g).symm⟩
  · rw [if_neg hb] at g; cases g
theorem gsfI_of {S S' : GS} {p : Option Nat} {t k : Nat} {v : Int32} (h : gsfI S p t k v = some S') : ∃ a, p = some a ∧ gT S a = t ∧ S' = gsI S a k v := by
  obtain ⟨a, rfl, g⟩ := gbind h
  by_cases hb : gT S a = t
  · rw [if_pos hb] at g; exact ⟨a, rfl, hb, (Option.some.inj g).symm⟩
  · rw [if_neg hb] at g; cases g
theorem gsfR_of {S S' : GS} {p : Option Nat} {t k : Nat} {v : Option Nat} (h : gsfR S p t k v = some S') : ∃ a, p = some a ∧ gT S a = t ∧ S' = gsR S a k v := by
  obtain ⟨a, rfl, g⟩ := gbind h
  by_cases hb : gT S a = t
  · rw [if_pos hb] at g; exact ⟨a, rfl, hb, (Option.some.inj g).symm⟩
  · rw [if_neg hb] at g; cases g
theorem gaI_of {S : GS} {p : Option Nat} {t : Nat} {i v : Int32} (h : gaI S p t i = some v) : ∃ a, p = some a ∧ gT S a = t ∧ vp_in i (gZ S a) ∧ v = gI S a i.toNatClampNeg := by
  obtain ⟨a, rfl, g⟩ := gbind h
  by_cases hb : gT S a = t ∧ 0 ≤ i.toInt ∧ i.toInt < (gZ S a : Int)
  · rw [if_pos hb] at g; exact ⟨a, rfl, hb.1, vp_in_iff.mpr hb.2, (Option.some.inj g).symm⟩
  · rw [if_neg hb] at g; cases g
theorem gaR_of {S : GS} {p : Option Nat} {t : Nat} {i : Int32} {v : Option Nat} (h : gaR S p t i = some v) : ∃ a, p = some a ∧ gT S a = t ∧ vp_in i (gZ S a) ∧ v = gR S a i.toNatClampNeg := by
  obtain ⟨a, rfl, g⟩ := gbind h
  by_cases hb : gT S a = t ∧ 0 ≤ i.toInt ∧ i.toInt < (gZ S a : Int)
  · rw [if_pos hb] at g; exact ⟨a, rfl, hb.1, vp_in_iff.mpr hb.2, (Option.some.inj g).symm⟩
  · rw [if_neg hb] at g; cases g
theorem gsaI_of {S S' : GS} {p : Option Nat} {t : Nat} {i v : Int32} (h : gsaI S p t i v = some S') : ∃ a, p = some a ∧ gT S a = t ∧ vp_in i (gZ S a) ∧ S' = gsI S a i.toNatClampNeg v := by
  obtain ⟨a, rfl, g⟩ := gbind h
  by_cases hb : gT S a = t ∧ 0 ≤ i.toInt ∧ i.toInt < (gZ S a : Int)
  · rw [if_pos hb] at g; exact ⟨a, rfl, hb.1, vp_in_iff.mpr hb.2, (Option.some.inj g).symm⟩
  · rw [if_neg hb] at g; cases g
theorem gsaR_of {S S' : GS} {p : Option Nat} {t : Nat} {i : Int32} {v : Option Nat} (h : gsaR S p t i v = some S') : ∃ a, p = some a ∧ gT S a = t ∧ vp_in i (gZ S a) ∧ S' = gsR S a i.toNatClampNeg v := by
  obtain ⟨a, rfl, g⟩ := gbind h
  by_cases hb : gT S a = t ∧ 0 ≤ i.toInt ∧ i.toInt < (gZ S a : Int)
  · rw [if_pos hb] at g; exact ⟨a, rfl, hb.1, vp_in_iff.mpr hb.2, (Option.some.inj g).symm⟩
  · rw [if_neg hb] at g; cases g
theorem gal_of {S : GS} {p : Option Nat} {t : Nat} {v : Int32} (h : gal S p t = some v) : ∃ a, p = some a ∧ gT S a = t ∧ v = Int32.ofNat (gZ S a) := by
  obtain ⟨a, rfl, g⟩ := gbind h
  by_cases hb : gT S a = t
  · rw [if_pos hb] at g; exact ⟨a, rfl, hb, (Option.some.inj g).symm⟩
  · rw [if_neg hb] at g; cases g
theorem gsI_same {S : GS} {a k b : Nat} {v : Int32} (h : b ≠ a) : gSame S (gsI S a k v) b := ⟨rfl, rfl, fun j => by simp [gsI, gI, gu2, h], fun _ => rfl⟩
theorem gsR_same {S : GS} {a k b : Nat} {v : Option Nat} (h : b ≠ a) : gSame S (gsR S a k v) b := ⟨rfl, rfl, fun _ => rfl, fun j => by simp [gsR, gR, gu2, h]⟩
theorem gnw_same {S : GS} {a t z b : Nat} (h : b ≠ a) : gSame S (gnw S a t z) b := ⟨by simp [gnw, gT, h], by simp [gnw, gZ, h], fun j => by simp [gnw, gI, h], fun j => by simp [gnw, gR, h]⟩
