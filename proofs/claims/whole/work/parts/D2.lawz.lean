/-! ONE CALL OF THE LAW: what the wrapper gives and what the reference gives, of one state A on both sides -/
theorem Rc.up {b k hs : Nat} {S : GS} {A : AS} (h : Rc b k S hs A) (hk : k + 1 ≤ 600) : Rc b (k + 1) S hs A := by
  obtain ⟨h1, h2, pa, ch, r1, r2, r3, r4, r5, r6, r7, r8, r9⟩ := h
  exact ⟨h1, by omega, pa, ch, r1, fun j hj => ⟨(r2 j hj).1, (r2 j hj).2.1, (r2 j hj).2.2.1, by have := (r2 j hj).2.2.2; omega⟩, r3, r4, r5, r6, r7, r8, hk⟩
def rL {V : Type} (hs : Nat) (f : Option (V × GS)) : Option (V × GS × Nat) := f.map fun q => (q.1, q.2, hs)
def lOK {V : Type} (b r n hs' : Nat) (Sc' : GS) (k : Int32) (Ok : V → Prop) (F5 : Nat → Option (V × GS × Nat)) : Prop := ∀ hs2, hs' ≤ hs2 → ∃ (v : V) (Sr' : GS) (hs3 : Nat) (dq : Nat → Nat) (cap : Nat) (A' : AS), F5 hs2 = some (v, Sr', hs3) ∧ hs2 ≤ hs3 ∧ gI Sr' r 19 = k ∧ (k = 0 → Ok v) ∧ Rc b n Sc' hs2 A' ∧ Rq r dq cap Sr' hs3 A'
def lRm (rm : Room) : Prop := rm.frames ≤ 20 ∧ rm.locals ≤ 400 ∧ rm.cells ≤ 2 ∧ rm.slots ≤ 11
def lZ {V : Type} (l : Launch) (y : MethodName) (ws : List Cond) (As : List Value) (D : va_G) (Y : Nat → ClassId) (Sc : GS) (hs : Nat) (ty : FieldType) (yl : ClassId) (o : Nat) (c0 : Value) (b r n : Nat) (Ok : Value → V → Prop) (F5 : Nat → Option (V × GS × Nat)) : Prop :=
  ∃ (rm : Room) (k : Int32) (c1 : Value) (Sc' : GS) (hs' : Nat), lRm rm ∧ lMet l y ws rm As D Y Sc hs ty yl o c0 k c1 Sc' hs' ∧ lOK b r n hs' Sc' k (Ok c1) F5
section LawZ
variable {l : Launch} {y : MethodName} {ws : List Cond} {As : List Value} {D : va_G} {Y : Nat → ClassId} {Sc Sr : GS} {hs : Nat} {ty : FieldType} {yl : ClassId} {o : Nat} {c0 : Value} {b r n cap : Nat} {dq : Nat → Nat} {A : AS} {lx : List Nat} {rm1 rm2 : Room}
/-- a call that asks -/
theorem lZ_ask {V W : Type} {f : Option (W ⊕ Nat)} {F : Option (V × GS)} {zc : W ⊕ Nat} {z : V ⊕ Nat} {g : W → Value} {Ok : Value → V → Prop} (hc : Rc b n Sc hs A) (hq : Rq r dq cap Sr hs A) (hn : n ≤ 511) (hl : lx.Nodup ∧ lx.length ≤ 600) (b1 : lRm rm1) (b2 : lRm rm2) (a : f = some zc) (w : rAns lx Sr r F z)
    (hz : (∃ v x, zc = .inl v ∧ z = .inl x ∧ Ok (g v) x) ∨ ∃ e, zc = .inr e ∧ z = .inr e)
    (Wr : ∀ v, f = some (.inl v) → lMet l y ws rm1 As D Y Sc hs ty yl o c0 0 (g v) Sc hs) (Wx : ∀ x i, f = some (.inr x) → lx[i]? = some x → lMet l y ws rm2 As D Y Sc hs ty yl o c0 (nI (i + 1)) c0 Sc hs) : lZ l y ws As D Y Sc hs ty yl o c0 b r (n + 1) Ok (fun hs2 => rL hs2 F) := by
  rcases hz with ⟨v, x, rfl, rfl, ho⟩ | ⟨x, rfl, rfl⟩
  · have w : F = some (x, gsI Sr r 19 0) := w
    exact ⟨rm1, 0, g v, Sc, hs, b1, Wr v a, fun hs2 h2 => ⟨x, gsI Sr r 19 0, hs2, dq, cap, A, by rw [w]; rfl, Nat.le_refl _, by rw [gI_gsI, if_pos ⟨rfl, rfl⟩], fun _ => ho, (hc.up (by omega)).mono h2, (hq.thr 0).mono h2⟩⟩
  · obtain ⟨i, v, e1, w⟩ : ∃ (i : Nat) (v : V), lx[i]? = some x ∧ F = some (v, gsI Sr r 19 (nI (i + 1))) := w
    have hi : i < lx.length := (List.getElem?_eq_some_iff.mp e1).1
    exact ⟨rm2, nI (i + 1), c0, Sc, hs, b2, Wx x i a e1, fun hs2 h2 => ⟨v, gsI Sr r 19 (nI (i + 1)), hs2, dq, cap, A, by rw [w]; rfl, Nat.le_refl _, by rw [gI_gsI, if_pos ⟨rfl, rfl⟩], fun h => absurd h (nI_s0 (by omega)), (hc.up (by omega)).mono h2, (hq.thr _).mono h2⟩⟩
/-- a call that may change, or make panes -/
theorem lZ_res {f : Option ((Int32 × GS × Nat) ⊕ Nat)} {F5 : Nat → Option (Int32 × GS × Nat)} {z : (Int32 × AS) ⊕ Nat} {g : Int32 → Value} {Ok : Value → Int32 → Prop} (hc : Rc b n Sc hs A) (hn : n ≤ 511) (hl : lx.Nodup ∧ lx.length ≤ 600) (b1 : lRm rm1) (b2 : lRm rm2) (a : cResA b n hs f z) (w : ∀ hs2, hs ≤ hs2 → rRes lx r hs2 A (F5 hs2) z) (ho : ∀ v, Ok (g v) v)
    (Wr : ∀ v S' hs', f = some (.inl (v, S', hs')) → lMet l y ws rm1 As D Y Sc hs ty yl o c0 0 (g v) S' hs') (Wx : ∀ x i, f = some (.inr x) → lx[i]? = some x → lMet l y ws rm2 As D Y Sc hs ty yl o c0 (nI (i + 1)) c0 Sc hs) : lZ l y ws As D Y Sc hs ty yl o c0 b r (n + 1) Ok F5 := by
  rcases z with ⟨v, B⟩ | x
  · obtain ⟨S', hs', e1, e2, e3⟩ : ∃ S' hs', f = some (.inl (v, S', hs')) ∧ hs ≤ hs' ∧ Rc b (n + 1) S' hs' B := a
    refine ⟨rm1, 0, g v, S', hs', b1, Wr v S' hs' e1, fun hs2 h2 => ?_⟩
    obtain ⟨dq2, cap2, Sr', hs3, w1, w2, w3, w4⟩ : ∃ dq cap S' hs', F5 hs2 = some (v, S', hs') ∧ Rq r dq cap S' hs' B ∧ gI S' r 19 = 0 ∧ hs2 ≤ hs' := w hs2 (by omega)
    exact ⟨v, Sr', hs3, dq2, cap2, B, w1, w4, w3, fun _ => ho v, e3.mono h2, w2⟩
  · have a : f = some (.inr x) := a
    obtain ⟨i, v0, -, -, -, -, e1, -⟩ : ∃ i v dq cap S' hs', lx[i]? = some x ∧ F5 hs = some (v, S', hs') ∧ Rq r dq cap S' hs' A ∧ gI S' r 19 = nI (i + 1) ∧ hs ≤ hs' := w hs (Nat.le_refl _)
    have hi : i < lx.length := (List.getElem?_eq_some_iff.mp e1).1
    refine ⟨rm2, nI (i + 1), c0, Sc, hs, b2, Wx x i a e1, fun hs2 h2 => ?_⟩
    obtain ⟨i2, v, dq2, cap2, Sr', hs3, w0, w1, w2, w3, w4⟩ : ∃ i v dq cap S' hs', lx[i]? = some x ∧ F5 hs2 = some (v, S', hs') ∧ Rq r dq cap S' hs' A ∧ gI S' r 19 = nI (i + 1) ∧ hs2 ≤ hs' := w hs2 (by omega)
    have e2 : i2 = i := idx_eq hl.1 w0 e1
    subst e2
    exact ⟨v, Sr', hs3, dq2, cap2, A, w1, w4, w3, fun h => absurd h (nI_s0 (by omega)), (hc.up (by omega)).mono h2, w2⟩
theorem cRes_A {f : Option ((Int32 × GS) ⊕ Nat)} {z : (Int32 × AS) ⊕ Nat} (h : cRes b n hs f z) : cResA b n hs (f.map fun q => q.map (fun p => (p.1, p.2, hs)) id) z := by
  rcases z with ⟨v, B⟩ | x
  · obtain ⟨S', e1, e2⟩ : ∃ S', f = some (.inl (v, S')) ∧ Rc b (n + 1) S' hs B := h
    exact ⟨S', hs, by rw [e1]; rfl, Nat.le_refl _, e2⟩
  · have h : f = some (.inr x) := h
    show _ = _
    rw [h]; rfl
theorem fm_inl {f : Option ((Int32 × GS) ⊕ Nat)} {v : Int32} {S' : GS} {hs' : Nat} (h : (f.map fun q => q.map (fun p => (p.1, p.2, hs)) id) = some (.inl (v, S', hs'))) : f = some (.inl (v, S')) ∧ hs' = hs := by
  rcases f with _ | (⟨v2, S2⟩ | x)
  · cases h
  · cases h; exact ⟨rfl, rfl⟩
  · cases h
theorem fm_inr {f : Option ((Int32 × GS) ⊕ Nat)} {x : Nat} (h : (f.map fun q => q.map (fun p => (p.1, p.2, hs)) id) = some (.inr x)) : f = some (.inr x) := by
  rcases f with _ | (⟨v2, S2⟩ | x)
  · cases h
  · cases h
  · cases h; rfl
/-- a call that changes and makes nothing -/
theorem lZ_chg {f : Option ((Int32 × GS) ⊕ Nat)} {F5 : Nat → Option (Int32 × GS × Nat)} {z : (Int32 × AS) ⊕ Nat} {g : Int32 → Value} {Ok : Value → Int32 → Prop} (hc : Rc b n Sc hs A) (hn : n ≤ 511) (hl : lx.Nodup ∧ lx.length ≤ 600) (b1 : lRm rm1) (b2 : lRm rm2) (a : cRes b n hs f z) (w : ∀ hs2, hs ≤ hs2 → rRes lx r hs2 A (F5 hs2) z) (ho : ∀ v, Ok (g v) v)
    (Wr : ∀ v S', f = some (.inl (v, S')) → lMet l y ws rm1 As D Y Sc hs ty yl o c0 0 (g v) S' hs) (Wx : ∀ x i, f = some (.inr x) → lx[i]? = some x → lMet l y ws rm2 As D Y Sc hs ty yl o c0 (nI (i + 1)) c0 Sc hs) : lZ l y ws As D Y Sc hs ty yl o c0 b r (n + 1) Ok F5 :=
  lZ_res hc hn hl b1 b2 (cRes_A a) w ho (fun v S' hs' h => by obtain ⟨h1, rfl⟩ := fm_inl h; exact Wr v S' h1) (fun x i h => Wx x i (fm_inr h))
theorem hz_same {V : Type} {z : V ⊕ Nat} {g : V → Value} {Ok : Value → V → Prop} (ho : ∀ v, z = .inl v → Ok (g v) v) : (∃ v x, z = .inl v ∧ z = .inl x ∧ Ok (g v) x) ∨ ∃ e, z = .inr e ∧ z = .inr e := by
  rcases z with v | e
  · exact Or.inl ⟨v, v, rfl, rfl, ho v rfl⟩
  · exact Or.inr ⟨e, rfl, rfl⟩
end LawZ
/-! the law's loop: what it holds between two calls -/
def lInv (D : va_G) (Y : Nat → ClassId) (Af : Nat → Prop) (H0 : Heap) (yl yd : ClassId) (o1 o2 b r n : Nat) (H : Heap) (locs : List Loc) : Prop :=
  ∃ (Sc Sr : GS) (dq : Nat → Nat) (cap : Nat) (A : AS) (v1 v2 : Value), lJ D Y Af H0 yl yd o1 o2 Sc Sr v1 v2 H locs ∧ Rc b n Sc H.size A ∧ Rq r dq cap Sr H.size A
def lCx (p : Program) (l : Launch) (s : State) (m : MethodId) (args : Array Value) (meth : Method) (c : Code) (rt : Option FieldType) (D : va_G) (Y : Nat → ClassId) (Af : Nat → Prop) (R : Room) (yl yd : ClassId) (bs L : Nat) (xs : Nat → Int32) : Prop :=
  gF p s m args meth c RL code 9 rt D Y Af ∧ gNc s ∧ ArrOfT s yl .long ∧ ArrOfT s yd .double ∧ l.stackTraces = false ∧ va_X bs L xs s s.heap ∧ bs < s.heap.size ∧ ¬ Af bs ∧ L ≤ 2560 ∧ (22 ≤ R.frames ∧ 10948 ≤ R.locals)
abbrev lLs (bs b r o1 o2 i : Nat) : List (Nat × Value) := [(0, va_rf (some bs)), (1, va_rf (some b)), (2, va_rf (some r)), (3, va_rf (some o1)), (4, va_rf (some o2)), (5, .int (nI i))]
section LawC
variable {p : Program} {l : Launch} {e : Env} {R : Room} {s : State} {m : MethodId} {args : Array Value} {below : List Frame} {meth : Method} {c : Code} {H : Heap} {locs : List Loc} {cells slots : Nat} {Q : State → Prop}
theorem lRm.fit {rm : Room} (h : lRm rm) (hR : 22 ≤ R.frames ∧ 10948 ≤ R.locals) {k : Nat} (hk : k ≤ 20) : rm.frames + 1 ≤ R.frames ∧ 8 + (k + 11) + rm.locals ≤ R.locals := by
  obtain ⟨h1, h2, -⟩ := h
  omega
theorem lRm.fit2 {rm : Room} (h : lRm rm) (hf : cells + 8 ≤ R.cells ∧ slots + 6000 ≤ R.slots) : cells + rm.cells ≤ R.cells ∧ slots + rm.slots ≤ R.slots := by
  obtain ⟨h1, h2, h3, h4⟩ := h
  omega
def lRm5 (rm : Room) : Prop := rm.frames ≤ 20 ∧ rm.locals ≤ 400 ∧ rm.cells ≤ 5 ∧ rm.slots ≤ 5120
theorem lRm5.fit {rm : Room} (h : lRm5 rm) (hR : 22 ≤ R.frames ∧ 10948 ≤ R.locals) {k : Nat} (hk : k ≤ 20) : rm.frames + 1 ≤ R.frames ∧ 8 + (k + 11) + rm.locals ≤ R.locals := by
  obtain ⟨h1, h2, -⟩ := h
  omega
theorem lRm5.fit2 {rm rm5 : Room} (h : lRm rm) (g : lRm5 rm5) (hf : cells + 8 ≤ R.cells ∧ slots + 6000 ≤ R.slots) : cells + rm.cells + rm5.cells ≤ R.cells ∧ slots + rm.slots + rm5.slots ≤ R.slots := by
  obtain ⟨h1, h2, h3, h4⟩ := h
  obtain ⟨g1, g2, g3, g4⟩ := g
  omega
theorem lRm5.fit3 {rm rm5 : Room} (h : lRm rm) (g : lRm5 rm5) : cells + rm.cells + rm5.cells ≤ cells + 8 ∧ slots + rm.slots + rm5.slots ≤ slots + 6000 := by
  obtain ⟨h1, h2, h3, h4⟩ := h
  obtain ⟨g1, g2, g3, g4⟩ := g
  omega
theorem rL_of {V : Type} {hs hs3 : Nat} {F : Option (V × GS)} {v : V} {S : GS} (h : rL hs F = some (v, S, hs3)) : F = some (v, S) ∧ hs3 = hs := by
  rcases F with _ | ⟨v2, S2⟩
  · cases h
  · cases h; exact ⟨rfl, rfl⟩
end LawC
