section RBec2
variable {S S' : GS} {r cap hs hs' : Nat} {dq : Nat → Nat} {A B : AS}
theorem rHd.sk {T : GS} (h : rHd S r dq cap) (e1 : ∀ b, gT T b = gT S b) (e2 : ∀ b, gZ T b = gZ S b) (e3 : ∀ b k, gR T b k = gR S b k) : rHd T r dq cap := by
  unfold rHd at h ⊢
  simp only [e1, e2, e3]
  exact h
/-- two rows and what is written there -/
def wRw (r j : Nat) (a _ : Nat) : Prop := a = r + (2 + j) ∨ a = r + (5 + j)
def rWr (r j : Nat) (S T : GS) : Prop := (∀ b, gT T b = gT S b) ∧ (∀ b, gZ T b = gZ S b) ∧ (∀ b k, gR T b k = gR S b k) ∧ ∀ b k, ¬ wRw r j b k → gI T b k = gI S b k
theorem rWr.rf {j : Nat} : rWr r j S S := ⟨fun _ => rfl, fun _ => rfl, fun _ _ => rfl, fun _ _ _ => rfl⟩
theorem rWr.wr {T : GS} {j p : Nat} {k m : Int32} (h : rWr r j S T) : rWr r j S (gsI (gsI T (r + (2 + j)) p k) (r + (5 + j)) p m) := by
  obtain ⟨h1, h2, h3, h4⟩ := h
  refine ⟨h1, h2, h3, fun b q hq => ?_⟩
  unfold wRw at hq
  rw [gI_gsI, if_neg (by omega), gI_gsI, if_neg (by omega)]
  exact h4 b q hq
theorem wr_at {T : GS} {j p k : Nat} {v m : Int32} (hj : j < 2) : gI (gsI (gsI T (r + (2 + j)) p v) (r + (5 + j)) p m) (r + (2 + j)) k = (if k = p then v else gI T (r + (2 + j)) k) ∧ gI (gsI (gsI T (r + (2 + j)) p v) (r + (5 + j)) p m) (r + (5 + j)) k = (if k = p then m else gI T (r + (5 + j)) k) := by
  simp only [gI_gsI]
  by_cases e : k = p
  · subst e
    rw [if_neg (by omega), if_pos (by simp), if_pos rfl, if_pos (by simp), if_pos rfl]
    exact ⟨rfl, rfl⟩
  · rw [if_neg (by omega), if_neg (by omega), if_neg e, if_neg (by omega), if_neg (by omega), if_neg e]
    exact ⟨rfl, rfl⟩
theorem r_newK {j f c m : Nat} {T0 : GS} {C : List Tr} {x1 x7 x8 : Int32} {x9 x10 : Option Nat} (h1 : rHd T0 r dq cap) (hj : j < 2) (hC : rNa T0 r C) (hc : C.length = c) (hf : f + c ≤ 24) :
    ∃ T, f_X5_becomes_L122 r gN T0 m x1 (some (r + 29)) (some (r + 30)) (nI c) (nI j) (nI f) x7 x8 x9 x10 0 = f_X5_becomes_L172 r gN T m x1 (nI c) (nI j) (nI f) x7 x8 x9 x10 0 ∧ rWr r j T0 T ∧
      ∀ k, gI T (r + (2 + j)) k = (if f ≤ k ∧ k < f + c then (C.getD (k - f) tz).2.1 else gI T0 (r + (2 + j)) k) ∧ gI T (r + (5 + j)) k = (if f ≤ k ∧ k < f + c then (C.getD (k - f) tz).2.2 else gI T0 (r + (5 + j)) k) := by
  have hC72 := hC.1
  obtain ⟨T, ⟨t1, t2⟩, n, t6⟩ := lpG0 (F := fun n T i => f_X5_becomes_L122 r n T m x1 (some (r + 29)) (some (r + 30)) (nI c) (nI j) (nI f) x7 x8 x9 x10 i)
    (fun i T => rWr r j T0 T ∧ ∀ k, gI T (r + (2 + j)) k = (if f ≤ k ∧ k < f + i then (C.getD (k - f) tz).2.1 else gI T0 (r + (2 + j)) k) ∧ gI T (r + (5 + j)) k = (if f ≤ k ∧ k < f + i then (C.getD (k - f) tz).2.2 else gI T0 (r + (5 + j)) k)) c (fun n T i hi hI => by
      obtain ⟨i1, i2⟩ := hI
      have hT := h1.sk i1.1 i1.2.1 i1.2.2.1
      have hT1 := hT.gs (r + (2 + j)) (f + i) (C.getD i tz).2.1
      obtain ⟨c1, c2⟩ := hC.2 i (by omega)
      have v1 : gI T (r + 29) i = (C.getD i tz).2.1 := by rw [i1.2.2.2 _ _ (by unfold wRw; omega)]; exact c1
      have v2 : gI (gsI T (r + (2 + j)) (f + i) (C.getD i tz).2.1) (r + 30) i = (C.getD i tz).2.2 := by rw [gI_gsI, if_neg (by omega), i1.2.2.2 _ _ (by unfold wRw; omega)]; exact c2
      have q : (c ≤ i) = False := eq_false (by omega)
      refine ⟨gsI (gsI T (r + (2 + j)) (f + i) (C.getD i tz).2.1) (r + (5 + j)) (f + i) (C.getD i tz).2.2, ⟨i1.wr, fun k => ?_⟩, ?_⟩
      · obtain ⟨w1, w2⟩ := wr_at (r := r) (T := T) (j := j) (p := f + i) (k := k) (v := (C.getD i tz).2.1) (m := (C.getD i tz).2.2) hj
        obtain ⟨u1, u2⟩ := i2 k
        rw [w1, w2]
        by_cases e : k = f + i
        · rw [if_pos e, if_pos e, if_pos (by omega), if_pos (by omega), show k - f = i by omega]
          exact ⟨rfl, rfl⟩
        · rw [if_neg e, if_neg e, u1, u2]
          by_cases e2 : f ≤ k ∧ k < f + i
          · rw [if_pos e2, if_pos e2, if_pos (by omega), if_pos (by omega)]; exact ⟨rfl, rfl⟩
          · rw [if_neg e2, if_neg e2, if_neg (by omega), if_neg (by omega)]; exact ⟨rfl, rfl⟩
      · simp (disch := omega) only [f_X5_becomes_L122, nI_leI, q, if_false, hT.fs, hT.ro.1 _ hj, Option.bind_some, hT.rs.2.2.2.2.2.2.2.2.1 i (by omega), v1, nI_add, hT.wb.1 j (f + i) _ hj (by omega), hT1.fs, hT1.ro.2.1 _ hj, hT1.rs.2.2.2.2.2.2.2.2.2.1 i (by omega), v2, hT1.wb.2.1 j (f + i) _ hj (by omega), nI_1]) (by omega) T0 ⟨rWr.rf, fun k => by rw [if_neg (by omega), if_neg (by omega)]; exact ⟨rfl, rfl⟩⟩
  refine ⟨T, ?_, t1, t2⟩
  rw [t6]
  simp only [f_X5_becomes_L122, Int32.le_refl, if_true]
/-- what follows the new things: the list's size, the parts' sizes, the parts that go -/
def bEnd (r m : Nat) (x1 x5 x7 : Int32) (T : GS) : Option (GS × Nat) := (gfR T (some r) 6 2).bind fun v27 => (gaI T v27 11 x5).bind fun v29 => (gsaI T v27 11 x5 (v29 + x7)).bind fun S31 => (gfR S31 (some r) 6 15).bind fun v33 => (gaI S31 v33 11 x1).bind fun v35 => f_X5_becomes_L247 r gN S31 m x1 x5 x7 v35
theorem r_oldK {j f c z b m : Nat} {T0 : GS} {L : List Tr} {x1 x7 : Int32} (h1 : rHd T0 r dq cap) (hj : j < 2) (hf : f + z + b = L.length) (h24 : f + c + b ≤ 24) (hr : r + 31 ≤ hs) (ht : gT T0 hs = 11 ∧ gT T0 (hs + 1) = 11 ∧ gZ T0 hs = b ∧ gZ T0 (hs + 1) = b) (hL : ∀ k, k < b → gI T0 hs k = (L.getD (f + z + k) tz).2.1 ∧ gI T0 (hs + 1) k = (L.getD (f + z + k) tz).2.2) :
    ∃ T, f_X5_becomes_L172 r gN T0 m x1 (nI c) (nI j) (nI f) x7 (nI b) (some hs) (some (hs + 1)) 0 = bEnd r m x1 (nI j) x7 T ∧ rWr r j T0 T ∧
      ∀ k, gI T (r + (2 + j)) k = (if f + c ≤ k ∧ k < f + c + b then (L.getD (k - c + z) tz).2.1 else gI T0 (r + (2 + j)) k) ∧ gI T (r + (5 + j)) k = (if f + c ≤ k ∧ k < f + c + b then (L.getD (k - c + z) tz).2.2 else gI T0 (r + (5 + j)) k) := by
  obtain ⟨q1, q2, q3, q4⟩ := ht
  obtain ⟨T, ⟨t1, t2⟩, n, t6⟩ := lpG0 (F := fun n T i => f_X5_becomes_L172 r n T m x1 (nI c) (nI j) (nI f) x7 (nI b) (some hs) (some (hs + 1)) i)
    (fun i T => rWr r j T0 T ∧ ∀ k, gI T (r + (2 + j)) k = (if f + c ≤ k ∧ k < f + c + i then (L.getD (k - c + z) tz).2.1 else gI T0 (r + (2 + j)) k) ∧ gI T (r + (5 + j)) k = (if f + c ≤ k ∧ k < f + c + i then (L.getD (k - c + z) tz).2.2 else gI T0 (r + (5 + j)) k)) b (fun n T i hi hI => by
      obtain ⟨i1, i2⟩ := hI
      have hT := h1.sk i1.1 i1.2.1 i1.2.2.1
      obtain ⟨c1, c2⟩ := hL i (by omega)
      generalize hx : L.getD (f + z + i) tz = x at *
      have hT1 := hT.gs (r + (2 + j)) (f + c + i) x.2.1
      have v1 : gaI T (some hs) 11 (nI i) = some x.2.1 := by
        rw [aI (by rw [i1.1]; exact q1) (by rw [i1.2.1]; omega) (by rw [i1.2.1]; omega), i1.2.2.2 _ _ (by unfold wRw; omega), c1]
      have v2 : gaI (gsI T (r + (2 + j)) (f + c + i) x.2.1) (some (hs + 1)) 11 (nI i) = some x.2.2 := by
        rw [aI (by rw [gT_gsI, i1.1]; exact q2) (by rw [gZ_gsI, i1.2.1]; omega) (by rw [gZ_gsI, i1.2.1]; omega), gI_gsI, if_neg (by omega), i1.2.2.2 _ _ (by unfold wRw; omega), c2]
      have q : (b ≤ i) = False := eq_false (by omega)
      refine ⟨gsI (gsI T (r + (2 + j)) (f + c + i) x.2.1) (r + (5 + j)) (f + c + i) x.2.2, ⟨i1.wr, fun k => ?_⟩, ?_⟩
      · obtain ⟨w1, w2⟩ := wr_at (r := r) (T := T) (j := j) (p := f + c + i) (k := k) (v := x.2.1) (m := x.2.2) hj
        obtain ⟨u1, u2⟩ := i2 k
        rw [w1, w2]
        by_cases e : k = f + c + i
        · rw [if_pos e, if_pos e, if_pos (by omega), if_pos (by omega), show k - c + z = f + z + i by omega, hx]
          exact ⟨rfl, rfl⟩
        · rw [if_neg e, if_neg e, u1, u2]
          by_cases e2 : f + c ≤ k ∧ k < f + c + i
          · rw [if_pos e2, if_pos e2, if_pos (by omega), if_pos (by omega)]; exact ⟨rfl, rfl⟩
          · rw [if_neg e2, if_neg e2, if_neg (by omega), if_neg (by omega)]; exact ⟨rfl, rfl⟩
      · simp (disch := omega) only [f_X5_becomes_L172, nI_leI, q, if_false, hT.fs, hT.ro.1 _ hj, Option.bind_some, v1, nI_add, hT.wb.1 j (f + c + i) _ hj (by omega), hT1.fs, hT1.ro.2.1 _ hj, v2, hT1.wb.2.1 j (f + c + i) _ hj (by omega), nI_1]) (by omega) T0 ⟨rWr.rf, fun k => by rw [if_neg (by omega), if_neg (by omega)]; exact ⟨rfl, rfl⟩⟩
  refine ⟨T, ?_, t1, t2⟩
  rw [t6]
  simp only [f_X5_becomes_L172, Int32.le_refl, if_true]
  rfl
/-- what the reference's slots need, that parts may go -/
theorem WF.kP (hw : WF A) : ∀ s, s < 12 → kA A s ≠ 45 → ∀ p, sP (slA A s) = some p → (kA A s = 112 ∨ kA A s = 102) ∧ p < npA A := by
  intro s hs hk p hp
  rcases slot_facts hw hs hk with ⟨-, q2, -⟩ | ⟨q1, q2, q3, q4, q5, -⟩ | ⟨-, -, j, -, -, -, q, -⟩
  · rw [q2] at hp; cases hp
  · refine ⟨?_, (q5 p hp).1⟩
    rcases q2 with e | e | e
    · have := (hw.2.1 s hs hk).2.2.2.2.2.2.2.2 e
      rw [this] at hp; cases hp
    · exact Or.inl e
    · exact Or.inr e
  · rw [q] at hp; cases hp
theorem Rq.refL0 {s : Nat} {o : Option Nat} (h : Rq r dq cap S hs A) (hs12 : s < 12) (hk : kA A s ≠ 45) (ho : sP (slA A s) = o) : gI S (r + 25) s = oI o := by
  rw [← ho]
  exact ((h.2.2.2.2.1 s hs12).2 hk).1
/-- a list or part has other things from then on -/
theorem r_becomes {s : Nat} {C : List Tr} (h : Rq r dq cap S hs A) (hw : WF A) (hs12 : s < 12) (hk : sK (slA A s) = 108 ∨ sK (slA A s) = 112) (hC : rNa S r C) (hl : (rwA A (sR (slA A s))).length - (vw A s).length + C.length ≤ 24) (hn : npA A ≤ 512) :
    ∃ S' hs', f_X5_becomes S hs r (nI s) (some (r + 29)) (some (r + 30)) (nI C.length) = some (S', hs') ∧ Rq r dq cap S' hs' (chgA A s C) ∧ (∀ k, gI S' r k = gI S r k) ∧ hs ≤ hs' := by
  have hk45 : kA A s ≠ 45 := by
    show sK (slA A s) ≠ 45
    rcases hk with h | h <;> (rw [h]; decide)
  obtain ⟨l1, l2, l3, l4, l5, l6, l7, l8⟩ := lst_facts hw hs12 (hk.elim Or.inl (fun h => Or.inr (Or.inl h)))
  have g24 := (hw.1 _ (show sR (slA A s) < 4 by omega)).1
  have hr31 := h.2.2.2.2.2.2.2
  obtain ⟨e24, e25⟩ := h.refL hw hs12 hk
  obtain ⟨b, hb⟩ : ∃ b, fsA A (slA A s) + (vw A s).length + b = (rwA A (sR (slA A s))).length := ⟨(rwA A (sR (slA A s))).length - (fsA A (slA A s) + (vw A s).length), by omega⟩
  obtain ⟨T1, -, a1, -, a2, a3, a4, a5⟩ := r_rest (m := hs + 2) (x2 := some (r + 29)) (x3 := some (r + 30)) (x4 := nI C.length) (x7 := nI C.length - nI (vw A s).length) (b := b) h hw hs12 hk rfl rfl hb
  have hT1 : Rq r dq cap T1 (hs + 2) A := h.sc (a2.mono (fun _ _ z => z.elim)) (by omega) a4
  obtain ⟨T2, b1, b2, b3⟩ := r_newK (m := hs + 2) (x1 := nI s) (x7 := nI C.length - nI (vw A s).length) (x8 := nI b) (x9 := some hs) (x10 := some (hs + 1)) (f := fsA A (slA A s)) hT1.1 l1 (hC.fr a2 hr31 (fun k => ⟨id, id⟩)) rfl (by omega)
  have hT2 := hT1.1.sk b2.1 b2.2.1 b2.2.2.1
  obtain ⟨T3, c1, c2, c3⟩ := r_oldK (m := hs + 2) (x1 := nI s) (x7 := nI C.length - nI (vw A s).length) (c := C.length) (hs := hs) (T0 := T2) (L := rwA A (sR (slA A s))) hT2 l1 hb (by omega) hr31 (by
    rw [b2.1, b2.1, b2.2.1, b2.2.1]; exact a3) (fun k hk9 => by
    rw [b2.2.2.2 _ _ (by unfold wRw; omega), b2.2.2.2 _ _ (by unfold wRw; omega)]; exact a5 k hk9)
  have hT3 := hT2.sk c2.1 c2.2.1 c2.2.2.1
  have wW : ∀ {a k}, wRw r (sR (slA A s)) a k → wLs r (sR (slA A s)) a k := fun {a k} z => by unfold wRw at z; unfold wLs; omega
  have e7 : gI T3 (r + 7) (sR (slA A s)) = nI (rwA A (sR (slA A s))).length := by
    rw [c2.2.2.2 _ _ (by unfold wRw; omega), b2.2.2.2 _ _ (by unfold wRw; omega)]
    exact (hT1.2.2.1 _ l1).1
  -- the list
  have hT4 : Rq r dq cap (gsI T3 (r + 7) (sR (slA A s)) (nI ((rwA A (sR (slA A s))).length + C.length - (vw A s).length))) (hs + 2) (rowC A s C) := by
    refine hT1.list l1 (fun a ha => ?_) ⟨?_, fun k hk9 => ?_⟩ (Nat.le_refl _) (fun a ha => ?_)
    · refine ⟨by rw [gT_gsI, c2.1, b2.1], by rw [gZ_gsI, c2.2.1, b2.2.1], fun k => by rw [gR_gsI, c2.2.2.1, b2.2.2.1], fun k q => ?_⟩
      rw [gI_gsI, if_neg (fun z => q (by unfold wLs; exact Or.inr (Or.inr (Or.inr z)))), c2.2.2.2 _ _ (fun z => q (wW z)), b2.2.2.2 _ _ (fun z => q (wW z))]
    · rw [gI_gsI, if_pos ⟨rfl, rfl⟩, spl_len l4]
      exact congrArg nI (by omega)
    · rw [spl_len l4] at hk9
      obtain ⟨x1, x2⟩ := c3 k
      obtain ⟨y1, y2⟩ := b3 k
      rw [gI_gsI, if_neg (by omega), gI_gsI, if_neg (by omega), gd_spl l4, x1, x2, y1, y2]
      by_cases k1 : k < fsA A (slA A s)
      · rw [if_pos k1, if_neg (by omega), if_neg (by omega), if_neg (by omega), if_neg (by omega)]
        exact (hT1.2.2.1 _ l1).2 k (by omega)
      · rw [if_neg k1]
        by_cases k2 : k < fsA A (slA A s) + C.length
        · rw [if_pos k2, if_neg (by omega), if_pos (by omega), if_neg (by omega), if_pos (by omega)]
          exact ⟨rfl, rfl⟩
        · rw [if_neg k2, if_pos (by omega), if_pos (by omega)]
          exact ⟨rfl, rfl⟩
    · rw [gT_gsI, c2.1, b2.1]; exact a4 a ha
  -- the sizes of the parts
  have hC' : wC A := hw.wC
  obtain ⟨i1, i2, i3, i4⟩ := chn_is hC' (npA A) (sP (slA A s)) l3 (fun p hp => (l3 p hp).1)
  generalize hT4e : gsI T3 (r + 7) (sR (slA A s)) (nI ((rwA A (sR (slA A s))).length + C.length - (vw A s).length)) = T4 at hT4
  have h22 : npA A ≤ cap := h.2.1.2.1
  obtain ⟨T5, n5, d1, d2, d3⟩ := c_szL (A := A) (m := hs + 2) (x1 := nI s) (x5 := nI (sR (slA A s))) (x7 := nI C.length - nI (vw A s).length) (f := fun q => nI (pZ (ptA A q) + C.length - (vw A s).length)) (chA A (sP (slA A s))) (sP (slA A s)) T4 gN i1 i3 (fun q hq => (i2 q hq).2.1) hT4.1 h22 (fun p hp => (hT4.2.2.2.2.2.1 p hp).2.1) (fun q hq => by
      have hq2 := (i2 q hq).2.1
      rw [(hT4.2.2.2.2.2.1 q hq2).2.2.2.1]
      exact nI_mv (l8 q hq).1) (by
      have : (chA A (sP (slA A s))).length ≤ npA A := i4
      simp only [gN]; omega)
  have hT5 : Rq r dq cap T5 (hs + 2) (aSzs (rowC A s C) (sP (slA A s)) (vw A s).length C.length) := by
    refine hT4.szs d2 (fun p hp => ?_)
    have e : chA (rowC A s C) (sP (slA A s)) = chA A (sP (slA A s)) := chA_row
    rw [e]
    exact d3 p
  have e19 : ∀ k, gI T5 r k = gI S r k := by
    intro k
    have hd := Rq.dne (i := 3) h (by omega)
    rw [d2.2.2.2 _ _ (fun z => hd.1 z.symm), ← hT4e, gI_gsI, if_neg (by omega), c2.2.2.2 _ _ (by unfold wRw; omega), b2.2.2.2 _ _ (by unfold wRw; omega)]
    exact (a2 r (by omega)).2.2.2 k id
  have e25' : gI T5 (r + 25) s = oI (sP (slA A s)) := hT5.refL0 hs12 hk45 rfl
  have hhead : ∀ z, f_X5_becomes_L247 r (n5 + 1) T5 (hs + 2) (nI s) (nI (sR (slA A s))) (nI C.length - nI (vw A s).length) (-1) = z → f_X5_becomes S hs r (nI s) (some (r + 29)) (some (r + 30)) (nI C.length) = z := by
    intro z hz
    have hck : decide (0 ≤ (nI b).toInt ∧ (nI b).toInt ≤ 24) = true := decide_eq_true (by rw [nI_toInt (by omega)]; omega)
    have e13 : nI (rwA A (sR (slA A s))).length - nI (fsA A (slA A s)) - nI (vw A s).length = nI b := by rw [pk_sub (by omega), pk_sub (by omega)]; exact congrArg nI (by omega)
    have hL : bEnd r (hs + 2) (nI s) (nI (sR (slA A s))) (nI C.length - nI (vw A s).length) T3 = z := by
      have e25t : gI T4 (r + 25) s = oI (sP (slA A s)) := hT4.refL0 hs12 hk45 rfl
      unfold bEnd
      simp only [hT3.fs, Option.bind_some, hT3.rs.2.2.2.2.2.2.1 _ l1, e7, nI_mv (show (vw A s).length ≤ (rwA A (sR (slA A s))).length by omega), hT3.ws.2.2.2.2.2.2.1 _ _ l1, hT4e, hT4.1.fs, hT4.1.rs.2.2.1 s hs12, e25t]
      rw [d1, hz]
    simp only [f_X5_becomes, h.1.fs, h.1.rs.2.1 s hs12, e24, Option.bind_some, beq_self_eq_true, gck_t, r_begin h hw hs12 hk45, r_many h hw hs12 hk45, h.1.rs.2.2.2.2.2.2.1 _ l1, (h.2.2.1 _ l1).1, e13, hck, nI_clamp (show b < 2 ^ 31 by omega)]
    rw [show hs + 1 + 1 = hs + 2 from rfl, a1, b1, c1, hL]
  have hchg : chgA A s C = chgP (rowC A s C) (sR (slA A s)) (sP (slA A s)) (vw A s).length C.length := rfl
  rw [hchg]
  unfold chgP
  by_cases hzc : (vw A s).length = C.length
  · rw [if_pos hzc]
    have x0 : nI C.length - nI (vw A s).length = 0 := (nI_dif (by omega) (by omega)).mpr hzc.symm
    refine ⟨T5, hs + 2, hhead _ ?_, hT5.ext (fun _ _ => rfl) (fun _ _ => rfl) rfl (fun p hp => ?_), e19, by omega⟩
    · rw [x0]
      simp only [f_X5_becomes_L247, if_true]
    · rw [hzc]
      show ptA A p = (if p ∈ chA (rowC A s C) (sP (slA A s)) then _ else ptA A p)
      by_cases z : p ∈ chA (rowC A s C) (sP (slA A s))
      · rw [if_pos z]
        show ptA A p = (pL (ptA A p), pA (ptA A p), pF (ptA A p), pZ (ptA A p) + C.length - C.length, pG (ptA A p))
        rw [Nat.add_sub_cancel]
        rfl
      · rw [if_neg z]
  · rw [if_neg hzc]
    have x0 : ¬ nI C.length - nI (vw A s).length = 0 := fun z => hzc ((nI_dif (by omega) (by omega)).mp z).symm
    have hCB : wC (aSzs (rowC A s C) (sP (slA A s)) (vw A s).length C.length) := fun p hp hg q hq => by
      obtain ⟨z1, z2, z3, z4, z5⟩ := szs_p (A := rowC A s C) (o := sP (slA A s)) (za := (vw A s).length) (zc := C.length) (p := p)
      obtain ⟨y1, y2, y3, y4, y5⟩ := szs_p (A := rowC A s C) (o := sP (slA A s)) (za := (vw A s).length) (zc := C.length) (p := q)
      rw [z4] at hg
      rw [z2] at hq
      rw [y4, y1, z1]
      exact hC' p hp hg q hq
    have hoB : okP (aSzs (rowC A s C) (sP (slA A s)) (vw A s).length C.length) (sR (slA A s)) (sP (slA A s)) := fun p hp => by
      obtain ⟨z1, z2, z3, z4, z5⟩ := szs_p (A := rowC A s C) (o := sP (slA A s)) (za := (vw A s).length) (zc := C.length) (p := p)
      rw [z4, z1]
      exact l3 p hp
    obtain ⟨T6, f1, f2, f3⟩ := r_letsGo hT5 hCB l1 hoB (fun p hp hg => by
      obtain ⟨z1, z2, z3, z4, z5⟩ := szs_p (A := rowC A s C) (o := sP (slA A s)) (za := (vw A s).length) (zc := C.length) (p := p)
      rw [z4] at hg
      rw [z1]
      exact (hw.2.2.2.2.2.1 p hp hg).1) (fun s' hs' hk' p hp => hw.kP s' hs' hk' p hp) hn
    refine ⟨T6, hs + 3, hhead _ ?_, f2, fun k => (f3 k).trans (e19 k), by omega⟩
    simp only [f_X5_becomes_L247, if_true, x0, if_false, hT5.1.fs, hT5.1.rs.2.2.1 s hs12, e25', Option.bind_some, beq_self_eq_true, gck_t, f1, gb2_s]
end RBec2
