/-! what is seen through a pane of the class -/
def cVw (S : GS) (a : Nat) (kd : Int32) (L : List Tr) : Prop := gT S a = 2 ∧ gI S a 0 = kd ∧ L.length ≤ 24 ∧ f_X1_count S a = some (nI L.length) ∧ ∀ i, i < L.length → f_X1_keyOf S a (nI i) = some (L.getD i tz).2.1 ∧ f_X1_markOf S a (nI i) = some (L.getD i tz).2.2 ∧ f_X1_numberOf S a (nI i) = some (L.getD i tz).1
def cPn (S : GS) (a : Nat) (kd : Int32) (L : List Tr) (u : Option Nat) (f : Nat) : Prop :=
  gT S a = 2 ∧ gI S a 0 = kd ∧ gR S a 2 = u ∧ (u = none → gR S a 3 = none ∧ f = 0 ∧ ∃ (c : Nat) (k m : Int32), c ≤ 24 ∧ L = List.replicate c (0, k, m) ∧ gI S a 4 = nI c ∧ gI S a 5 = k ∧ gI S a 6 = m) ∧
    ∀ st, u = some st → ∃ R, cSt S st R ∧ f + L.length ≤ R.length ∧ L = viw R f L.length ∧ ((gR S a 3 = none ∧ f = 0 ∧ L.length = R.length) ∨ ∃ q, gR S a 3 = some q ∧ gT S q = 3 ∧ gI S q 1 = nI f ∧ gI S q 2 = nI L.length)
theorem gd_rep {c k : Nat} {x : Tr} (h : k < c) : (List.replicate c x).getD k tz = x := by
  rw [gd_eq, List.getElem?_replicate, if_pos h]
  rfl
theorem cPn.first {S : GS} {a : Nat} {kd : Int32} {L : List Tr} {u : Option Nat} {f : Nat} (h : cPn S a kd L u f) : f_X1_first S a = some (nI f) := by
  obtain ⟨h1, h2, h3, h4, h5⟩ := h
  unfold f_X1_first
  cases u with
  | none =>
    obtain ⟨g1, g2, -⟩ := h4 rfl
    simp only [gfR_at h1, g1, Option.bind_some, if_true, g2, n_0]
  | some st =>
    obtain ⟨R, g1, g2, g3, g4⟩ := h5 st rfl
    rcases g4 with ⟨q1, q2, q3⟩ | ⟨q, q1, q2, q3, q4⟩
    · simp only [gfR_at h1, q1, Option.bind_some, if_true, q2, n_0]
    · simp only [gfR_at h1, q1, Option.bind_some, gfI_at q2, q3, reduceCtorEq, if_false]
theorem cPn.view {S : GS} {a : Nat} {kd : Int32} {L : List Tr} {u : Option Nat} {f : Nat} (h : cPn S a kd L u f) : cVw S a kd L := by
  have hf := h.first
  obtain ⟨h1, h2, h3, h4, h5⟩ := h
  cases u with
  | none =>
    obtain ⟨g1, g2, c, k, m, g3, g4, g5, g6, g7⟩ := h4 rfl
    have hl : L.length = c := by rw [g4]; simp
    refine ⟨h1, h2, by omega, ?_, fun i hi => ?_⟩
    · simp only [f_X1_count, gfR_at h1, gfI_at h1, h3, Option.bind_some, if_true, g5, hl]
    · rw [g4, gd_rep (by omega)]
      simp only [f_X1_keyOf, f_X1_markOf, f_X1_numberOf, gfR_at h1, gfI_at h1, h3, Option.bind_some, if_true, g6, g7, and_self]
  | some st =>
    obtain ⟨R, g1, g2, g3, g4⟩ := h5 st rfl
    have hR := g1.2.2.1
    refine ⟨h1, h2, by omega, ?_, fun i hi => ?_⟩
    · rcases g4 with ⟨q1, q2, q3⟩ | ⟨q, q1, q2, q3, q4⟩
      · simp only [f_X1_count, gfR_at h1, gfI_at g1.1.1, h3, Option.bind_some, reduceCtorEq, if_false, if_true, q1, g1.2.1, q3]
      · simp only [f_X1_count, gfR_at h1, gfI_at q2, h3, Option.bind_some, reduceCtorEq, if_false, q1, q4]
    · have e : L.getD i tz = R.getD (f + i) tz := by rw [g3, gd_viw hi]
      rw [e]
      simp only [f_X1_keyOf, f_X1_markOf, f_X1_numberOf, gfR_at h1, h1, h3, Option.bind_some, reduceCtorEq, if_false, beq_self_eq_true, gck_t, hf, gtk_at g1.1.1, nI_add, f_keyIn g1 (show f + i < R.length by omega), f_markIn g1 (show f + i < R.length by omega), f_numberIn g1 (show f + i < R.length by omega), and_self]
theorem cPn.find {S : GS} {a : Nat} {kd x : Int32} {L : List Tr} {st : Nat} (h : cPn S a kd L (some st) 0) (hp : gR S a 3 = none) : f_X1_findNumber S a x = some (fIdx (fun t => t.1 == x) L 0) := by
  obtain ⟨h1, h2, h3, h4, h5⟩ := h
  obtain ⟨R, g1, g2, g3, g4⟩ := h5 st rfl
  rcases g4 with ⟨q1, q2, q3⟩ | ⟨q, q1, q2, q3, q4⟩
  · have : L = R := by rw [g3, q3, viw_all]
    subst this
    simp only [f_X1_findNumber, gfR_at h1, h3, Option.bind_some, reduceCtorEq, if_false, gtk_at g1.1.1, f_poN g1]
  · rw [hp] at q1; cases q1
/-- a pane on another store stays -/
theorem cPn.kept {S S' : GS} {a w : Nat} {kd : Int32} {L : List Tr} {u : Option Nat} {f : Nat} (h : cPn S a kd L u f) (hw : cSk S w) (hr : cFr w S S') (hn : ∀ st, u = some st → st + 3 < w ∨ w + 3 < st) : cPn S' a kd L u f := by
  obtain ⟨h1, h2, h3, h4, h5⟩ := h
  obtain ⟨r1, r2, r3, r4, r5⟩ := id hr
  obtain ⟨k1, k2, k3, k4, k5, k6, k7, -⟩ := hw
  have nt : ∀ x, gT S x = 2 ∨ gT S x = 3 → ¬ (w ≤ x ∧ x ≤ w + 3) := by
    intro x hx hy
    have : x = w ∨ x = w + 1 ∨ x = w + 2 ∨ x = w + 3 := by omega
    rcases this with rfl | rfl | rfl | rfl <;> omega
  have ha := nt a (Or.inl h1)
  refine ⟨by rw [r2]; exact h1, by rw [r4 _ _ ha]; exact h2, by rw [r1]; exact h3, fun e => ?_, fun st e => ?_⟩
  · rw [r1, r4 _ _ ha, r4 _ _ ha, r4 _ _ ha]; exact h4 e
  · obtain ⟨R, g1, g2, g3, g4⟩ := h5 st e
    refine ⟨R, hr.st g1 (hn st e), g2, g3, ?_⟩
    rw [r1]
    rcases g4 with q | ⟨q, q1, q2, q3, q4⟩
    · exact Or.inl q
    · have hq := nt q (Or.inr q2)
      exact Or.inr ⟨q, q1, by rw [r2]; exact q2, by rw [r4 _ _ hq]; exact q3, by rw [r4 _ _ hq]; exact q4⟩
/-! the kinds -/
def kLs (kd : Int32) : Bool := kd == 108 || kd == 112 || kd == 102 || kd == 99 || kd == 97 || kd == 101
def kMp (kd : Int32) : Bool := kd == 109 || kd == 70
def b2i (b : Bool) : Int32 := if b = true then 1 else 0
theorem b2i_0 {b : Bool} : (b2i b = 0) = (b = false) := by cases b <;> decide
theorem b2i_n (b : Bool) : gnr .boolean (b2i b) = true := by cases b <;> decide
theorem f_isList {S : GS} {a : Nat} {kd : Int32} (h1 : gT S a = 2) (h2 : gI S a 0 = kd) : f_X1_isList S a = some (b2i (kLs kd)) := by
  simp only [f_X1_isList, f_X1_isList_b54, gfI_at h1, h2, Option.bind_some]
  unfold kLs b2i
  simp only [Bool.or_eq_true, beq_iff_eq]
  by_cases a1 : kd = 108 <;> by_cases a2 : kd = 112 <;> by_cases a3 : kd = 102 <;> by_cases a4 : kd = 99 <;> by_cases a5 : kd = 97 <;> by_cases a6 : kd = 101 <;> simp [a1, a2, a3, a4, a5, a6]
theorem f_isMap {S : GS} {a : Nat} {kd : Int32} (h1 : gT S a = 2) (h2 : gI S a 0 = kd) : f_X1_isMap S a = some (b2i (kMp kd)) := by
  simp only [f_X1_isMap, f_X1_isMap_b18, gfI_at h1, h2, Option.bind_some]
  unfold kMp b2i
  simp only [Bool.or_eq_true, beq_iff_eq]
  by_cases a1 : kd = 109 <;> by_cases a2 : kd = 70 <;> simp [a1, a2]
theorem f_isRow {S : GS} {a : Nat} {kd : Int32} (h1 : gT S a = 2) (h2 : gI S a 0 = kd) : f_X1_isRow S a = some (b2i (kLs kd || kd == 118)) := by
  simp only [f_X1_isRow, f_X1_isRow_b16, h1, beq_self_eq_true, gck_t, f_isList h1 h2, gfI_at h1, h2, Option.bind_some, b2i_0]
  cases kLs kd
  · by_cases a1 : kd = 118 <;> simp [a1, b2i]
  · simp [b2i]
