/-! the class's checks -/
theorem gth_l {α β : Type} {v : α} {k : α → Option (β ⊕ Nat)} : gth (some (.inl v)) k = k v := rfl
theorem gth_r {α β : Type} {e : Nat} {k : α → Option (β ⊕ Nat)} : gth (some (.inr e)) k = some (.inr e) := rfl
theorem gth2_l {α β γ : Type} {v : α} {w : β} {k : α → β → Option (γ ⊕ Nat)} : gth2 (some (.inl (v, w))) k = k v w := rfl
theorem gth2_r {α β γ : Type} {e : Nat} {k : α → β → Option (γ ⊕ Nat)} : gth2 (some (.inr e)) k = some (.inr e) := rfl
theorem gth3_l {α β δ γ : Type} {v : α} {w : β} {u : δ} {k : α → β → δ → Option (γ ⊕ Nat)} : gth3 (some (.inl (v, w, u))) k = k v w u := rfl
theorem gth3_r {α β δ γ : Type} {e : Nat} {k : α → β → δ → Option (γ ⊕ Nat)} : gth3 (some (.inr e)) k = some (.inr e) := rfl
theorem gb2_s {α β γ : Type} {v : α} {w : β} {k : α → β → Option γ} : gb2 (some (v, w)) k = k v w := rfl
theorem gb3_s {α β δ γ : Type} {v : α} {w : β} {u : δ} {k : α → β → δ → Option γ} : gb3 (some (v, w, u)) k = k v w u := rfl
def sIx (x : Int32) : Option Nat := if x < 0 then none else if x < 12 then some x.toNatClampNeg else none
theorem sIx_c (x : Int32) : (sIx x = none ∧ (x < 0 ∨ (¬ x < 0 ∧ ¬ x < 12))) ∨ ∃ s, s < 12 ∧ x = nI s ∧ sIx x = some s := by
  unfold sIx
  by_cases h : x < 0
  · exact Or.inl ⟨if_pos h, Or.inl h⟩
  · by_cases h2 : x < 12
    · rcases pk_ix x (n := 12) (by omega) with q | q | ⟨j, h3, rfl⟩
      · exact absurd q h
      · rw [← n_12] at q; exact absurd h2 (Int32.not_lt.mpr q)
      · refine Or.inr ⟨j, h3, rfl, ?_⟩
        rw [if_neg h, if_pos h2, nI_clamp (by omega)]
    · exact Or.inl ⟨by rw [if_neg h, if_neg h2], Or.inr ⟨h, h2⟩⟩
def inP (x : Int32) (n : Nat) : Bool := decide (0 ≤ x.toInt ∧ x.toInt < (n : Int))
theorem inP_c (x : Int32) {n : Nat} (hn : n < 2 ^ 31) : (inP x n = false ∧ (x < 0 ∨ (¬ x < 0 ∧ ¬ x < nI n))) ∨ ∃ i, i < n ∧ x = nI i ∧ inP x n = true ∧ x.toNatClampNeg = i := by
  rcases pk_ix x hn with q | q | ⟨j, h3, rfl⟩
  · refine Or.inl ⟨decide_eq_false ?_, Or.inl q⟩
    rw [Int32.lt_iff_toInt_lt] at q
    simp at q
    omega
  · refine Or.inl ⟨decide_eq_false ?_, Or.inr ⟨?_, Int32.not_lt.mpr q⟩⟩
    · rw [Int32.le_iff_toInt_le, nI_toInt hn] at q
      omega
    · rw [Int32.le_iff_toInt_le, nI_toInt hn] at q
      rw [Int32.lt_iff_toInt_lt]
      simp
      omega
  · refine Or.inr ⟨j, h3, rfl, decide_eq_true ?_, nI_clamp (by omega)⟩
    rw [nI_toInt (by omega)]
    omega
def thOk (k m : Int32) : Bool := decide (-999 ≤ k.toInt ∧ k.toInt ≤ 999 ∧ 0 ≤ m.toInt ∧ m.toInt ≤ 99)
theorem c_needThing (S : GS) (k m : Int32) : f_X4_needThing S k m = some (if thOk k m = true then .inl () else .inr 4) := by
  have e1 : (-999 : Int32).toInt = -999 := by decide
  have e2 : (999 : Int32).toInt = 999 := by decide
  have e3 : (0 : Int32).toInt = 0 := by decide
  have e4 : (99 : Int32).toInt = 99 := by decide
  unfold f_X4_needThing thOk
  simp only [Int32.lt_iff_toInt_lt, Int32.le_iff_toInt_le, e1, e2, e3, e4]
  by_cases a1 : k.toInt < -999
  · rw [if_pos a1, decide_eq_false (by omega)]; simp
  · rw [if_neg a1]
    by_cases a2 : 999 < k.toInt
    · rw [if_pos a2, decide_eq_false (by omega)]; simp
    · rw [if_neg a2]
      by_cases a3 : m.toInt < 0
      · rw [if_pos a3, decide_eq_false (by omega)]; simp
      · rw [if_neg a3]
        by_cases a4 : m.toInt ≤ 99
        · rw [if_pos a4, decide_eq_true (by omega)]; simp
        · rw [if_neg a4, decide_eq_false (by omega)]; simp
theorem c_needPane (S : GS) (x : Int32) : f_X4_needPaneSlot S x = some (match sIx x with | some s => (if s < 4 then .inr 1 else .inl ()) | none => .inr 1) := by
  unfold f_X4_needPaneSlot
  rcases sIx_c x with ⟨e, h⟩ | ⟨s, h, rfl, e⟩
  · rw [e]
    by_cases h4 : x < 4
    · rw [if_pos h4]
    · rw [if_neg h4]
      rcases h with h | h
      · exfalso
        rw [Int32.lt_iff_toInt_lt] at h h4
        have e1 : (4 : Int32).toInt = 4 := by decide
        rw [e1] at h4
        simp at h
        omega
      · rw [if_neg h.2]
  · rw [e, n_4, n_12]
    simp (disch := omega) only [nI_ltI]
    by_cases h4 : s < 4
    · rw [if_pos h4, if_pos h4]
    · rw [if_neg h4, if_neg h4, if_pos h]
theorem c_needSlots (S : GS) (x y : Int32) : f_X4_needSlots S x y = some (match sIx x, sIx y with | some _, some _ => .inl () | _, _ => .inr 1) := by
  unfold f_X4_needSlots
  rcases sIx_c x with ⟨e, h⟩ | ⟨s, h, rfl, e⟩
  · rw [e]
    rcases h with h | ⟨h1, h2⟩
    · rw [if_pos h]
    · rw [if_neg h1, if_pos (Int32.not_lt.mp h2)]
  · have h1 : ¬ nI s < 0 := nI_pos (by omega)
    have h2 : ¬ (12 : Int32) ≤ nI s := by rw [n_12]; exact nI_ge h (by omega)
    rw [e, if_neg h1, if_neg h2]
    rcases sIx_c y with ⟨e, h⟩ | ⟨s, h, rfl, e⟩
    · rw [e]
      rcases h with h | ⟨h1, h2⟩
      · rw [if_pos h]
      · rw [if_neg h1, if_neg h2]
    · have h1 : ¬ nI s < 0 := nI_pos (by omega)
      have h2 : nI s < (12 : Int32) := by rw [n_12]; exact nI_lt h (by omega)
      rw [e, if_neg h1, if_pos h2]
theorem c_held_no {S : GS} {b : Nat} {x : Int32} (h : sIx x = none) : f_X4_held S b x = some (.inr 1) := by
  rcases sIx_c x with ⟨e, h1⟩ | ⟨s, h1, rfl, e⟩
  · unfold f_X4_held
    rcases h1 with h1 | ⟨h1, h2⟩
    · rw [if_pos h1]
    · rw [if_neg h1, if_neg h2]
  · rw [e] at h; cases h
theorem c_held {S : GS} {b s : Nat} (h : cHd S b) (hs : s < 12) : f_X4_held S b (nI s) = some (.inl (gR S (b + 1) s)) := by
  obtain ⟨⟨h1, h2, h3, h4, h5⟩, ⟨h6, h7⟩, -⟩ := h
  have a1 : (nI s < 0) = False := eq_false (nI_pos (by omega))
  have a2 : (nI s < (12 : Int32)) = True := eq_true (by rw [n_12]; exact nI_lt hs (by omega))
  simp (disch := first | assumption | omega) only [f_X4_held, a1, a2, if_true, if_false, gfR_at, h2, Option.bind_some, aR]
/-- the class's checks of a slot: what they give back -/
def ndL (A : AS) (x : Int32) (q : Int32 → Bool) : Nat ⊕ Nat := match sIx x with
  | none => .inr 1
  | some s => if sK (slA A s) = 45 then .inr 2 else if q (sK (slA A s)) = true then .inl s else .inr 2
theorem sum_map_l {α β γ : Type} (f : α → γ) (v : α) : (Sum.map f (id : β → β) (.inl v)) = .inl (f v) := rfl
/-- a slot that holds something -/
def has (A : AS) (S : GS) (b s a : Nat) : Prop := s < 12 ∧ sK (slA A s) ≠ 45 ∧ gR S (b + 1) s = some a ∧ cPn S a (sK (slA A s)) (vwA A (slA A s)) (if isC (slA A s) = true then none else some (stB b (sR (slA A s)))) (fsA A (slA A s)) ∧ gI S a 1 = b2i (sO (slA A s)) ∧ (sP (slA A s) = none → gR S a 3 = none)
theorem c_need {b k hs : Nat} {pa ch : Nat → Nat} {S : GS} {A : AS} {x : Int32} {f : GS → Nat → Int32 → Option (Option Nat ⊕ Nat)} (h : Rcp b k pa ch S hs A) (hw : WF A) (q : Int32 → Bool)
    (hf0 : ∀ e, f_X4_held S b x = some (.inr e) → f S b x = some (.inr e)) (hf1 : f_X4_held S b x = some (.inl none) → f S b x = some (.inr 2))
    (hf2 : ∀ a, f_X4_held S b x = some (.inl (some a)) → gT S a = 2 → f S b x = if q (gI S a 0) = true then some (.inl (some a)) else some (.inr 2)) :
    (∃ e, ndL A x q = .inr e ∧ f S b x = some (.inr e)) ∨ ∃ s a, ndL A x q = .inl s ∧ sIx x = some s ∧ x = nI s ∧ q (sK (slA A s)) = true ∧ has A S b s a ∧ f S b x = some (.inl (some a)) := by
  unfold ndL
  rcases sIx_c x with ⟨e, h1⟩ | ⟨s, h1, rfl, e⟩
  · rw [e]
    exact Or.inl ⟨1, rfl, hf0 1 (c_held_no e)⟩
  · rw [e]
    have e1 := c_held h.1 h1
    by_cases hk : sK (slA A s) = 45
    · have := (h.2.2.2.1 s h1).1 hk
      rw [this] at e1
      exact Or.inl ⟨2, by simp only [hk, if_true], hf1 e1⟩
    · obtain ⟨a, g1, g2, g3, g4⟩ := h.pane hw h1 hk
      rw [g1] at e1
      have g5 := hf2 a e1 g2.1
      rw [g2.2.1] at g5
      by_cases hq : q (sK (slA A s)) = true
      · refine Or.inr ⟨s, a, by simp only [hk, if_false, hq, if_true], rfl, rfl, hq, ⟨h1, hk, g1, g2, g3, fun hp => by rw [g4, hp]; rfl⟩, by rw [g5, if_pos hq]⟩
      · exact Or.inl ⟨2, by simp only [hk, if_false, hq]; rfl, by rw [g5, if_neg hq]⟩
theorem c_needList {b k hs : Nat} {pa ch : Nat → Nat} {S : GS} {A : AS} {x : Int32} (h : Rcp b k pa ch S hs A) (hw : WF A) :
    (∃ e, ndL A x kLs = .inr e ∧ f_X4_needList S b x = some (.inr e)) ∨ ∃ s a, ndL A x kLs = .inl s ∧ sIx x = some s ∧ x = nI s ∧ kLs (sK (slA A s)) = true ∧ has A S b s a ∧ f_X4_needList S b x = some (.inl (some a)) := by
  refine c_need h hw kLs (fun e he => ?_) (fun he => ?_) (fun a he ha => ?_) <;> simp only [f_X4_needList, h.1.1.1, beq_self_eq_true, gck_t, he, gth_r, gth_l, if_true, reduceCtorEq, if_false]
  simp only [gtk_at ha, Option.bind_some, f_isList ha rfl, b2i_0]
  cases kLs (gI S a 0) <;> simp
theorem c_needRow {b k hs : Nat} {pa ch : Nat → Nat} {S : GS} {A : AS} {x : Int32} (h : Rcp b k pa ch S hs A) (hw : WF A) :
    (∃ e, ndL A x (fun k => kLs k || k == 118) = .inr e ∧ f_X4_needRow S b x = some (.inr e)) ∨ ∃ s a, ndL A x (fun k => kLs k || k == 118) = .inl s ∧ sIx x = some s ∧ x = nI s ∧ (kLs (sK (slA A s)) || sK (slA A s) == 118) = true ∧ has A S b s a ∧ f_X4_needRow S b x = some (.inl (some a)) := by
  refine c_need h hw (fun k => kLs k || k == 118) (fun e he => ?_) (fun he => ?_) (fun a he ha => ?_) <;> simp only [f_X4_needRow, h.1.1.1, beq_self_eq_true, gck_t, he, gth_r, gth_l, if_true, reduceCtorEq, if_false]
  simp only [gtk_at ha, Option.bind_some, f_isRow ha rfl, b2i_0]
  cases kLs (gI S a 0) || gI S a 0 == 118 <;> simp
theorem c_needMap {b k hs : Nat} {pa ch : Nat → Nat} {S : GS} {A : AS} {x : Int32} (h : Rcp b k pa ch S hs A) (hw : WF A) :
    (∃ e, ndL A x kMp = .inr e ∧ f_X4_needMap S b x = some (.inr e)) ∨ ∃ s a, ndL A x kMp = .inl s ∧ sIx x = some s ∧ x = nI s ∧ kMp (sK (slA A s)) = true ∧ has A S b s a ∧ f_X4_needMap S b x = some (.inl (some a)) := by
  refine c_need h hw kMp (fun e he => ?_) (fun he => ?_) (fun a he ha => ?_) <;> simp only [f_X4_needMap, h.1.1.1, beq_self_eq_true, gck_t, he, gth_r, gth_l, if_true, reduceCtorEq, if_false]
  simp only [gtk_at ha, Option.bind_some, f_isMap ha rfl, b2i_0]
  cases kMp (gI S a 0) <;> simp
theorem c_needKeys {b k hs : Nat} {pa ch : Nat → Nat} {S : GS} {A : AS} {x : Int32} (h : Rcp b k pa ch S hs A) (hw : WF A) :
    (∃ e, ndL A x (fun k => k == 107) = .inr e ∧ f_X4_needKeys S b x = some (.inr e)) ∨ ∃ s a, ndL A x (fun k => k == 107) = .inl s ∧ sIx x = some s ∧ x = nI s ∧ (sK (slA A s) == 107) = true ∧ has A S b s a ∧ f_X4_needKeys S b x = some (.inl (some a)) := by
  refine c_need h hw (fun k => k == 107) (fun e he => ?_) (fun he => ?_) (fun a he ha => ?_) <;> simp only [f_X4_needKeys, h.1.1.1, beq_self_eq_true, gck_t, he, gth_r, gth_l, if_true, reduceCtorEq, if_false]
  simp only [gfI_at ha, Option.bind_some, beq_iff_eq]
theorem c_needNumbers {b k hs : Nat} {pa ch : Nat → Nat} {S : GS} {A : AS} {x : Int32} (h : Rcp b k pa ch S hs A) (hw : WF A) :
    (∃ e, ndL A x (fun k => kMp k || k == 107) = .inr e ∧ f_X4_needNumbers S b x = some (.inr e)) ∨ ∃ s a, ndL A x (fun k => kMp k || k == 107) = .inl s ∧ sIx x = some s ∧ x = nI s ∧ (kMp (sK (slA A s)) || sK (slA A s) == 107) = true ∧ has A S b s a ∧ f_X4_needNumbers S b x = some (.inl (some a)) := by
  refine c_need h hw (fun k => kMp k || k == 107) (fun e he => ?_) (fun he => ?_) (fun a he ha => ?_) <;> simp only [f_X4_needNumbers, h.1.1.1, beq_self_eq_true, gck_t, he, gth_r, gth_l, if_true, reduceCtorEq, if_false]
  simp only [gtk_at ha, Option.bind_some, f_isMap ha rfl, gfI_at ha, b2i_0, f_X4_needNumbers_b34, Bool.or_eq_true, beq_iff_eq]
  cases kMp (gI S a 0) <;> simp
theorem c_needSome {b k hs : Nat} {pa ch : Nat → Nat} {S : GS} {A : AS} {x : Int32} (h : Rcp b k pa ch S hs A) (hw : WF A) :
    (∃ e, ndL A x (fun _ => true) = .inr e ∧ f_X4_needSomething S b x = some (.inr e)) ∨ ∃ s a, ndL A x (fun _ => true) = .inl s ∧ sIx x = some s ∧ x = nI s ∧ true = true ∧ has A S b s a ∧ f_X4_needSomething S b x = some (.inl (some a)) := by
  refine c_need h hw (fun _ => true) (fun e he => ?_) (fun he => ?_) (fun a he ha => ?_) <;> simp only [f_X4_needSomething, h.1.1.1, beq_self_eq_true, gck_t, he, gth_r, gth_l, if_true, reduceCtorEq, if_false]
