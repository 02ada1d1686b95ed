/-! THE STATE OF A HOUSE, as both sides have it: rows 0, 1 the lists, 2, 3 the maps; twelve slots; parts by number -/
abbrev Sl : Type := Int32 × Nat × Option Nat × Int32 × Int32 × Bool
abbrev Pt : Type := Nat × Option Nat × Nat × Nat × Bool
abbrev AS : Type := (Nat → List Tr) × (Nat → Sl) × Nat × (Nat → Pt)
def rwA (A : AS) (j : Nat) : List Tr := A.1 j
def slA (A : AS) (s : Nat) : Sl := A.2.1 s
def npA (A : AS) : Nat := A.2.2.1
def ptA (A : AS) (p : Nat) : Pt := A.2.2.2 p
/-- kind, row (or how many copies), part, key, mark, open -/
def sK (x : Sl) : Int32 := x.1
def sR (x : Sl) : Nat := x.2.1
def sP (x : Sl) : Option Nat := x.2.2.1
def sY (x : Sl) : Int32 := x.2.2.2.1
def sM (x : Sl) : Int32 := x.2.2.2.2.1
def sO (x : Sl) : Bool := x.2.2.2.2.2
/-- its list, what it is a part of, from, size, gone -/
def pL (x : Pt) : Nat := x.1
def pA (x : Pt) : Option Nat := x.2.1
def pF (x : Pt) : Nat := x.2.2.1
def pZ (x : Pt) : Nat := x.2.2.2.1
def pG (x : Pt) : Bool := x.2.2.2.2
def upf {α : Type} (f : Nat → α) (i : Nat) (x : α) : Nat → α := fun j => if j = i then x else f j
def aSetR (A : AS) (j : Nat) (L : List Tr) : AS := (upf A.1 j L, A.2.1, A.2.2.1, A.2.2.2)
def aSetS (A : AS) (s : Nat) (x : Sl) : AS := (A.1, upf A.2.1 s x, A.2.2.1, A.2.2.2)
/-- a slot that holds nothing -/
abbrev nil0 : Sl := (45, 0, none, 0, 0, false)
def isC (x : Sl) : Bool := sK x == 99 || sK x == 97 || sK x == 101
/-- the first place, and how many -/
def fsA (A : AS) (x : Sl) : Nat := match sP x with
  | none => 0
  | some p => pF (ptA A p)
def szA (A : AS) (x : Sl) : Nat := match sP x with
  | none => (rwA A (sR x)).length
  | some p => pZ (ptA A p)
def cpy (x : Sl) : Nat := if sK x = 97 then 1 else sR x
def vwA (A : AS) (x : Sl) : List Tr := if isC x = true then List.replicate (cpy x) (0, sY x, sM x) else viw (rwA A (sR x)) (fsA A x) (szA A x)
/-- what always holds of the state -/
def wSl (A : AS) (x : Sl) : Prop :=
  (isC x = true → sP x = none ∧ cpy x ≤ 24 ∧ (sK x = 101 → sR x = 0)) ∧
  (isC x = false → sR x < 4 ∧ (∀ p, sP x = some p → p < npA A ∧ pG (ptA A p) = false ∧ pL (ptA A p) = sR x ∧ sR x < 2)) ∧
  (sK x = 108 ∨ sK x = 112 ∨ sK x = 102 ∨ sK x = 109 ∨ sK x = 70 ∨ sK x = 107 ∨ sK x = 118 ∨ sK x = 99 ∨ sK x = 97 ∨ sK x = 101) ∧
  ((sK x = 108 ∨ sK x = 112 ∨ sK x = 102) → sR x < 2) ∧ ((sK x = 109 ∨ sK x = 70 ∨ sK x = 107 ∨ sK x = 118) → 2 ≤ sR x ∧ sP x = none) ∧
  ((sK x = 70 ∨ sK x = 102 ∨ isC x = true) → sO x = false) ∧ ((sK x = 108 ∨ sK x = 112 ∨ sK x = 109) → sO x = true) ∧ (sK x = 112 → sP x ≠ none) ∧ (sK x = 108 → sP x = none)
def inB (t : Tr) : Prop := -999 ≤ t.2.1.toInt ∧ t.2.1.toInt ≤ 999 ∧ 0 ≤ t.2.2.toInt ∧ t.2.2.toInt ≤ 99
def wPt (A : AS) (p : Nat) : Prop := pG (ptA A p) = false → pL (ptA A p) < 2 ∧ pF (ptA A p) + pZ (ptA A p) ≤ (rwA A (pL (ptA A p))).length ∧
  ∀ q, pA (ptA A p) = some q → q < p ∧ pG (ptA A q) = false ∧ pL (ptA A q) = pL (ptA A p) ∧ pF (ptA A q) ≤ pF (ptA A p) ∧ pF (ptA A p) + pZ (ptA A p) ≤ pF (ptA A q) + pZ (ptA A q)
def WF (A : AS) : Prop :=
  (∀ j, j < 4 → (rwA A j).length ≤ 24 ∧ ∀ t ∈ rwA A j, inB t) ∧
  (∀ s, s < 12 → sK (slA A s) ≠ 45 → wSl A (slA A s)) ∧
  (∀ s, s < 12 → isC (slA A s) = true → sK (slA A s) ≠ 101 → inB (0, sY (slA A s), sM (slA A s))) ∧
  (slA A 0 = (108, 0, none, 0, 0, true) ∧ slA A 1 = (108, 1, none, 0, 0, true) ∧ slA A 2 = (109, 2, none, 0, 0, true) ∧ slA A 3 = (109, 3, none, 0, 0, true)) ∧
  (∀ s, 4 ≤ s → s < 12 → sK (slA A s) ≠ 108 ∧ sK (slA A s) ≠ 109) ∧
  (∀ p, p < npA A → wPt A p) ∧
  (∀ j, 2 ≤ j → j < 4 → ((rwA A j).map fun t => t.1).Nodup) ∧
  ((rwA A 3).map fun t => t.1.toInt).Pairwise (· < ·)
/-! THE CLASS HOLDS IT: x at b, its own cells behind it -/
def stB (b j : Nat) : Nat := b + 3 + 5 * j
def cHd (S : GS) (b : Nat) : Prop := (gT S b = 5 ∧ gR S b 0 = some (b + 1) ∧ gR S b 1 = some (b + 22) ∧ gR S b 2 = some (b + 26) ∧ gR S b 3 = some (b + 27)) ∧ (gT S (b + 1) = 14 ∧ gZ S (b + 1) = 12) ∧ (gT S (b + 26) = 12 ∧ gZ S (b + 26) = 24) ∧
  (gT S (b + 27) = 1 ∧ gR S (b + 27) 0 = some (b + 28) ∧ gR S (b + 27) 1 = some (b + 32)) ∧ (gT S (b + 32) = 2 ∧ gI S (b + 32) 0 = 108 ∧ gR S (b + 32) 2 = some (b + 28) ∧ gR S (b + 32) 3 = none)
def cSl (S : GS) (b : Nat) (pa : Nat → Nat) (x : Sl) (v : Option Nat) : Prop :=
  (sK x = 45 → v = none) ∧ (sK x ≠ 45 → ∃ a, v = some a ∧ gT S a = 2 ∧ gI S a 0 = sK x ∧ gI S a 1 = b2i (sO x) ∧ gR S a 2 = (if isC x = true then none else some (stB b (sR x))) ∧ gR S a 3 = (sP x).map pa ∧
    (isC x = true → gI S a 4 = nI (cpy x) ∧ gI S a 5 = sY x ∧ gI S a 6 = sM x))
def cPt (S : GS) (pa ch : Nat → Nat) (x : Pt) (a : Nat) : Prop := gT S a = 3 ∧ gR S a 0 = (pA x).map pa ∧ gI S a 1 = nI (pF x) ∧ gI S a 2 = nI (pZ x) ∧ ∃ c, c ≤ ch (pL x) ∧ gI S a 3 = nI c
def Rcp (b k : Nat) (pa ch : Nat → Nat) (S : GS) (hs : Nat) (A : AS) : Prop :=
  cHd S b ∧ (∀ j, j < 4 → cSt S (stB b j) (rwA A j) ∧ gI S (stB b j) 3 = (if j = 3 then 1 else 0) ∧ gI S (stB b j) 5 = nI (ch j) ∧ ch j ≤ k) ∧ ((∃ L, cSt S (b + 22) L) ∧ ∃ L, cSt S (b + 28) L) ∧
  (∀ s, s < 12 → cSl S b pa (slA A s) (gR S (b + 1) s)) ∧ (∀ p, p < npA A → pG (ptA A p) = false → cPt S pa ch (ptA A p) (pa p)) ∧ (∀ p q, p < npA A → q < npA A → pG (ptA A p) = false → pG (ptA A q) = false → pa p = pa q → p = q) ∧
  ((∀ a, hs ≤ a → gT S a = 0) ∧ b + 33 ≤ hs ∧ k ≤ 600)
theorem viw_le {L : List Tr} {f z : Nat} : (viw L f z).length ≤ L.length := by simp [viw]; omega
/-- the pane in a slot, as the class has it -/
theorem Rcp.pane {b k hs s : Nat} {pa ch : Nat → Nat} {S : GS} {A : AS} (h : Rcp b k pa ch S hs A) (hw : WF A) (hs12 : s < 12) (hk : sK (slA A s) ≠ 45) :
    ∃ a, gR S (b + 1) s = some a ∧ cPn S a (sK (slA A s)) (vwA A (slA A s)) (if isC (slA A s) = true then none else some (stB b (sR (slA A s)))) (fsA A (slA A s)) ∧ gI S a 1 = b2i (sO (slA A s)) ∧ gR S a 3 = (sP (slA A s)).map pa := by
  obtain ⟨r1, r2, r3, r4, r5, r6, r7⟩ := h
  obtain ⟨w1, w2, w3, w4, w5, w6, w7, w8⟩ := hw
  obtain ⟨a, e1, e2, e3, e4, e5, e6, e7⟩ := (r4 s hs12).2 hk
  obtain ⟨v1, v2, v3, v4, v5, v6, v7, v8, v9⟩ := w2 s hs12 hk
  generalize hx : slA A s = x at *
  refine ⟨a, e1, ⟨e2, e3, e5, fun e => ?_, fun st e => ?_⟩, e4, e6⟩
  · by_cases hc : isC x = true
    · obtain ⟨c1, c2, c3⟩ := v1 hc
      obtain ⟨d1, d2, d3⟩ := e7 hc
      refine ⟨by rw [e6, c1]; rfl, by unfold fsA; rw [c1], cpy x, sY x, sM x, c2, by unfold vwA; rw [if_pos hc], d1, d2, d3⟩
    · rw [if_neg hc] at e; cases e
  · by_cases hc : isC x = true
    · rw [if_pos hc] at e; cases e
    · rw [if_neg hc] at e
      cases e
      have hc' : isC x = false := by cases h : isC x with | true => exact absurd h hc | false => rfl
      obtain ⟨d1, d2⟩ := v2 hc'
      obtain ⟨f1, f2, f3, f4⟩ := r2 (sR x) d1
      have hv : vwA A x = viw (rwA A (sR x)) (fsA A x) (szA A x) := by unfold vwA; rw [if_neg hc]
      have hz : fsA A x + szA A x ≤ (rwA A (sR x)).length := by
        unfold fsA szA
        cases hp : sP x with
        | none => simp
        | some p =>
          obtain ⟨g1, g2, g3, g4⟩ := d2 p hp
          have := (w6 p g1 g2).2.1
          rw [g3] at this
          exact this
      have hl : (vwA A x).length = szA A x := by rw [hv, viw_len hz]
      refine ⟨rwA A (sR x), f1, by rw [hl]; exact hz, by rw [hl]; exact hv, ?_⟩
      cases hp : sP x with
      | none =>
        refine Or.inl ⟨by rw [e6, hp]; rfl, by unfold fsA; rw [hp], ?_⟩
        rw [hl]; unfold szA; rw [hp]
      | some p =>
        obtain ⟨g1, g2, g3, g4⟩ := d2 p hp
        obtain ⟨p1, p2, p3, p4, p5⟩ := r5 p g1 g2
        refine Or.inr ⟨pa p, by rw [e6, hp]; rfl, p1, ?_, ?_⟩
        · rw [p3]; unfold fsA; rw [hp]
        · rw [hl, p4]; unfold szA; rw [hp]
