/-! what a change does to the panes -/
theorem rw_set {A : AS} {j i : Nat} {L : List Tr} : rwA (aSetR A j L) i = if i = j then L else rwA A i := rfl
theorem sl_setR {A : AS} {j s : Nat} {L : List Tr} : slA (aSetR A j L) s = slA A s := rfl
theorem pt_setR {A : AS} {j p : Nat} {L : List Tr} : ptA (aSetR A j L) p = ptA A p := rfl
theorem np_setR {A : AS} {j : Nat} {L : List Tr} : npA (aSetR A j L) = npA A := rfl
theorem cFr.out {w a k : Nat} {S S' : GS} (hr : cFr w S S') (hk : cSk S w) (h4 : gT S a ≠ 4) (h11 : gT S a ≠ 11) : gI S' a k = gI S a k := by
  obtain ⟨k1, k2, k3, k4, k5, k6, k7, -⟩ := hk
  refine hr.2.2.2.1 a k fun hy => ?_
  have : a = w ∨ a = w + 1 ∨ a = w + 2 ∨ a = w + 3 := by omega
  rcases this with rfl | rfl | rfl | rfl <;> omega
/-- all but the rows stays under a change within a store's cells -/
theorem cFr.keep {w b k hs : Nat} {pa ch : Nat → Nat} {S S' : GS} {A : AS} (h : Rcp b k pa ch S hs A) (hr : cFr w S S') (hk : cSk S w) :
    cHd S' b ∧ (∀ s, s < 12 → cSl S' b pa (slA A s) (gR S' (b + 1) s)) ∧ (∀ p, p < npA A → pG (ptA A p) = false → cPt S' pa ch (ptA A p) (pa p)) ∧ ((∀ a, hs ≤ a → gT S' a = 0) ∧ b + 33 ≤ hs ∧ k ≤ 600) := by
  obtain ⟨r1, r2, r3, r4, r5, r6, r7⟩ := h
  have ho := fun a k h4 h11 => hr.out (a := a) (k := k) hk h4 h11
  obtain ⟨q1, q2, q3, -⟩ := id hr
  refine ⟨?_, fun s hs => ?_, fun p hp hg => ?_, ?_⟩
  · obtain ⟨⟨a1, a2, a3, a4, a5⟩, ⟨a6, a7⟩, ⟨a8, a9⟩, ⟨b1, b2, b3⟩, b4, b5, b6, b7⟩ := r1
    refine ⟨⟨?_, ?_, ?_, ?_, ?_⟩, ⟨?_, ?_⟩, ⟨?_, ?_⟩, ⟨?_, ?_, ?_⟩, ?_, ?_, ?_, ?_⟩ <;> first | (rw [q1]; assumption) | (rw [q2]; assumption) | (rw [q3]; assumption) | (rw [ho _ _ (by omega) (by omega)]; assumption)
  · obtain ⟨c1, c2⟩ := r4 s hs
    refine ⟨fun e => by rw [q1]; exact c1 e, fun e => ?_⟩
    obtain ⟨a, d1, d2, d3, d4, d5, d6, d7⟩ := c2 e
    have hoa := fun k => ho a k (by omega) (by omega)
    exact ⟨a, by rw [q1]; exact d1, by rw [q2]; exact d2, by rw [hoa]; exact d3, by rw [hoa]; exact d4, by rw [q1]; exact d5, by rw [q1]; exact d6, fun e => by rw [hoa, hoa, hoa]; exact d7 e⟩
  · obtain ⟨d1, d2, d3, d4, c, d5, d6⟩ := r5 p hp hg
    have hoa := fun k => ho (pa p) k (by omega) (by omega)
    exact ⟨by rw [q2]; exact d1, by rw [q1]; exact d2, by rw [hoa]; exact d3, by rw [hoa]; exact d4, c, d5, by rw [hoa]; exact d6⟩
  · exact ⟨fun a ha => by rw [q2]; exact r7.1 a ha, r7.2⟩
theorem stB_sep {b i j : Nat} (h : i ≠ j) : stB b i + 3 < stB b j ∨ stB b j + 3 < stB b i := by unfold stB; omega
theorem Rcp.row {b k hs j : Nat} {pa ch : Nat → Nat} {S S' : GS} {A : AS} {L : List Tr} (h : Rcp b k pa ch S hs A) (hj : j < 4) (hr : cFr (stB b j) S S') (hL : cSt S' (stB b j) L) : Rcp b k pa ch S' hs (aSetR A j L) := by
  obtain ⟨g1, g2, g3, g4⟩ := hr.keep h (h.2.1 j hj).1.1
  obtain ⟨r1, r2, ⟨⟨L1, r3⟩, L2, r3'⟩, r4, r5, r6, r7⟩ := h
  refine ⟨g1, fun i hi => ?_, ⟨⟨L1, hr.st r3 (by unfold stB; omega)⟩, L2, hr.st r3' (by unfold stB; omega)⟩, g2, g3, r6, g4⟩
  obtain ⟨f1, f2, f3, f4⟩ := r2 i hi
  rw [rw_set]
  by_cases e : i = j
  · subst e
    rw [if_pos rfl]
    exact ⟨hL, by rw [hr.2.2.2.2 3 (by omega)]; exact f2, by rw [hr.2.2.2.2 5 (by omega)]; exact f3, f4⟩
  · rw [if_neg e]
    have hs := stB_sep (b := b) e
    exact ⟨hr.st f1 hs, by rw [hr.2.2.2.1 _ _ (by omega)]; exact f2, by rw [hr.2.2.2.1 _ _ (by omega)]; exact f3, f4⟩
/-- the store that things wait in, or the checker's -/
theorem Rcp.aside {b k hs w : Nat} {pa ch : Nat → Nat} {S S' : GS} {A : AS} {L : List Tr} (h : Rcp b k pa ch S hs A) (hw : w = b + 22 ∨ w = b + 28) (hr : cFr w S S') (hL : cSt S' w L) : Rcp b k pa ch S' hs A := by
  obtain ⟨r1, r2, ⟨⟨L1, r3⟩, L2, r3'⟩, r4, r5, r6, r7⟩ := id h
  have hk : cSk S w := by rcases hw with rfl | rfl <;> first | exact r3.1 | exact r3'.1
  obtain ⟨g1, g2, g3, g4⟩ := hr.keep h hk
  refine ⟨g1, fun i hi => ?_, ?_, g2, g3, r6, g4⟩
  · obtain ⟨f1, f2, f3, f4⟩ := r2 i hi
    have hs : stB b i + 3 < w ∨ w + 3 < stB b i := by unfold stB; omega
    exact ⟨hr.st f1 hs, by rw [hr.2.2.2.1 _ _ (by omega)]; exact f2, by rw [hr.2.2.2.1 _ _ (by omega)]; exact f3, f4⟩
  · rcases hw with rfl | rfl
    · exact ⟨⟨L, hL⟩, L2, hr.st r3' (by omega)⟩
    · exact ⟨⟨L1, hr.st r3 (by omega)⟩, L, hL⟩
/-- a number of a cell that none of it speaks of -/
theorem cSt.gsI {S : GS} {st a k : Nat} {v : Int32} {L : List Tr} (h : cSt S st L) (ha : ¬ (st ≤ a ∧ a ≤ st + 3)) : cSt (gsI S a k v) st L := by
  obtain ⟨g1, g2, g3, g4⟩ := h
  refine ⟨g1, by rw [gI_gsI, if_neg (by omega)]; exact g2, g3, fun i hi => ?_⟩
  rw [← g4 i hi]
  unfold trw
  rw [gI_gsI, gI_gsI, gI_gsI, if_neg (by omega), if_neg (by omega), if_neg (by omega)]
theorem Rcp.going {b k hs i : Nat} {pa ch : Nat → Nat} {S : GS} {A : AS} {v : Int32} (h : Rcp b k pa ch S hs A) : Rcp b k pa ch (gsI S (b + 26) i v) hs A := by
  obtain ⟨r1, r2, ⟨⟨L1, r3⟩, L2, r3'⟩, r4, r5, r6, r7⟩ := h
  have hg : gT S (b + 26) = 12 := r1.2.2.1.1
  have ho : ∀ a k, gT S a ≠ 12 → gI (gsI S (b + 26) i v) a k = gI S a k := fun a k ha => by rw [gI_gsI, if_neg (by rintro ⟨e, -⟩; exact ha (by rw [e]; exact hg))]
  refine ⟨?_, fun j hj => ?_, ⟨⟨L1, r3.gsI (by omega)⟩, L2, r3'.gsI (by omega)⟩, fun s hs => ?_, fun p hp hg => ?_, r6, r7⟩
  · obtain ⟨a1, a2, a3, b3, b4, b5, b6, b7⟩ := r1
    exact ⟨a1, a2, a3, b3, b4, by rw [ho _ _ (by omega)]; exact b5, b6, b7⟩
  · obtain ⟨f1, f2, f3, f4⟩ := r2 j hj
    have := f1.1.1
    exact ⟨f1.gsI (by unfold stB; omega), by rw [ho _ _ (by omega)]; exact f2, by rw [ho _ _ (by omega)]; exact f3, f4⟩
  · obtain ⟨c1, c2⟩ := r4 s hs
    refine ⟨c1, fun e => ?_⟩
    obtain ⟨a, d1, d2, d3, d4, d5, d6, d7⟩ := c2 e
    exact ⟨a, d1, d2, by rw [ho _ _ (by omega)]; exact d3, by rw [ho _ _ (by omega)]; exact d4, d5, d6, fun e => by rw [ho _ _ (by omega), ho _ _ (by omega), ho _ _ (by omega)]; exact d7 e⟩
  · obtain ⟨d1, d2, d3, d4, c, d5, d6⟩ := r5 p hp hg
    exact ⟨d1, d2, by rw [ho _ _ (by omega)]; exact d3, by rw [ho _ _ (by omega)]; exact d4, c, d5, by rw [ho _ _ (by omega)]; exact d6⟩
/-! chains of parts -/
def chn (A : AS) : Nat → Option Nat → List Nat
  | 0, _ => []
  | _ + 1, none => []
  | n + 1, some p => p :: chn A n (pA (ptA A p))
def chA (A : AS) (o : Option Nat) : List Nat := chn A (npA A) o
theorem chn_facts {A : AS} (hw : ∀ p, p < npA A → wPt A p) : ∀ (n p : Nat), p < npA A → pG (ptA A p) = false → p < n →
    (∀ q ∈ chn A n (some p), q ≤ p ∧ q < npA A ∧ pG (ptA A q) = false ∧ pL (ptA A q) = pL (ptA A p) ∧ pF (ptA A q) ≤ pF (ptA A p) ∧ pF (ptA A p) + pZ (ptA A p) ≤ pF (ptA A q) + pZ (ptA A q) ∧ ∀ r, pA (ptA A q) = some r → r ∈ chn A n (some p)) ∧ (chn A n (some p)).Nodup := by
  intro n
  induction n with
  | zero => intro p _ _ h; omega
  | succ n ih =>
    intro p hp hg hn
    obtain ⟨w1, w2, w3⟩ := hw p hp hg
    rw [chn]
    cases ha : pA (ptA A p) with
    | none =>
      have : chn A n none = [] := by cases n <;> rfl
      rw [this]
      refine ⟨fun q hq => ?_, by simp⟩
      rw [List.mem_singleton] at hq
      subst hq
      exact ⟨Nat.le_refl _, hp, hg, rfl, Nat.le_refl _, Nat.le_refl _, fun r hr => by rw [ha] at hr; cases hr⟩
    | some r =>
      obtain ⟨x1, x2, x3, x4, x5⟩ := w3 r ha
      obtain ⟨i1, i2⟩ := ih r (by omega) x2 (by omega)
      refine ⟨fun q hq => ?_, List.nodup_cons.mpr ⟨fun hm => ?_, i2⟩⟩
      · rcases List.mem_cons.mp hq with rfl | hq
        · refine ⟨Nat.le_refl _, hp, hg, rfl, Nat.le_refl _, Nat.le_refl _, fun r' hr' => ?_⟩
          rw [ha] at hr'
          cases hr'
          refine List.mem_cons_of_mem _ ?_
          obtain ⟨n, rfl⟩ : ∃ k, n = k + 1 := ⟨n - 1, by omega⟩
          rw [chn]
          exact List.mem_cons_self
        · obtain ⟨y1, y2, y3, y4, y5, y6, y7⟩ := i1 q hq
          exact ⟨by omega, y2, y3, by omega, by omega, by omega, fun r' hr' => List.mem_cons_of_mem _ (y7 r' hr')⟩
      · have := (i1 p hm).1
        omega
/-- sizes along a chain -/
def aSzs (A : AS) (o : Option Nat) (a c : Nat) : AS := (A.1, A.2.1, A.2.2.1, fun p => if p ∈ chA A o then (pL (ptA A p), pA (ptA A p), pF (ptA A p), pZ (ptA A p) + c - a, pG (ptA A p)) else ptA A p)
/-- a part goes -/
def goP (A : AS) (j : Nat) (o : Option Nat) (p : Nat) : Bool := pG (ptA A p) || (decide (pL (ptA A p) = j) && decide (p ∉ chA A o))
def goS (A : AS) (j : Nat) (o : Option Nat) (s : Nat) : Bool := (decide (4 ≤ s) && decide (sK (slA A s) ≠ 45)) && match sP (slA A s) with
  | none => false
  | some p => goP A j o p
def aLet (A : AS) (j : Nat) (o : Option Nat) : AS := (A.1, fun s => if goS A j o s = true then nil0 else slA A s, A.2.2.1, fun p => (pL (ptA A p), pA (ptA A p), pF (ptA A p), pZ (ptA A p), goP A j o p))
/-- the numbers v at field k of all these parts -/
def wPs (pa : Nat → Nat) (k : Nat) (f : Nat → Int32) : List Nat → GS → GS
  | [], S => S
  | p :: l, S => wPs pa k f l (gsI S (pa p) k (f p))
theorem wPs_r {pa : Nat → Nat} {k : Nat} {f : Nat → Int32} : ∀ (l : List Nat) (S : GS), (∀ a i, gR (wPs pa k f l S) a i = gR S a i) ∧ (∀ a, gT (wPs pa k f l S) a = gT S a) ∧ ∀ a, gZ (wPs pa k f l S) a = gZ S a := by
  intro l
  induction l with
  | nil => intro S; exact ⟨fun _ _ => rfl, fun _ => rfl, fun _ => rfl⟩
  | cons p l ih => intro S; obtain ⟨a, b, c⟩ := ih (gsI S (pa p) k (f p)); exact ⟨fun x i => a x i, fun x => b x, fun x => c x⟩
theorem wPs_no {pa : Nat → Nat} {k a i : Nat} {f : Nat → Int32} : ∀ (l : List Nat) (S : GS), (i ≠ k ∨ ∀ p ∈ l, pa p ≠ a) → gI (wPs pa k f l S) a i = gI S a i := by
  intro l
  induction l with
  | nil => intro S _; rfl
  | cons p l ih =>
    intro S h
    rw [wPs, ih _ (h.imp id (fun h p hp => h p (List.mem_cons_of_mem _ hp))), gI_gsI, if_neg]
    rintro ⟨rfl, rfl⟩
    rcases h with h | h
    · exact h rfl
    · exact h p List.mem_cons_self rfl
theorem wPs_at {pa : Nat → Nat} {k p : Nat} {f : Nat → Int32} : ∀ (l : List Nat) (S : GS), l.Nodup → (∀ q ∈ l, pa q = pa p → q = p) → p ∈ l → gI (wPs pa k f l S) (pa p) k = f p := by
  intro l
  induction l with
  | nil => intro S _ _ h; cases h
  | cons q l ih =>
    intro S hn hi hm
    rw [wPs]
    obtain ⟨n1, n2⟩ := List.nodup_cons.mp hn
    rcases List.mem_cons.mp hm with rfl | hm
    · rw [wPs_no l _ (Or.inr fun r hr e => n1 (hi r (List.mem_cons_of_mem _ hr) e ▸ hr)), gI_gsI, if_pos ⟨rfl, rfl⟩]
    · exact ih _ n2 (fun r hr => hi r (List.mem_cons_of_mem _ hr)) hm
