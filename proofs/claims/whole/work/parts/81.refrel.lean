/-! the reference holds the state: what its cells hold -/
def oI (o : Option Nat) : Int32 := match o with
  | none => -1
  | some p => nI p
theorem oI_none : oI none = -1 := rfl
theorem oI_some {p : Nat} : oI (some p) = nI p := rfl
theorem nI_m1 {p : Nat} (h : p < 2 ^ 31) : (nI p = -1) = False := eq_false fun e => by
  have e2 := congrArg Int32.toInt e
  rw [nI_toInt h] at e2
  have e1 : (-1 : Int32).toInt = -1 := by decide
  omega
theorem m1_nI {p : Nat} (h : p < 2 ^ 31) : ((-1 : Int32) = nI p) = False := eq_false fun e => by
  have := nI_m1 h
  rw [← e] at this
  exact absurd (rfl : (-1 : Int32) = -1) (by rw [this]; exact id)
/-- the number of a row among the lists, or among the maps -/
def rIx (x : Sl) : Nat := if sR x < 2 then sR x else sR x - 2
def rLst (S : GS) (r j : Nat) (L : List Tr) : Prop := gI S (r + 7) j = nI L.length ∧ ∀ i, i < L.length → gI S (r + (2 + j)) i = (L.getD i tz).2.1 ∧ gI S (r + (5 + j)) i = (L.getD i tz).2.2
def rMap (S : GS) (r j : Nat) (L : List Tr) : Prop := gI S (r + 17) j = nI L.length ∧ ∀ i, i < L.length → gI S (r + (9 + j)) i = (L.getD i tz).1 ∧ gI S (r + (12 + j)) i = (L.getD i tz).2.1 ∧ gI S (r + (15 + j)) i = (L.getD i tz).2.2
def rSl (S : GS) (r s : Nat) (x : Sl) : Prop := gI S (r + 23) s = sK x ∧ (sK x ≠ 45 → gI S (r + 25) s = oI (sP x) ∧ (isC x = true → (sK x = 99 → gI S (r + 24) s = nI (sR x)) ∧ (sK x ≠ 101 → gI S (r + 26) s = sY x ∧ gI S (r + 27) s = sM x)) ∧ (isC x = false → gI S (r + 24) s = nI (rIx x) ∧ gI S (r + 28) s = b2i (!sO x)))
def rPt (S : GS) (dq : Nat → Nat) (p : Nat) (x : Pt) : Prop := gI S (dq 0) p = nI (pL x) ∧ gI S (dq 1) p = oI (pA x) ∧ gI S (dq 2) p = nI (pF x) ∧ gI S (dq 3) p = nI (pZ x) ∧ gI S (dq 4) p = b2i (pG x)
def Rq (r : Nat) (dq : Nat → Nat) (cap : Nat) (S : GS) (hs : Nat) (A : AS) : Prop :=
  rHd S r dq cap ∧ (gI S r 12 = nI (npA A) ∧ npA A ≤ cap ∧ 1 ≤ cap ∧ ∀ p, npA A ≤ p → p < cap → gI S (dq 4) p = 0) ∧ (∀ j, j < 2 → rLst S r j (rwA A j)) ∧ (∀ j, j < 2 → rMap S r j (rwA A (2 + j))) ∧ (∀ s, s < 12 → rSl S r s (slA A s)) ∧ (∀ p, p < npA A → rPt S dq p (ptA A p)) ∧ ((∀ a, hs ≤ a → gT S a = 0) ∧ r + 31 ≤ hs)
/-- S' is S below hs but for the numbers at W -/
def rFr (hs : Nat) (W : Nat → Nat → Prop) (S S' : GS) : Prop := ∀ a, a < hs → gT S' a = gT S a ∧ gZ S' a = gZ S a ∧ (∀ k, gR S' a k = gR S a k) ∧ ∀ k, ¬ W a k → gI S' a k = gI S a k
theorem rFr.rf {hs : Nat} {W : Nat → Nat → Prop} {S : GS} : rFr hs W S S := fun _ _ => ⟨rfl, rfl, fun _ => rfl, fun _ _ => rfl⟩
theorem rFr.tr {hs hs2 : Nat} {W : Nat → Nat → Prop} {S S' S'' : GS} (h : rFr hs W S S') (g : rFr hs2 W S' S'') (hl : hs ≤ hs2) : rFr hs W S S'' := fun a ha => by
  obtain ⟨h1, h2, h3, h4⟩ := h a ha
  obtain ⟨g1, g2, g3, g4⟩ := g a (by omega)
  exact ⟨g1.trans h1, g2.trans h2, fun k => (g3 k).trans (h3 k), fun k q => (g4 k q).trans (h4 k q)⟩
theorem rFr.mono {hs : Nat} {W V : Nat → Nat → Prop} {S S' : GS} (h : rFr hs W S S') (hv : ∀ a k, W a k → V a k) : rFr hs V S S' := fun a ha => by
  obtain ⟨h1, h2, h3, h4⟩ := h a ha
  exact ⟨h1, h2, h3, fun k q => h4 k (fun z => q (hv a k z))⟩
theorem rFr.one {hs a k : Nat} {W : Nat → Nat → Prop} {S : GS} {v : Int32} (hw : W a k) : rFr hs W S (gsI S a k v) := fun b _ => ⟨rfl, rfl, fun _ => rfl, fun j q => by
  rw [gI_gsI, if_neg (fun z => q (by rw [z.1, z.2]; exact hw))]⟩
theorem rFr.new {hs t z : Nat} {W : Nat → Nat → Prop} {S : GS} {a : Nat} (ha : hs ≤ a) : rFr hs W S (gnw S a t z) := fun b hb => by
  have e : ¬ b = a := by omega
  exact ⟨by rw [gT_gnw, if_neg e], by rw [gZ_gnw, if_neg e], fun k => by rw [gR_gnw, if_neg e], fun k _ => by rw [gI_gnw, if_neg e]⟩
/-- what only helps: thrown, newSize, newKeys, newMarks -/
def wSc (r : Nat) (a k : Nat) : Prop := (a = r ∧ (k = 19 ∨ k = 22)) ∨ a = r + 29 ∨ a = r + 30
section RRel
variable {S S' : GS} {r cap hs hs' : Nat} {dq : Nat → Nat} {A : AS} {W : Nat → Nat → Prop}
theorem rHd.dlt (h : rHd S r dq cap) (ht : ∀ a, hs ≤ a → gT S a = 0) {i : Nat} (hi : i < 5) : dq i < hs := by
  obtain ⟨-, -, -, -, h5, -⟩ := h
  obtain ⟨-, h2, -⟩ := h5 i hi
  rcases Nat.lt_or_ge (dq i) hs with q | q
  · exact q
  · rw [ht _ q] at h2
    by_cases e : i = 4
    · rw [if_pos e] at h2; cases h2
    · rw [if_neg e] at h2; cases h2
theorem rHd.fr (h : rHd S r dq cap) (f : rFr hs W S S') (ht : ∀ a, hs ≤ a → gT S a = 0) (hr : r + 31 ≤ hs) : rHd S' r dq cap := by
  have hd := fun i hi => rHd.dlt (i := i) h ht hi
  obtain ⟨h1, h2, h3, h4, h5, h6, h7⟩ := h
  refine ⟨(f r (by omega)).1.trans h1, fun q hq => ?_, fun q hq => ?_, fun o ho => ?_, fun i hi => ?_, h6, h7⟩
  · rw [(f r (by omega)).2.2.1]; exact h2 q hq
  · have : ∀ q ∈ rTb, q.1 ≤ 30 := by decide
    have := this q hq
    rw [(f (r + q.1) (by omega)).1, (f (r + q.1) (by omega)).2.1]; exact h3 q hq
  · have : ∀ o ∈ rOu, o ≤ 30 := by decide
    have := this o ho
    obtain ⟨f1, f2, f3, -⟩ := f (r + o) (by omega)
    rw [f1, f2]
    obtain ⟨g1, g2, g3⟩ := h4 o ho
    exact ⟨g1, g2, fun j hj => by rw [f3]; exact g3 j hj⟩
  · obtain ⟨f1, f2, f3, -⟩ := f (dq i) (hd i hi)
    obtain ⟨g1, g2, g3, g4⟩ := h5 i hi
    rw [(f r (by omega)).2.2.1, f1, f2]
    exact ⟨g1, g2, g3, g4⟩
theorem rLst.fr {j : Nat} {L : List Tr} (h : rLst S r j L) (f : rFr hs W S S') (hr : r + 31 ≤ hs) (hj : j < 2) (hw : ∀ k, ¬ W (r + (2 + j)) k ∧ ¬ W (r + (5 + j)) k) (hw2 : ¬ W (r + 7) j) : rLst S' r j L := by
  refine ⟨((f _ (by omega)).2.2.2 _ hw2).trans h.1, fun i hi => ?_⟩
  rw [(f _ (show r + (2 + j) < hs by omega)).2.2.2 _ (hw i).1, (f _ (show r + (5 + j) < hs by omega)).2.2.2 _ (hw i).2]
  exact h.2 i hi
theorem rMap.fr {j : Nat} {L : List Tr} (h : rMap S r j L) (f : rFr hs W S S') (hr : r + 31 ≤ hs) (hj : j < 2) (hw : ∀ k, ¬ W (r + (9 + j)) k ∧ ¬ W (r + (12 + j)) k ∧ ¬ W (r + (15 + j)) k) (hw2 : ¬ W (r + 17) j) : rMap S' r j L := by
  refine ⟨((f _ (by omega)).2.2.2 _ hw2).trans h.1, fun i hi => ?_⟩
  rw [(f _ (show r + (9 + j) < hs by omega)).2.2.2 _ (hw i).1, (f _ (show r + (12 + j) < hs by omega)).2.2.2 _ (hw i).2.1, (f _ (show r + (15 + j) < hs by omega)).2.2.2 _ (hw i).2.2]
  exact h.2 i hi
theorem rSl.fr {s : Nat} {x : Sl} (h : rSl S r s x) (f : rFr hs W S S') (hr : r + 31 ≤ hs) (hw : ∀ o, 23 ≤ o → o ≤ 28 → ¬ W (r + o) s) : rSl S' r s x := by
  have e : ∀ o, 23 ≤ o → o ≤ 28 → gI S' (r + o) s = gI S (r + o) s := fun o h1 h2 => (f _ (by omega)).2.2.2 _ (hw o h1 h2)
  unfold rSl
  rw [e 23 (by omega) (by omega), e 24 (by omega) (by omega), e 25 (by omega) (by omega), e 26 (by omega) (by omega), e 27 (by omega) (by omega), e 28 (by omega) (by omega)]
  exact h
theorem rPt.fr {p : Nat} {x : Pt} (h : rPt S dq p x) (f : rFr hs W S S') (hd : ∀ i, i < 5 → dq i < hs) (hw : ∀ i, i < 5 → ¬ W (dq i) p) : rPt S' dq p x := by
  have e : ∀ i, i < 5 → gI S' (dq i) p = gI S (dq i) p := fun i h1 => (f _ (hd i h1)).2.2.2 _ (hw i h1)
  unfold rPt
  rw [e 0 (by omega), e 1 (by omega), e 2 (by omega), e 3 (by omega), e 4 (by omega)]
  exact h
theorem Rq.dlt (h : Rq r dq cap S hs A) {i : Nat} (hi : i < 5) : dq i < hs := h.1.dlt h.2.2.2.2.2.2.1 hi
theorem Rq.dne (h : Rq r dq cap S hs A) {i : Nat} (hi : i < 5) : dq i ≠ r ∧ (r + 18 ≤ dq i ∧ dq i ≤ r + 22 ∨ r + 30 < dq i) := by
  obtain ⟨g1, g2, g3, g4⟩ := h.1.2.2.2.2.1 i hi
  exact ⟨by omega, g4⟩
/-- what helps may change; cells may come -/
theorem Rq.sc (h : Rq r dq cap S hs A) (f : rFr hs (wSc r) S S') (hl : hs ≤ hs') (ht : ∀ a, hs' ≤ a → gT S' a = 0) : Rq r dq cap S' hs' A := by
  have hdlt := fun i hi => Rq.dlt (i := i) h hi
  have hdne := fun i hi => Rq.dne (i := i) h hi
  obtain ⟨h1, ⟨h2, h21, h22⟩, h3, h4, h5, h6, h7, h8⟩ := h
  refine ⟨h1.fr f h7 h8, ⟨((f r (by omega)).2.2.2 12 (by unfold wSc; omega)).trans h2, h21, h22.1, fun p w1 w2 => by
      obtain ⟨q1, q2⟩ := hdne 4 (by omega)
      rw [(f _ (hdlt 4 (by omega))).2.2.2 p (by unfold wSc; omega)]
      exact h22.2 p w1 w2⟩, fun j hj => (h3 j hj).fr f h8 hj (fun k => by unfold wSc; omega) (by unfold wSc; omega),
    fun j hj => (h4 j hj).fr f h8 hj (fun k => by unfold wSc; omega) (by unfold wSc; omega), fun s hs => (h5 s hs).fr f h8 (fun o h1 h2 => by unfold wSc; omega), fun p hp => (h6 p hp).fr f hdlt (fun i hi => by
      obtain ⟨q1, q2⟩ := hdne i hi
      unfold wSc; omega), ht, by omega⟩
theorem Rq.sc1 (h : Rq r dq cap S hs A) (f : rFr hs (wSc r) S S') (hT : ∀ a, gT S' a = gT S a) : Rq r dq cap S' hs A := h.sc f (Nat.le_refl _) (fun a ha => by rw [hT]; exact h.2.2.2.2.2.2.1 a ha)
theorem Rq.thr (h : Rq r dq cap S hs A) (v : Int32) : Rq r dq cap (gsI S r 19 v) hs A := h.sc1 (rFr.one (Or.inl ⟨rfl, Or.inl rfl⟩)) (fun _ => rfl)
theorem Rq.nsz (h : Rq r dq cap S hs A) (v : Int32) : Rq r dq cap (gsI S r 22 v) hs A := h.sc1 (rFr.one (Or.inl ⟨rfl, Or.inr rfl⟩)) (fun _ => rfl)
/-- the words of the reference on its cells -/
theorem rHd.fs (h : rHd S r dq cap) : gT S r = 6 ∧ gtk S (some r) 6 = some r ∧ (∀ k, gfI S (some r) 6 k = some (gI S r k)) ∧ (∀ k v, gsfI S (some r) 6 k v = some (gsI S r k v)) ∧
    gfR S (some r) 6 0 = some (some (r + 1)) ∧ gfR S (some r) 6 1 = some (some (r + 4)) ∧ gfR S (some r) 6 2 = some (some (r + 7)) ∧ gfR S (some r) 6 3 = some (some (r + 8)) ∧ gfR S (some r) 6 4 = some (some (r + 11)) ∧ gfR S (some r) 6 5 = some (some (r + 14)) ∧ gfR S (some r) 6 6 = some (some (r + 17)) ∧
    gfR S (some r) 6 7 = some (some (dq 0)) ∧ gfR S (some r) 6 8 = some (some (dq 1)) ∧ gfR S (some r) 6 9 = some (some (dq 2)) ∧ gfR S (some r) 6 10 = some (some (dq 3)) ∧ gfR S (some r) 6 11 = some (some (dq 4)) ∧
    gfR S (some r) 6 13 = some (some (r + 23)) ∧ gfR S (some r) 6 14 = some (some (r + 24)) ∧ gfR S (some r) 6 15 = some (some (r + 25)) ∧ gfR S (some r) 6 16 = some (some (r + 26)) ∧ gfR S (some r) 6 17 = some (some (r + 27)) ∧ gfR S (some r) 6 18 = some (some (r + 28)) ∧ gfR S (some r) 6 20 = some (some (r + 29)) ∧ gfR S (some r) 6 21 = some (some (r + 30)) := by
  refine ⟨h.1, gtk_at h.1, fun k => h.fi, fun k v => gsfI_at h.1, ?_⟩
  refine ⟨h.fl (by decide), h.fl (by decide), h.fl (by decide), h.fl (by decide), h.fl (by decide), h.fl (by decide), h.fl (by decide), h.dy (i := 0) (by omega), h.dy (i := 1) (by omega), h.dy (i := 2) (by omega), h.dy (i := 3) (by omega), h.dy (i := 4) (by omega), h.fl (by decide), h.fl (by decide), h.fl (by decide), h.fl (by decide), h.fl (by decide), h.fl (by decide), h.fl (by decide), h.fl (by decide)⟩
/-- reads of rows -/
theorem rHd.rs (h : rHd S r dq cap) : (∀ i, i < 12 → gaI S (some (r + 23)) 13 (nI i) = some (gI S (r + 23) i)) ∧ (∀ i, i < 12 → gaI S (some (r + 24)) 11 (nI i) = some (gI S (r + 24) i)) ∧ (∀ i, i < 12 → gaI S (some (r + 25)) 11 (nI i) = some (gI S (r + 25) i)) ∧ (∀ i, i < 12 → gaI S (some (r + 26)) 11 (nI i) = some (gI S (r + 26) i)) ∧
    (∀ i, i < 12 → gaI S (some (r + 27)) 11 (nI i) = some (gI S (r + 27) i)) ∧ (∀ i, i < 12 → gaI S (some (r + 28)) 12 (nI i) = some (gI S (r + 28) i)) ∧ (∀ i, i < 2 → gaI S (some (r + 7)) 11 (nI i) = some (gI S (r + 7) i)) ∧ (∀ i, i < 2 → gaI S (some (r + 17)) 11 (nI i) = some (gI S (r + 17) i)) ∧
    (∀ i, i < 72 → gaI S (some (r + 29)) 11 (nI i) = some (gI S (r + 29) i)) ∧ (∀ i, i < 72 → gaI S (some (r + 30)) 11 (nI i) = some (gI S (r + 30) i)) ∧
    (∀ i, i < cap → gaI S (some (dq 0)) 11 (nI i) = some (gI S (dq 0) i)) ∧ (∀ i, i < cap → gaI S (some (dq 1)) 11 (nI i) = some (gI S (dq 1) i)) ∧ (∀ i, i < cap → gaI S (some (dq 2)) 11 (nI i) = some (gI S (dq 2) i)) ∧ (∀ i, i < cap → gaI S (some (dq 3)) 11 (nI i) = some (gI S (dq 3) i)) ∧ (∀ i, i < cap → gaI S (some (dq 4)) 12 (nI i) = some (gI S (dq 4) i)) := by
  refine ⟨fun i hi => h.rd (by decide) hi, fun i hi => h.rd (by decide) hi, fun i hi => h.rd (by decide) hi, fun i hi => h.rd (by decide) hi, fun i hi => h.rd (by decide) hi, fun i hi => h.rd (by decide) hi, fun i hi => h.rd (by decide) hi, fun i hi => h.rd (by decide) hi, fun i hi => h.rd (by decide) hi, fun i hi => h.rd (by decide) hi, fun i hi => h.rdD (by omega) hi, fun i hi => h.rdD (by omega) hi, fun i hi => h.rdD (by omega) hi, fun i hi => h.rdD (by omega) hi, fun i hi => h.rdG hi⟩
/-- the rows of the lists and maps -/
theorem rHd.ro (h : rHd S r dq cap) : (∀ j, j < 2 → gaR S (some (r + 1)) 15 (nI j) = some (some (r + (2 + j)))) ∧ (∀ j, j < 2 → gaR S (some (r + 4)) 15 (nI j) = some (some (r + (5 + j)))) ∧ (∀ j, j < 2 → gaR S (some (r + 8)) 15 (nI j) = some (some (r + (9 + j)))) ∧ (∀ j, j < 2 → gaR S (some (r + 11)) 15 (nI j) = some (some (r + (12 + j)))) ∧ (∀ j, j < 2 → gaR S (some (r + 14)) 15 (nI j) = some (some (r + (15 + j)))) :=
  ⟨fun j hj => h.ou (o := 1) (by decide) hj, fun j hj => h.ou (o := 4) (by decide) hj, fun j hj => h.ou (o := 8) (by decide) hj, fun j hj => h.ou (o := 11) (by decide) hj, fun j hj => h.ou (o := 14) (by decide) hj⟩
theorem j2 {P : Nat → Prop} {j : Nat} (hj : j < 2) (h0 : P 0) (h1 : P 1) : P j := by
  have : j = 0 ∨ j = 1 := by omega
  rcases this with rfl | rfl
  · exact h0
  · exact h1
theorem rHd.rb (h : rHd S r dq cap) : (∀ j i, j < 2 → i < 24 → gaI S (some (r + (2 + j))) 11 (nI i) = some (gI S (r + (2 + j)) i)) ∧ (∀ j i, j < 2 → i < 24 → gaI S (some (r + (5 + j))) 11 (nI i) = some (gI S (r + (5 + j)) i)) ∧ (∀ j i, j < 2 → i < 24 → gaI S (some (r + (9 + j))) 11 (nI i) = some (gI S (r + (9 + j)) i)) ∧
    (∀ j i, j < 2 → i < 24 → gaI S (some (r + (12 + j))) 11 (nI i) = some (gI S (r + (12 + j)) i)) ∧ (∀ j i, j < 2 → i < 24 → gaI S (some (r + (15 + j))) 11 (nI i) = some (gI S (r + (15 + j)) i)) := by
  refine ⟨fun j i hj hi => ?_, fun j i hj hi => ?_, fun j i hj hi => ?_, fun j i hj hi => ?_, fun j i hj hi => ?_⟩
  · exact j2 (P := fun j => gaI S (some (r + (2 + j))) 11 (nI i) = some (gI S (r + (2 + j)) i)) hj (h.rd (o := 2) (by decide) hi) (h.rd (o := 3) (by decide) hi)
  · exact j2 (P := fun j => gaI S (some (r + (5 + j))) 11 (nI i) = some (gI S (r + (5 + j)) i)) hj (h.rd (o := 5) (by decide) hi) (h.rd (o := 6) (by decide) hi)
  · exact j2 (P := fun j => gaI S (some (r + (9 + j))) 11 (nI i) = some (gI S (r + (9 + j)) i)) hj (h.rd (o := 9) (by decide) hi) (h.rd (o := 10) (by decide) hi)
  · exact j2 (P := fun j => gaI S (some (r + (12 + j))) 11 (nI i) = some (gI S (r + (12 + j)) i)) hj (h.rd (o := 12) (by decide) hi) (h.rd (o := 13) (by decide) hi)
  · exact j2 (P := fun j => gaI S (some (r + (15 + j))) 11 (nI i) = some (gI S (r + (15 + j)) i)) hj (h.rd (o := 15) (by decide) hi) (h.rd (o := 16) (by decide) hi)
/-- writes -/
theorem rHd.ws (h : rHd S r dq cap) : (∀ i v, i < 12 → gsaI S (some (r + 23)) 13 (nI i) v = some (gsI S (r + 23) i v)) ∧ (∀ i v, i < 12 → gsaI S (some (r + 24)) 11 (nI i) v = some (gsI S (r + 24) i v)) ∧ (∀ i v, i < 12 → gsaI S (some (r + 25)) 11 (nI i) v = some (gsI S (r + 25) i v)) ∧ (∀ i v, i < 12 → gsaI S (some (r + 26)) 11 (nI i) v = some (gsI S (r + 26) i v)) ∧
    (∀ i v, i < 12 → gsaI S (some (r + 27)) 11 (nI i) v = some (gsI S (r + 27) i v)) ∧ (∀ i v, i < 12 → gsaI S (some (r + 28)) 12 (nI i) v = some (gsI S (r + 28) i v)) ∧ (∀ i v, i < 2 → gsaI S (some (r + 7)) 11 (nI i) v = some (gsI S (r + 7) i v)) ∧ (∀ i v, i < 2 → gsaI S (some (r + 17)) 11 (nI i) v = some (gsI S (r + 17) i v)) ∧
    (∀ i v, i < 72 → gsaI S (some (r + 29)) 11 (nI i) v = some (gsI S (r + 29) i v)) ∧ (∀ i v, i < 72 → gsaI S (some (r + 30)) 11 (nI i) v = some (gsI S (r + 30) i v)) ∧
    (∀ i v, i < cap → gsaI S (some (dq 0)) 11 (nI i) v = some (gsI S (dq 0) i v)) ∧ (∀ i v, i < cap → gsaI S (some (dq 1)) 11 (nI i) v = some (gsI S (dq 1) i v)) ∧ (∀ i v, i < cap → gsaI S (some (dq 2)) 11 (nI i) v = some (gsI S (dq 2) i v)) ∧ (∀ i v, i < cap → gsaI S (some (dq 3)) 11 (nI i) v = some (gsI S (dq 3) i v)) ∧ (∀ i v, i < cap → gsaI S (some (dq 4)) 12 (nI i) v = some (gsI S (dq 4) i v)) := by
  refine ⟨fun i v hi => h.wr (by decide) hi, fun i v hi => h.wr (by decide) hi, fun i v hi => h.wr (by decide) hi, fun i v hi => h.wr (by decide) hi, fun i v hi => h.wr (by decide) hi, fun i v hi => h.wr (by decide) hi, fun i v hi => h.wr (by decide) hi, fun i v hi => h.wr (by decide) hi, fun i v hi => h.wr (by decide) hi, fun i v hi => h.wr (by decide) hi, fun i v hi => h.wrD (by omega) hi, fun i v hi => h.wrD (by omega) hi, fun i v hi => h.wrD (by omega) hi, fun i v hi => h.wrD (by omega) hi, fun i v hi => h.wrG hi⟩
theorem rHd.wb (h : rHd S r dq cap) : (∀ j i v, j < 2 → i < 24 → gsaI S (some (r + (2 + j))) 11 (nI i) v = some (gsI S (r + (2 + j)) i v)) ∧ (∀ j i v, j < 2 → i < 24 → gsaI S (some (r + (5 + j))) 11 (nI i) v = some (gsI S (r + (5 + j)) i v)) ∧ (∀ j i v, j < 2 → i < 24 → gsaI S (some (r + (9 + j))) 11 (nI i) v = some (gsI S (r + (9 + j)) i v)) ∧
    (∀ j i v, j < 2 → i < 24 → gsaI S (some (r + (12 + j))) 11 (nI i) v = some (gsI S (r + (12 + j)) i v)) ∧ (∀ j i v, j < 2 → i < 24 → gsaI S (some (r + (15 + j))) 11 (nI i) v = some (gsI S (r + (15 + j)) i v)) := by
  refine ⟨fun j i v hj hi => ?_, fun j i v hj hi => ?_, fun j i v hj hi => ?_, fun j i v hj hi => ?_, fun j i v hj hi => ?_⟩
  · exact j2 (P := fun j => gsaI S (some (r + (2 + j))) 11 (nI i) v = some (gsI S (r + (2 + j)) i v)) hj (h.wr (o := 2) (by decide) hi) (h.wr (o := 3) (by decide) hi)
  · exact j2 (P := fun j => gsaI S (some (r + (5 + j))) 11 (nI i) v = some (gsI S (r + (5 + j)) i v)) hj (h.wr (o := 5) (by decide) hi) (h.wr (o := 6) (by decide) hi)
  · exact j2 (P := fun j => gsaI S (some (r + (9 + j))) 11 (nI i) v = some (gsI S (r + (9 + j)) i v)) hj (h.wr (o := 9) (by decide) hi) (h.wr (o := 10) (by decide) hi)
  · exact j2 (P := fun j => gsaI S (some (r + (12 + j))) 11 (nI i) v = some (gsI S (r + (12 + j)) i v)) hj (h.wr (o := 12) (by decide) hi) (h.wr (o := 13) (by decide) hi)
  · exact j2 (P := fun j => gsaI S (some (r + (15 + j))) 11 (nI i) v = some (gsI S (r + (15 + j)) i v)) hj (h.wr (o := 15) (by decide) hi) (h.wr (o := 16) (by decide) hi)
theorem rHd.gs (h : rHd S r dq cap) (a k : Nat) (v : Int32) : rHd (gsI S a k v) r dq cap := h
/-! its small questions -/
theorem r_in (S : GS) (x lo hi : Int32) : f_X5_in S x lo hi = some (b2i (decide (lo.toInt ≤ x.toInt ∧ x.toInt ≤ hi.toInt))) := by
  unfold f_X5_in
  simp only [Int32.lt_iff_toInt_lt]
  by_cases a : x.toInt < lo.toInt
  · rw [if_pos a, decide_eq_false (by omega)]; rfl
  · rw [if_neg a]
    by_cases b : hi.toInt < x.toInt
    · rw [if_pos b, decide_eq_false (by omega)]; rfl
    · rw [if_neg b, decide_eq_true (by omega)]; rfl
theorem r_isSlot (S : GS) (x : Int32) : f_X5_isSlot S x = some (b2i (sIx x).isSome) := by
  unfold f_X5_isSlot
  rw [r_in]
  have e1 : (0 : Int32).toInt = 0 := by decide
  have e2 : (11 : Int32).toInt = 11 := by decide
  have e3 : (12 : Int32).toInt = 12 := by decide
  have : decide ((0 : Int32).toInt ≤ x.toInt ∧ x.toInt ≤ (11 : Int32).toInt) = (sIx x).isSome := by
    unfold sIx
    simp only [Int32.lt_iff_toInt_lt, e1, e2, e3]
    by_cases a : x.toInt < 0
    · rw [if_pos a, decide_eq_false (by omega)]; rfl
    · rw [if_neg a]
      by_cases b : x.toInt < 12
      · rw [if_pos b, decide_eq_true (by omega)]; rfl
      · rw [if_neg b, decide_eq_false (by omega)]; rfl
  simp only [this, Option.bind_some, b2i_n, gck_t]
theorem r_isPane (S : GS) (x : Int32) : f_X5_isPane S x = some (b2i (pnS x).isSome) := by
  unfold f_X5_isPane
  rw [r_in]
  have e1 : (0 : Int32).toInt = 0 := by decide
  have e2 : (11 : Int32).toInt = 11 := by decide
  have e4 : (4 : Int32).toInt = 4 := by decide
  have : decide ((4 : Int32).toInt ≤ x.toInt ∧ x.toInt ≤ (11 : Int32).toInt) = (pnS x).isSome := by
    rw [e2, e4]
    rcases c_needPane2 S x with ⟨p1, -⟩ | ⟨s, h1, h2, rfl, p1, -⟩
    · rw [p1]
      refine decide_eq_false fun hx => ?_
      obtain ⟨n, hn, rfl⟩ := nI_of (x := x) (by rw [Int32.lt_iff_toInt_lt, e1]; omega)
      rw [nI_toInt hn] at hx
      have : sIx (nI n) = some n := by
        rcases sIx_c (nI n) with ⟨-, q | ⟨-, q⟩⟩ | ⟨s, q1, q2, q3⟩
        · exact absurd q (nI_pos hn)
        · exact absurd (by rw [n_12]; exact nI_lt (by omega) (by omega)) q
        · rw [nI_eq hn (by omega)] at q2; rw [q3, q2]
      unfold pnS at p1
      rw [this] at p1
      simp only at p1
      split at p1
      · omega
      · cases p1
    · rw [p1, nI_toInt (by omega)]
      exact decide_eq_true (by omega)
  simp only [this, Option.bind_some, b2i_n, gck_t]
theorem r_isThing (S : GS) (x y : Int32) : f_X5_isThing S x y = some (b2i (thOk x y)) := by
  unfold f_X5_isThing thOk
  simp only [r_in, Option.bind_some, b2i_0]
  have e1 : (-999 : Int32).toInt = -999 := by decide
  have e2 : (999 : Int32).toInt = 999 := by decide
  have e3 : (0 : Int32).toInt = 0 := by decide
  have e4 : (99 : Int32).toInt = 99 := by decide
  rw [e1, e2, e3, e4]
  by_cases a : -999 ≤ x.toInt ∧ x.toInt ≤ 999
  · rw [decide_eq_true a]
    by_cases b : 0 ≤ y.toInt ∧ y.toInt ≤ 99
    · rw [decide_eq_true b, decide_eq_true (by omega)]; rfl
    · rw [decide_eq_false b, decide_eq_false (by omega)]; rfl
  · rw [decide_eq_false a, decide_eq_false (show ¬ (-999 ≤ x.toInt ∧ x.toInt ≤ 999 ∧ 0 ≤ y.toInt ∧ y.toInt ≤ 99) by omega)]; rfl
/-- the number of the first that holds -/
def fcd (x1 x2 x3 x4 x5 : Int32) : Int32 := if x1 = 0 then (if x2 = 0 then (if x3 = 0 then (if x4 = 0 then (if x5 = 0 then 0 else 5) else 4) else 3) else 2) else 1
theorem r_fails (h : gT S r = 6) (x1 x2 x3 x4 x5 : Int32) : f_X5_fails S r x1 x2 x3 x4 x5 = some (if fcd x1 x2 x3 x4 x5 = 0 then 0 else 1, gsI S r 19 (fcd x1 x2 x3 x4 x5)) := by
  have key : ∀ c : Int32, (c = 0 ∨ c = 1 ∨ c = 2 ∨ c = 3 ∨ c = 4 ∨ c = 5) → f_X5_fails_b44 S r (some r) c = some (if c = 0 then 0 else 1, gsI S r 19 c) := by
    intro c hc
    unfold f_X5_fails_b44
    have e9 : gI (gsI S r 19 c) r 19 = c := by rw [gI_gsI, if_pos ⟨rfl, rfl⟩]
    rw [gsfI_at h, Option.bind_some, gfI_at (S := gsI S r 19 c) h, Option.bind_some, e9]
    rcases hc with rfl | rfl | rfl | rfl | rfl | rfl <;> rfl
  unfold f_X5_fails fcd
  by_cases a1 : x1 = 0
  · rw [if_pos a1, if_pos a1]
    by_cases a2 : x2 = 0
    · rw [if_pos a2, if_pos a2]
      by_cases a3 : x3 = 0
      · rw [if_pos a3, if_pos a3]
        by_cases a4 : x4 = 0
        · rw [if_pos a4, if_pos a4]
          by_cases a5 : x5 = 0
          · rw [if_pos a5, if_pos a5]; exact key 0 (by simp)
          · rw [if_neg a5, if_neg a5]; exact key 5 (by simp)
        · rw [if_neg a4, if_neg a4]; exact key 4 (by simp)
      · rw [if_neg a3, if_neg a3]; exact key 3 (by simp)
    · rw [if_neg a2, if_neg a2]; exact key 2 (by simp)
  · rw [if_neg a1, if_neg a1]; exact key 1 (by simp)
theorem r_isOf_no (h : rHd S r dq cap) {x : Int32} {t : Nat} (hx : sIx x = none) : f_X5_isOf S r x t = some 0 := by
  unfold f_X5_isOf
  rw [r_isSlot, hx]
  rfl
theorem r_isOf (h : rHd S r dq cap) {s t : Nat} (hs : s < 12) (ht : t < 8) : f_X5_isOf S r (nI s) t = some (b2i (decide (gI S (r + 23) s ∈ gBy.getD t []))) := by
  have hx : sIx (nI s) = some s := by
    rcases sIx_c (nI s) with ⟨-, q | ⟨-, q⟩⟩ | ⟨u, q1, q2, q3⟩
    · exact absurd q (nI_pos (by omega))
    · exact absurd (by rw [n_12]; exact nI_lt (by omega) (by omega)) q
    · rw [nI_eq (by omega) (by omega)] at q2; rw [q3, q2]
  obtain ⟨v, e1, e2⟩ := f_indexOf (S := S) (k := t) (c := gI S (r + 23) s) ht
  have e3 : decide (t < 8) = true := decide_eq_true ht
  have e0 : (b2i (some s).isSome = 0) = False := by
    show (b2i true = 0) = False
    decide
  unfold f_X5_isOf
  rw [r_isSlot, hx]
  simp only [Option.bind_some, e0, if_false, h.fs, h.rs.1 s hs, e3, gck_t, e1]
  by_cases q : v < 0
  · rw [if_pos q, decide_eq_false (e2.mp q)]; rfl
  · rw [if_neg q, decide_eq_true (Classical.byContradiction fun z => q (e2.mpr z))]; rfl
end RRel
