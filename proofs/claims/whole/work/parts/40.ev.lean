/-! WHAT THE PRINTED FUNCTIONS ANSWER. Their words, evaluated -/
abbrev Tr : Type := Int32 × Int32 × Int32
abbrev tz : Tr := (0, 0, 0)
theorem gck_t {α : Type} {k : Option α} : gck true k = k := rfl
theorem gfI_at {S : GS} {a t k : Nat} (h : gT S a = t) : gfI S (some a) t k = some (gI S a k) := by simp [gfI, h]
theorem gfR_at {S : GS} {a t k : Nat} (h : gT S a = t) : gfR S (some a) t k = some (gR S a k) := by simp [gfR, h]
theorem gsfI_at {S : GS} {a t k : Nat} {v : Int32} (h : gT S a = t) : gsfI S (some a) t k v = some (gsI S a k v) := by simp [gsfI, h]
theorem gsfR_at {S : GS} {a t k : Nat} {v : Option Nat} (h : gT S a = t) : gsfR S (some a) t k v = some (gsR S a k v) := by simp [gsfR, h]
theorem gtk_at {S : GS} {a t : Nat} (h : gT S a = t) : gtk S (some a) t = some a := by simp [gtk, h]
theorem gal_at {S : GS} {a t : Nat} (h : gT S a = t) : gal S (some a) t = some (nI (gZ S a)) := by simp [gal, h, nI]
theorem gaI_at {S : GS} {a t i n : Nat} (h : gT S a = t) (hz : gZ S a = n) (hn : n < 2 ^ 31) (hi : i < n) : gaI S (some a) t (nI i) = some (gI S a i) := by
  have h1 : (nI i).toInt = (i : Int) := nI_toInt (by omega)
  have h2 : (nI i).toNatClampNeg = i := nI_clamp (by omega)
  simp [gaI, h, hz, h1, h2, hi]
theorem gaR_at {S : GS} {a t i n : Nat} (h : gT S a = t) (hz : gZ S a = n) (hn : n < 2 ^ 31) (hi : i < n) : gaR S (some a) t (nI i) = some (gR S a i) := by
  have h1 : (nI i).toInt = (i : Int) := nI_toInt (by omega)
  have h2 : (nI i).toNatClampNeg = i := nI_clamp (by omega)
  simp [gaR, h, hz, h1, h2, hi]
theorem gsaI_at {S : GS} {a t i n : Nat} {v : Int32} (h : gT S a = t) (hz : gZ S a = n) (hn : n < 2 ^ 31) (hi : i < n) : gsaI S (some a) t (nI i) v = some (gsI S a i v) := by
  have h1 : (nI i).toInt = (i : Int) := nI_toInt (by omega)
  have h2 : (nI i).toNatClampNeg = i := nI_clamp (by omega)
  simp [gsaI, h, hz, h1, h2, hi]
theorem gsaR_at {S : GS} {a t i n : Nat} {v : Option Nat} (h : gT S a = t) (hz : gZ S a = n) (hn : n < 2 ^ 31) (hi : i < n) : gsaR S (some a) t (nI i) v = some (gsR S a i v) := by
  have h1 : (nI i).toInt = (i : Int) := nI_toInt (by omega)
  have h2 : (nI i).toNatClampNeg = i := nI_clamp (by omega)
  simp [gsaR, h, hz, h1, h2, hi]
theorem gI_gsI (S : GS) (a k b j : Nat) (v : Int32) : gI (gsI S a k v) b j = if b = a ∧ j = k then v else gI S b j := by
  by_cases h : b = a
  · by_cases h2 : j = k <;> simp [gI, gsI, gu2, h, h2]
  · simp [gI, gsI, gu2, h]
theorem gR_gsI (S : GS) (a k b j : Nat) (v : Int32) : gR (gsI S a k v) b j = gR S b j := rfl
theorem gT_gsI (S : GS) (a k b : Nat) (v : Int32) : gT (gsI S a k v) b = gT S b := rfl
theorem gZ_gsI (S : GS) (a k b : Nat) (v : Int32) : gZ (gsI S a k v) b = gZ S b := rfl
theorem gR_gsR (S : GS) (a k b j : Nat) (v : Option Nat) : gR (gsR S a k v) b j = if b = a ∧ j = k then v else gR S b j := by
  by_cases h : b = a
  · by_cases h2 : j = k <;> simp [gR, gsR, gu2, h, h2]
  · simp [gR, gsR, gu2, h]
theorem gI_gsR (S : GS) (a k b j : Nat) (v : Option Nat) : gI (gsR S a k v) b j = gI S b j := rfl
theorem gT_gsR (S : GS) (a k b : Nat) (v : Option Nat) : gT (gsR S a k v) b = gT S b := rfl
theorem gZ_gsR (S : GS) (a k b : Nat) (v : Option Nat) : gZ (gsR S a k v) b = gZ S b := rfl
theorem gI_gnw (S : GS) (a t z b j : Nat) : gI (gnw S a t z) b j = if b = a then 0 else gI S b j := rfl
theorem gR_gnw (S : GS) (a t z b j : Nat) : gR (gnw S a t z) b j = if b = a then none else gR S b j := rfl
theorem gT_gnw (S : GS) (a t z b : Nat) : gT (gnw S a t z) b = if b = a then t else gT S b := rfl
theorem gZ_gnw (S : GS) (a t z b : Nat) : gZ (gnw S a t z) b = if b = a then z else gZ S b := rfl
theorem n_lt0 {n : Nat} (h : n < 2 ^ 31) : (nI n < 0) = False := eq_false (nI_pos h)
theorem n_le {a b : Nat} (ha : a < 2 ^ 31) (hb : b < 2 ^ 31) : (nI a ≤ nI b) = (a ≤ b) := propext (nI_leI ha hb)
theorem n_lt {a b : Nat} (ha : a < 2 ^ 31) (hb : b < 2 ^ 31) : (nI a < nI b) = (a < b) := propext (nI_ltI ha hb)
theorem n_eq {a b : Nat} (ha : a < 2 ^ 31) (hb : b < 2 ^ 31) : (nI a = nI b) = (a = b) := propext (nI_eq ha hb)
theorem n_0 : (0 : Int32) = nI 0 := nI_0.symm
theorem n_1 : (1 : Int32) = nI 1 := by decide +kernel
theorem n_4 : (4 : Int32) = nI 4 := by decide +kernel
theorem n_12 : (12 : Int32) = nI 12 := by decide +kernel
theorem n_24 : (24 : Int32) = nI 24 := by decide +kernel
theorem aI {S : GS} {a t i : Nat} (h : gT S a = t) (hi : i < gZ S a) (hz : gZ S a ≤ 4096) : gaI S (some a) t (nI i) = some (gI S a i) := gaI_at h rfl (by omega) hi
theorem aR {S : GS} {a t i : Nat} (h : gT S a = t) (hi : i < gZ S a) (hz : gZ S a ≤ 4096) : gaR S (some a) t (nI i) = some (gR S a i) := gaR_at h rfl (by omega) hi
theorem saI {S : GS} {a t i : Nat} {v : Int32} (h : gT S a = t) (hi : i < gZ S a) (hz : gZ S a ≤ 4096) : gsaI S (some a) t (nI i) v = some (gsI S a i v) := gsaI_at h rfl (by omega) hi
theorem saR {S : GS} {a t i : Nat} {v : Option Nat} (h : gT S a = t) (hi : i < gZ S a) (hz : gZ S a ≤ 4096) : gsaR S (some a) t (nI i) v = some (gsR S a i v) := gsaR_at h rfl (by omega) hi
/-- the i-th things of three rows -/
def trw (S : GS) (st i : Nat) : Tr := (gI S (st + 1) i, gI S (st + 2) i, gI S (st + 3) i)
/-! a store of the class: its cell st, its arrays at the next three -/
def cSk (S : GS) (st : Nat) : Prop := gT S st = 4 ∧ gR S st 0 = some (st + 1) ∧ gR S st 1 = some (st + 2) ∧ gR S st 2 = some (st + 3) ∧ gT S (st + 1) = 11 ∧ gT S (st + 2) = 11 ∧ gT S (st + 3) = 11 ∧ gZ S (st + 1) = 24 ∧ gZ S (st + 2) = 24 ∧ gZ S (st + 3) = 24
def cSt (S : GS) (st : Nat) (L : List Tr) : Prop := cSk S st ∧ gI S st 4 = nI L.length ∧ L.length ≤ 24 ∧ ∀ i, i < L.length → trw S st i = L.getD i tz
theorem cSk.gsI {S : GS} {st a k : Nat} {v : Int32} (h : cSk S st) : cSk (gsI S a k v) st := h
/-- S' is S but for the cells st .. st + 3's numbers; of st itself only the count -/
def cFr (st : Nat) (S S' : GS) : Prop := (∀ a k, gR S' a k = gR S a k) ∧ (∀ a, gT S' a = gT S a) ∧ (∀ a, gZ S' a = gZ S a) ∧ (∀ a k, ¬ (st ≤ a ∧ a ≤ st + 3) → gI S' a k = gI S a k) ∧ ∀ k, k ≠ 4 → gI S' st k = gI S st k
theorem cFr.rf {st : Nat} {S : GS} : cFr st S S := ⟨fun _ _ => rfl, fun _ => rfl, fun _ => rfl, fun _ _ _ => rfl, fun _ _ => rfl⟩
theorem cFr.tr {st : Nat} {S S' S'' : GS} (h : cFr st S S') (g : cFr st S' S'') : cFr st S S'' := ⟨fun a k => (g.1 a k).trans (h.1 a k), fun a => (g.2.1 a).trans (h.2.1 a), fun a => (g.2.2.1 a).trans (h.2.2.1 a), fun a k q => (g.2.2.2.1 a k q).trans (h.2.2.2.1 a k q), fun k q => (g.2.2.2.2 k q).trans (h.2.2.2.2 k q)⟩
theorem cFr.row {st a k : Nat} {S : GS} {v : Int32} (h : st < a ∧ a ≤ st + 3) : cFr st S (gsI S a k v) := ⟨fun _ _ => rfl, fun _ => rfl, fun _ => rfl, fun b j q => by rw [gI_gsI, if_neg]; omega, fun j q => by rw [gI_gsI, if_neg]; omega⟩
theorem cFr.cnt {st : Nat} {S : GS} {v : Int32} : cFr st S (gsI S st 4 v) := ⟨fun _ _ => rfl, fun _ => rfl, fun _ => rfl, fun b j q => by rw [gI_gsI, if_neg]; omega, fun j q => by rw [gI_gsI, if_neg]; omega⟩
theorem cFr.sk {st u : Nat} {S S' : GS} (h : cFr u S S') (g : cSk S st) : cSk S' st := by
  obtain ⟨h1, h2, h3, -⟩ := h
  unfold cSk at g ⊢
  simp only [h1, h2, h3]
  exact g
/-- a store apart from it stays -/
theorem cFr.st {st u : Nat} {S S' : GS} {L : List Tr} (h : cFr u S S') (g : cSt S st L) (hn : st + 3 < u ∨ u + 3 < st) : cSt S' st L := by
  obtain ⟨g1, g2, g3, g4⟩ := g
  have h4 := h.2.2.2.1
  refine ⟨h.sk g1, (h4 _ _ (by omega)).trans g2, g3, fun i hi => ?_⟩
  rw [← g4 i hi]
  unfold trw
  rw [h4 _ _ (by omega), h4 _ _ (by omega), h4 _ _ (by omega)]
theorem f_hasPlace {S : GS} {st c i : Nat} (hk : cSk S st) (hc : gI S st 4 = nI c) (h24 : c ≤ 24) (hi : i < 2 ^ 31) : f_X3_hasPlace S st (nI i) = some (if i < c then 1 else 0) := by
  unfold f_X3_hasPlace
  rw [gfI_at hk.1, hc]
  simp only [n_lt0 hi, if_false, Option.bind_some, nI_leI (show c < 2 ^ 31 by omega) hi]
  by_cases h : i < c
  · rw [if_neg (by omega), if_pos h]
  · rw [if_pos (by omega), if_neg h]
def mv (S : GS) (st i j : Nat) : GS := gsI (gsI (gsI S (st + 1) j (gI S (st + 1) i)) (st + 2) j (gI S (st + 2) i)) (st + 3) j (gI S (st + 3) i)
theorem mv_fr {S : GS} {st i j : Nat} : cFr st S (mv S st i j) := ((cFr.row (by omega)).tr (cFr.row (by omega))).tr (cFr.row (by omega))
theorem mv_tr {S : GS} {st i j k : Nat} : trw (mv S st i j) st k = if k = j then trw S st i else trw S st k := by
  by_cases h : k = j <;> simp [trw, mv, gI_gsI, h]
theorem mv_cnt {S : GS} {st i j k : Nat} : gI (mv S st i j) st k = gI S st k := by simp [mv, gI_gsI]
theorem f_move {S : GS} {st c i j : Nat} (hk : cSk S st) (hc : gI S st 4 = nI c) (h24 : c ≤ 24) (hi : i < c) (hj : j < c) : f_X3_move S st (nI i) (nI j) = some (mv S st i j) := by
  obtain ⟨k1, k2, k3, k4, k5, k6, k7, k8, k9, k10⟩ := id hk
  unfold f_X3_move
  rw [f_hasPlace hk hc h24 (by omega), f_hasPlace hk hc h24 (by omega), if_pos hi, if_pos hj]
  have e1 : ((1 : Int32) = 0) = False := by decide
  simp (disch := first | assumption | omega | (simp only [gT_gsI, gZ_gsI] <;> omega)) only [k1, beq_self_eq_true, gck_t, Option.bind_some, e1, if_false, gfR_at, k2, k3, k4, gR_gsI, aI, saI]
  simp [mv, gI_gsI]
