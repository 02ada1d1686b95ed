/-! THE REFERENCE'S CHANGES: its rows of new things, a row of its own, a slot -/
def rNa (S : GS) (r : Nat) (C : List Tr) : Prop := C.length ≤ 72 ∧ ∀ i, i < C.length → gI S (r + 29) i = (C.getD i tz).2.1 ∧ gI S (r + 30) i = (C.getD i tz).2.2
def rNw (S : GS) (r : Nat) (C : List Tr) : Prop := gI S r 22 = nI C.length ∧ rNa S r C
section RPut
variable {S S' : GS} {r cap hs hs' : Nat} {dq : Nat → Nat} {A B : AS} {W : Nat → Nat → Prop}
theorem rNa.fr {C : List Tr} (h : rNa S r C) (f : rFr hs W S S') (hr : r + 31 ≤ hs) (hw : ∀ k, ¬ W (r + 29) k ∧ ¬ W (r + 30) k) : rNa S' r C := by
  refine ⟨h.1, fun i hi => ?_⟩
  rw [(f _ (show r + 29 < hs by omega)).2.2.2 _ (hw i).1, (f _ (show r + 30 < hs by omega)).2.2.2 _ (hw i).2]
  exact h.2 i hi
theorem rNw.fr {C : List Tr} (h : rNw S r C) (f : rFr hs W S S') (hr : r + 31 ≤ hs) (hw : ∀ k, ¬ W (r + 29) k ∧ ¬ W (r + 30) k) (hw2 : ¬ W r 22) : rNw S' r C := ⟨((f r (by omega)).2.2.2 _ hw2).trans h.1, h.2.fr f hr hw⟩
theorem rNw_nil (h : gI S r 22 = 0) : rNw S r [] := ⟨h.trans nI_0.symm, by simp, fun i hi => absurd hi (by simp)⟩
theorem Rq.ext (h : Rq r dq cap S hs A) (e1 : ∀ j, j < 4 → rwA B j = rwA A j) (e2 : ∀ s, s < 12 → slA B s = slA A s) (e3 : npA B = npA A) (e4 : ∀ p, p < npA A → ptA B p = ptA A p) : Rq r dq cap S hs B := by
  obtain ⟨h1, h2, h3, h4, h5, h6, h7⟩ := h
  refine ⟨h1, by rw [e3]; exact h2, fun j hj => by rw [e1 j (by omega)]; exact h3 j hj, fun j hj => by rw [e1 (2 + j) (by omega)]; exact h4 j hj, fun s hs => by rw [e2 s hs]; exact h5 s hs, fun p hp => ?_, h7⟩
  rw [e3] at hp
  rw [e4 p hp]
  exact h6 p hp
theorem r_lays {C : List Tr} (h : Rq r dq cap S hs A) (hn : rNw S r C) (hl : C.length < 72) (n k m : Int32) : ∃ S', f_X5_lays S r k m = some S' ∧ Rq r dq cap S' hs A ∧ rNw S' r (C ++ [(n, k, m)]) ∧ rFr hs (wSc r) S S' ∧ (∀ a, gT S' a = gT S a) ∧ gI S' r 19 = gI S r 19 := by
  have fr : rFr hs (wSc r) S (gsI (gsI (gsI S (r + 29) C.length k) (r + 30) C.length m) r 22 (nI (C.length + 1))) := ((rFr.one (by unfold wSc; omega)).tr (rFr.one (by unfold wSc; omega)) (Nat.le_refl _)).tr (rFr.one (by unfold wSc; omega)) (Nat.le_refl _)
  refine ⟨gsI (gsI (gsI S (r + 29) C.length k) (r + 30) C.length m) r 22 (nI (C.length + 1)), ?_, h.sc1 fr (fun _ => rfl), ⟨?_, ?_, fun i hi => ?_⟩, fr, fun _ => rfl, ?_⟩
  · have e1 : gI (gsI S (r + 29) C.length k) r 22 = nI C.length := by rw [gI_gsI, if_neg (by omega)]; exact hn.1
    have e2 : gI (gsI (gsI S (r + 29) C.length k) (r + 30) C.length m) r 22 = nI C.length := by rw [gI_gsI, if_neg (by omega)]; exact e1
    simp only [f_X5_lays, h.1.fs, (h.1.gs (r + 29) C.length k).fs, ((h.1.gs (r + 29) C.length k).gs (r + 30) C.length m).fs, Option.bind_some, hn.1, e1, e2, h.1.ws.2.2.2.2.2.2.2.2.1 _ k hl, (h.1.gs (r + 29) C.length k).ws.2.2.2.2.2.2.2.2.2.1 _ m hl, nI_1]
  · rw [gI_gsI, if_pos (by simp), List.length_append]; rfl
  · rw [List.length_append]; simp only [List.length_cons, List.length_nil]; omega
  · rw [List.length_append] at hi
    simp only [List.length_cons, List.length_nil] at hi
    rw [gd_app]
    simp only [gI_gsI]
    by_cases e : i < C.length
    · rw [if_pos e]
      obtain ⟨g1, g2⟩ := hn.2.2 i e
      rw [if_neg (by omega), if_neg (by omega), if_neg (by omega), if_neg (by omega), if_neg (by omega), if_neg (by omega)]
      exact ⟨g1, g2⟩
    · have : i = C.length := by omega
      subst this
      rw [if_neg e, Nat.sub_self, if_neg (by omega), if_neg (by omega), if_pos (by simp), if_neg (by omega), if_pos (by simp)]
      exact ⟨rfl, rfl⟩
  · rw [gI_gsI, if_neg (by omega), gI_gsI, if_neg (by omega), gI_gsI, if_neg (by omega)]
/-- a list's row, changed -/
def wLs (r j : Nat) (a k : Nat) : Prop := wSc r a k ∨ a = r + (2 + j) ∨ a = r + (5 + j) ∨ (a = r + 7 ∧ k = j)
theorem Rq.list {j : Nat} {L : List Tr} (h : Rq r dq cap S hs A) (hj : j < 2) (f : rFr hs (wLs r j) S S') (hL : rLst S' r j L) (hl : hs ≤ hs') (ht : ∀ a, hs' ≤ a → gT S' a = 0) : Rq r dq cap S' hs' (aSetR A j L) := by
  have hdlt := fun i hi => Rq.dlt (i := i) h hi
  have hdne := fun i hi => Rq.dne (i := i) h hi
  obtain ⟨h1, ⟨h2, h21, h22⟩, h3, h4, h5, h6, h7, h8⟩ := h
  refine ⟨h1.fr f h7 h8, ⟨((f r (by omega)).2.2.2 12 (by unfold wLs wSc; omega)).trans h2, h21, h22.1, fun p w1 w2 => by
      obtain ⟨q1, q2⟩ := hdne 4 (by omega)
      rw [(f _ (hdlt 4 (by omega))).2.2.2 p (by unfold wLs wSc; omega)]
      exact h22.2 p w1 w2⟩, fun i hi => ?_, fun i hi => ?_, fun s hs => (h5 s hs).fr f h8 (fun o h1 h2 => by unfold wLs wSc; omega), fun p hp => (h6 p hp).fr f hdlt (fun i hi => by
      obtain ⟨q1, q2⟩ := hdne i hi
      unfold wLs wSc; omega), ht, by omega⟩
  · rw [rw_set]
    by_cases e : i = j
    · subst e; rw [if_pos rfl]; exact hL
    · rw [if_neg e]; exact (h3 i hi).fr f h8 hi (fun k => by unfold wLs wSc; omega) (by unfold wLs wSc; omega)
  · rw [rw_set, if_neg (by omega)]
    exact (h4 i hi).fr f h8 hi (fun k => by unfold wLs wSc; omega) (by unfold wLs wSc; omega)
/-- a map's row, changed -/
def wMp (r j : Nat) (a k : Nat) : Prop := wSc r a k ∨ a = r + (9 + j) ∨ a = r + (12 + j) ∨ a = r + (15 + j) ∨ (a = r + 17 ∧ k = j)
theorem Rq.map {j : Nat} {L : List Tr} (h : Rq r dq cap S hs A) (hj : j < 2) (f : rFr hs (wMp r j) S S') (hL : rMap S' r j L) (hl : hs ≤ hs') (ht : ∀ a, hs' ≤ a → gT S' a = 0) : Rq r dq cap S' hs' (aSetR A (2 + j) L) := by
  have hdlt := fun i hi => Rq.dlt (i := i) h hi
  have hdne := fun i hi => Rq.dne (i := i) h hi
  obtain ⟨h1, ⟨h2, h21, h22⟩, h3, h4, h5, h6, h7, h8⟩ := h
  refine ⟨h1.fr f h7 h8, ⟨((f r (by omega)).2.2.2 12 (by unfold wMp wSc; omega)).trans h2, h21, h22.1, fun p w1 w2 => by
      obtain ⟨q1, q2⟩ := hdne 4 (by omega)
      rw [(f _ (hdlt 4 (by omega))).2.2.2 p (by unfold wMp wSc; omega)]
      exact h22.2 p w1 w2⟩, fun i hi => ?_, fun i hi => ?_, fun s hs => (h5 s hs).fr f h8 (fun o h1 h2 => by unfold wMp wSc; omega), fun p hp => (h6 p hp).fr f hdlt (fun i hi => by
      obtain ⟨q1, q2⟩ := hdne i hi
      unfold wMp wSc; omega), ht, by omega⟩
  · rw [rw_set, if_neg (by omega)]
    exact (h3 i hi).fr f h8 hi (fun k => by unfold wMp wSc; omega) (by unfold wMp wSc; omega)
  · rw [rw_set]
    by_cases e : i = j
    · subst e; rw [if_pos rfl]; exact hL
    · rw [if_neg (by omega)]; exact (h4 i hi).fr f h8 hi (fun k => by unfold wMp wSc; omega) (by unfold wMp wSc; omega)
/-- a slot, changed -/
def wSt (r s : Nat) (a k : Nat) : Prop := wSc r a k ∨ (r + 23 ≤ a ∧ a ≤ r + 28 ∧ k = s)
theorem Rq.slot {s : Nat} {x : Sl} (h : Rq r dq cap S hs A) (f : rFr hs (wSt r s) S S') (hL : rSl S' r s x) (hl : hs ≤ hs') (ht : ∀ a, hs' ≤ a → gT S' a = 0) : Rq r dq cap S' hs' (aSetS A s x) := by
  have hdlt := fun i hi => Rq.dlt (i := i) h hi
  have hdne := fun i hi => Rq.dne (i := i) h hi
  obtain ⟨h1, ⟨h2, h21, h22⟩, h3, h4, h5, h6, h7, h8⟩ := h
  refine ⟨h1.fr f h7 h8, ⟨((f r (by omega)).2.2.2 12 (by unfold wSt wSc; omega)).trans h2, h21, h22.1, fun p w1 w2 => by
      obtain ⟨q1, q2⟩ := hdne 4 (by omega)
      rw [(f _ (hdlt 4 (by omega))).2.2.2 p (by unfold wSt wSc; omega)]
      exact h22.2 p w1 w2⟩, fun i hi => (h3 i hi).fr f h8 hi (fun k => by unfold wSt wSc; omega) (by unfold wSt wSc; omega), fun i hi => (h4 i hi).fr f h8 hi (fun k => by unfold wSt wSc; omega) (by unfold wSt wSc; omega), fun t ht => ?_, fun p hp => (h6 p hp).fr f hdlt (fun i hi => by
      obtain ⟨q1, q2⟩ := hdne i hi
      unfold wSt wSc; omega), ht, by omega⟩
  rw [sl_set]
  by_cases e : t = s
  · subst e; rw [if_pos rfl]; exact hL
  · rw [if_neg e]; exact (h5 t ht).fr f h8 (fun o h1 h2 => by unfold wSt wSc; omega)
/-- holds: kind, number, part; not fixed -/
theorem r_holds {s : Nat} {kd x p : Int32} (h : rHd S r dq cap) (hs12 : s < 12) (hk : gnr .char kd = true) : f_X5_holds S r (nI s) kd x p = some (gsI (gsI (gsI (gsI S (r + 23) s kd) (r + 24) s x) (r + 25) s p) (r + 28) s 0) := by
  have h1 := h.gs (r + 23) s kd
  have h2 := h1.gs (r + 24) s x
  have h3 := h2.gs (r + 25) s p
  simp only [f_X5_holds, h.fs, hk, gck_t, Option.bind_some, h.ws.1 s kd hs12, h1.fs, h1.ws.2.1 s x hs12, h2.fs, h2.ws.2.2.1 s p hs12, h3.fs, h3.ws.2.2.2.2.2.1 s 0 hs12]
theorem holds_fr {s : Nat} {kd x p : Int32} : rFr hs (wSt r s) S (gsI (gsI (gsI (gsI S (r + 23) s kd) (r + 24) s x) (r + 25) s p) (r + 28) s 0) :=
  (((rFr.one (by unfold wSt; omega)).tr (rFr.one (by unfold wSt; omega)) (Nat.le_refl _)).tr (rFr.one (by unfold wSt; omega)) (Nat.le_refl _)).tr (rFr.one (by unfold wSt; omega)) (Nat.le_refl _)
theorem holds_at {s : Nat} {kd x p : Int32} : gI (gsI (gsI (gsI (gsI S (r + 23) s kd) (r + 24) s x) (r + 25) s p) (r + 28) s 0) (r + 23) s = kd ∧ gI (gsI (gsI (gsI (gsI S (r + 23) s kd) (r + 24) s x) (r + 25) s p) (r + 28) s 0) (r + 24) s = x ∧
    gI (gsI (gsI (gsI (gsI S (r + 23) s kd) (r + 24) s x) (r + 25) s p) (r + 28) s 0) (r + 25) s = p ∧ gI (gsI (gsI (gsI (gsI S (r + 23) s kd) (r + 24) s x) (r + 25) s p) (r + 28) s 0) (r + 28) s = 0 := by
  simp only [gI_gsI]
  refine ⟨?_, ?_, ?_, ?_⟩
  · rw [if_neg (by omega), if_neg (by omega), if_neg (by omega), if_pos (by simp)]
  · rw [if_neg (by omega), if_neg (by omega), if_pos (by simp)]
  · rw [if_neg (by omega), if_pos (by simp)]
  · rw [if_pos (by simp)]
/-! a thing put in its place -/
theorem chg_eq {s : Nat} {V : List Tr} (h : V.length = (vw A s).length) : chgA A s V = rowC A s V := by unfold chgA chgP; rw [if_pos h.symm]
theorem WF_rowC {s : Nat} {V : List Tr} (hw : WF A) (hs : s < 12) (hk : sK (slA A s) = 108 ∨ sK (slA A s) = 112) (hV : ∀ t ∈ V, inB t) (hl : V.length = (vw A s).length) : WF (rowC A s V) := by
  have h24 := vw_24 hw hs (show kA A s ≠ 45 by show sK (slA A s) ≠ 45; rcases hk with h | h <;> (rw [h]; decide))
  obtain ⟨l1, l2, l3, l4, -⟩ := lst_facts hw hs (hk.elim Or.inl (fun h => Or.inr (Or.inl h)))
  have g24 := (hw.1 _ (show sR (slA A s) < 4 by omega)).1
  rw [← chg_eq hl]
  exact WF_chg hw hs hk hV (by omega)
theorem rowC_vw {s : Nat} {V : List Tr} (hw : WF A) (hs : s < 12) (hk : sK (slA A s) = 108 ∨ sK (slA A s) = 112) (hl : V.length = (vw A s).length) : vw (rowC A s V) s = V := by
  rw [← chg_eq hl]
  exact (vw_chg hw hs hk).2
theorem rLst.put {j p : Nat} {L : List Tr} {n k m : Int32} (h : rLst S r j L) (hp : p < L.length) (hj : j < 2) : rLst (gsI (gsI S (r + (2 + j)) p k) (r + (5 + j)) p m) r j (L.set p (n, k, m)) := by
  refine ⟨?_, fun i hi => ?_⟩
  · rw [gI_gsI, if_neg (by omega), gI_gsI, if_neg (by omega), List.length_set]; exact h.1
  · rw [List.length_set] at hi
    rw [gd_set hp]
    simp only [gI_gsI]
    obtain ⟨g1, g2⟩ := h.2 i hi
    by_cases e : i = p
    · subst e
      rw [if_pos rfl, if_neg (by omega), if_pos (by simp), if_pos (by simp)]
      exact ⟨rfl, rfl⟩
    · rw [if_neg e, if_neg (by omega), if_neg (by omega), if_neg (by omega), if_neg (by omega)]
      exact ⟨g1, g2⟩
theorem rowC_set {s i : Nat} {V : List Tr} {x : Tr} (hz : fsA A (slA A s) + (vw A s).length ≤ (rwA A (sR (slA A s))).length) (hl : V.length = (vw A s).length) (hi : i < V.length) : (spl (rwA A (sR (slA A s))) (fsA A (slA A s)) (vw A s).length V).set (fsA A (slA A s) + i) x = spl (rwA A (sR (slA A s))) (fsA A (slA A s)) (vw A s).length (V.set i x) := by
  have hsl := spl_len (M := V) hz
  refine tl_ext (by rw [List.length_set, hsl, spl_len hz, List.length_set]) fun k hk => ?_
  rw [gd_set (by omega), gd_spl hz, gd_spl hz, List.length_set, gd_set hi]
  by_cases a : k < fsA A (slA A s)
  · rw [if_pos a, if_pos a, if_neg (by omega)]
  · rw [if_neg a, if_neg a]
    by_cases b : k < fsA A (slA A s) + V.length
    · rw [if_pos b, if_pos b]
      by_cases c : k = fsA A (slA A s) + i
      · rw [if_pos c, if_pos (by omega)]
      · rw [if_neg c, if_neg (by omega)]
    · rw [if_neg b, if_neg b, if_neg (by omega)]
theorem r_put1 {s i : Nat} {V : List Tr} {n k m : Int32} (h : Rq r dq cap S hs (rowC A s V)) (hw : WF A) (hs12 : s < 12) (hk : sK (slA A s) = 108 ∨ sK (slA A s) = 112) (hl : V.length = (vw A s).length) (hi : i < V.length) :
    Rq r dq cap (gsI (gsI S (r + (2 + sR (slA A s))) (fsA A (slA A s) + i) k) (r + (5 + sR (slA A s))) (fsA A (slA A s) + i) m) hs (rowC A s (V.set i (n, k, m))) := by
  obtain ⟨l1, l2, l3, l4, -⟩ := lst_facts hw hs12 (hk.elim Or.inl (fun h => Or.inr (Or.inl h)))
  have e0 : rwA (rowC A s V) (sR (slA A s)) = spl (rwA A (sR (slA A s))) (fsA A (slA A s)) (vw A s).length V := if_pos rfl
  have hL := h.2.2.1 _ l1
  rw [e0] at hL
  have h2 := h.list l1 (L := spl (rwA A (sR (slA A s))) (fsA A (slA A s)) (vw A s).length (V.set i (n, k, m))) (hs' := hs) (S' := gsI (gsI S (r + (2 + sR (slA A s))) (fsA A (slA A s) + i) k) (r + (5 + sR (slA A s))) (fsA A (slA A s) + i) m)
    ((rFr.one (by unfold wLs; omega)).tr (rFr.one (by unfold wLs; omega)) (Nat.le_refl _)) (by
      rw [← rowC_set l4 hl hi]
      exact hL.put (by rw [spl_len l4]; omega) l1) (Nat.le_refl _) (fun a ha => h.2.2.2.2.2.2.1 a ha)
  refine h2.ext (fun j _ => ?_) (fun _ _ => rfl) rfl (fun _ _ => rfl)
  show (if j = sR (slA A s) then _ else rwA A j) = (if j = sR (slA A s) then _ else (if j = sR (slA A s) then _ else rwA A j))
  by_cases e : j = sR (slA A s)
  · rw [if_pos e, if_pos e]
  · rw [if_neg e, if_neg e, if_neg e]
theorem rowC_self {s : Nat} (hw : WF A) (hs12 : s < 12) (hk : sK (slA A s) = 108 ∨ sK (slA A s) = 112) (h : Rq r dq cap S hs A) : Rq r dq cap S hs (rowC A s (vw A s)) := by
  obtain ⟨l1, l2, l3, l4, l5, -⟩ := lst_facts hw hs12 (hk.elim Or.inl (fun h => Or.inr (Or.inl h)))
  have hsp : spl (rwA A (sR (slA A s))) (fsA A (slA A s)) (vw A s).length (vw A s) = rwA A (sR (slA A s)) := by
    refine tl_ext (by rw [spl_len l4]; omega) fun i hi => ?_
    rw [gd_spl l4]
    by_cases a : i < fsA A (slA A s)
    · rw [if_pos a]
    · rw [if_neg a]
      by_cases c : i < fsA A (slA A s) + (vw A s).length
      · rw [if_pos c]
        have := gd_viw (L := rwA A (sR (slA A s))) (f := fsA A (slA A s)) (z := (vw A s).length) (k := i - fsA A (slA A s)) (by omega)
        rw [← l5] at this
        rw [this]
        exact congrArg (fun q => (rwA A (sR (slA A s))).getD q tz) (by omega)
      · rw [if_neg c]
        exact congrArg (fun q => (rwA A (sR (slA A s))).getD q tz) (by omega)
  refine h.ext (fun j _ => ?_) (fun _ _ => rfl) rfl (fun _ _ => rfl)
  show (if j = sR (slA A s) then spl _ _ _ _ else rwA A j) = _
  by_cases e : j = sR (slA A s)
  · rw [if_pos e, hsp, e]
  · rw [if_neg e]
/-- the state of lists between: the first i of the new things are in their places -/
theorem mix_set {V M : List Tr} {i : Nat} (hl : M.length = V.length) (hi : i < V.length) : (M.take i ++ V.drop i).set i (M.getD i tz) = M.take (i + 1) ++ V.drop (i + 1) := by
  have e1 : (M.take i).length = i := by rw [List.length_take]; omega
  have e2 : (M.take (i + 1)).length = i + 1 := by rw [List.length_take]; omega
  refine tl_ext (by simp; omega) fun k hk => ?_
  rw [gd_set (by simp; omega), gd_app, gd_app, e1, e2, gd_drop, gd_drop]
  by_cases a : k = i
  · subst a; rw [if_pos rfl, if_pos (by omega), gd_take (by omega)]
  · rw [if_neg a]
    by_cases b : k < i
    · rw [if_pos b, if_pos (by omega), gd_take b, gd_take (by omega)]
    · rw [if_neg b, if_neg (by omega)]
      exact congrArg (fun q => V.getD q tz) (by omega)
theorem r_begin_gs {T : GS} {s a k : Nat} {v : Int32} (h : rHd T r dq cap) (hs12 : s < 12) (h1 : a ≠ r + 25) (h2 : a ≠ dq 2) : f_X5_begin (gsI T a k v) r (nI s) = f_X5_begin T r (nI s) := by
  have hT1 := h.gs a k v
  have e25 : gI (gsI T a k v) (r + 25) s = gI T (r + 25) s := by rw [gI_gsI, if_neg (fun z => h1 z.1.symm)]
  have key : ∀ p, gaI (gsI T a k v) (some (dq 2)) 11 p = gaI T (some (dq 2)) 11 p := fun p => by
    unfold gaI
    simp only [Option.bind_some, gT_gsI, gZ_gsI, gI_gsI]
    rw [if_neg (c := dq 2 = a ∧ _) (fun z => h2 z.1.symm)]
  unfold f_X5_begin
  simp only [hT1.fs, h.fs, hT1.rs.2.2.1 s hs12, h.rs.2.2.1 s hs12, Option.bind_some, e25, key]
theorem r_returns {s : Nat} {M : List Tr} (h : Rq r dq cap S hs A) (hw : WF A) (hs12 : s < 12) (hk : sK (slA A s) = 108 ∨ sK (slA A s) = 112) (hM : ∀ t ∈ M, inB t) (hl : M.length = (vw A s).length) (hn : rNw S r M) :
    ∃ S', f_X5_returns S r (nI s) = some S' ∧ Rq r dq cap S' hs (rowC A s M) ∧ rNw S' r M ∧ gI S' r 19 = gI S r 19 ∧ ∀ a, gT S' a = gT S a := by
  obtain ⟨l1, l2, l3, l4, l5, -⟩ := lst_facts hw hs12 (hk.elim Or.inl (fun h => Or.inr (Or.inl h)))
  have hk45 : kA A s ≠ 45 := by
    show sK (slA A s) ≠ 45
    rcases hk with h | h <;> (rw [h]; decide)
  have h24 := vw_24 hw hs12 hk45
  have g24 := (hw.1 _ (show sR (slA A s) < 4 by omega)).1
  have hin : ∀ i, ∀ t ∈ M.take i ++ (vw A s).drop i, inB t := fun i t ht => by
    rcases List.mem_append.mp ht with z | z
    · exact hM t (List.mem_of_mem_take z)
    · exact inB_row hw hs12 hk (List.mem_of_mem_drop z)
  have hlen : ∀ i, i ≤ M.length → (M.take i ++ (vw A s).drop i).length = (vw A s).length := fun i hi => by simp; omega
  obtain ⟨T, ⟨t1, t2, t3, t4⟩, n, t5⟩ := lpG0 (F := fun n T i => f_X5_returns_L2 r n T (nI s) i) (fun i T => Rq r dq cap T hs (rowC A s (M.take i ++ (vw A s).drop i)) ∧ rNw T r M ∧ gI T r 19 = gI S r 19 ∧ ∀ a, gT T a = gT S a) M.length (fun n T i hi hI => by
      obtain ⟨i1, i2, i3, i4⟩ := hI
      have hwi := WF_rowC hw hs12 hk (hin i) (hlen i (by omega))
      have hb := r_begin i1 hwi hs12 hk45
      have hb : f_X5_begin T r (nI s) = some (nI (fsA A (slA A s))) := hb
      obtain ⟨x1, x2⟩ := i1.2.2.2.2.1 s hs12
      obtain ⟨y1, y2, y3⟩ := x2 hk45
      have y4 : gI T (r + 24) s = nI (sR (slA A s)) := by
        have := (y3 l2).1
        rw [this]
        unfold rIx
        rw [show sR (slA (rowC A s (M.take i ++ (vw A s).drop i)) s) = sR (slA A s) from rfl, if_pos l1]
      obtain ⟨n1, n2⟩ := i2.2.2 i hi
      have hp : fsA A (slA A s) + i < 24 := by omega
      have hput := r_put1 (n := (M.getD i tz).1) (k := (M.getD i tz).2.1) (m := (M.getD i tz).2.2) (i := i) i1 hw hs12 hk (hlen i (by omega)) (by rw [hlen i (by omega)]; omega)
      have hT1 := i1.1.gs (r + (2 + sR (slA A s))) (fsA A (slA A s) + i) (M.getD i tz).2.1
      have hd2 := (i1.1.2.2.2.2.1 2 (by omega)).2.2.2
      have hb1 : f_X5_begin (gsI T (r + (2 + sR (slA A s))) (fsA A (slA A s) + i) (M.getD i tz).2.1) r (nI s) = some (nI (fsA A (slA A s))) := (r_begin_gs i1.1 hs12 (by omega) (by omega)).trans hb
      refine ⟨gsI (gsI T (r + (2 + sR (slA A s))) (fsA A (slA A s) + i) (M.getD i tz).2.1) (r + (5 + sR (slA A s))) (fsA A (slA A s) + i) (M.getD i tz).2.2, ⟨?_, ?_, ?_, ?_⟩, ?_⟩
      rotate_left 4
      · have q : (M.length ≤ i) = False := eq_false (by omega)
        have w1 := i1.1.wb.1 _ _ (M.getD i tz).2.1 l1 hp
        have w2 := hT1.wb.2.1 _ _ (M.getD i tz).2.2 l1 hp
        have v1 : gI (gsI T (r + (2 + sR (slA A s))) (fsA A (slA A s) + i) (M.getD i tz).2.1) (r + 24) s = nI (sR (slA A s)) := by rw [gI_gsI, if_neg (by omega)]; exact y4
        have v2 : gI (gsI T (r + (2 + sR (slA A s))) (fsA A (slA A s) + i) (M.getD i tz).2.1) (r + 30) i = (M.getD i tz).2.2 := by rw [gI_gsI, if_neg (by omega)]; exact n2
        have hM72 := i2.2.1
        simp (disch := omega) only [f_X5_returns_L2, i1.1.fs, i2.1, Option.bind_some, nI_leI, q, if_false, i1.1.rs.2.1 s hs12, y4, i1.1.ro.1 _ l1, beq_self_eq_true, gck_t, hb, i1.1.rs.2.2.2.2.2.2.2.2.1 i (by omega), n1, nI_add, w1,
          hT1.fs, hT1.rs.2.1 s hs12, v1, hT1.ro.2.1 _ l1, hb1, hT1.rs.2.2.2.2.2.2.2.2.2.1 i (by omega), v2, w2, nI_1]
      · rw [← mix_set hl (by omega)]; exact hput
      · refine ⟨?_, i2.2.1, fun k hk => ?_⟩
        · rw [gI_gsI, if_neg (by omega), gI_gsI, if_neg (by omega)]; exact i2.1
        · rw [gI_gsI, if_neg (by omega), gI_gsI, if_neg (by omega), gI_gsI, if_neg (by omega), gI_gsI, if_neg (by omega)]; exact i2.2.2 k hk
      · rw [gI_gsI, if_neg (by omega), gI_gsI, if_neg (by omega)]; exact i3
      · exact fun a => i4 a) (by omega) S ⟨by rw [List.take_zero, List.drop_zero, List.nil_append]; exact rowC_self hw hs12 hk h, hn, rfl, fun _ => rfl⟩
  refine ⟨T, ?_, ?_, t2, t3, t4⟩
  · unfold f_X5_returns
    rw [t5]
    simp only [f_X5_returns_L2, t1.1.fs, t2.1, Option.bind_some, Int32.le_refl, if_true]
  · rw [List.take_length, List.drop_eq_nil_of_le (by omega), List.append_nil] at t1
    exact t1
end RPut
