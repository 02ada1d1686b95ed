/-! rows as lists -/
theorem gd_eq {L : List Tr} {i : Nat} : L.getD i tz = (L[i]?).getD tz := List.getD_eq_getElem?_getD ..
theorem tl_ext {L M : List Tr} (h : L.length = M.length) (g : ∀ i, i < L.length → L.getD i tz = M.getD i tz) : L = M := by
  refine List.ext_getElem h fun i h1 h2 => ?_
  have := g i h1
  rw [gd_eq, gd_eq, List.getElem?_eq_getElem h1, List.getElem?_eq_getElem h2] at this
  exact this
theorem gd_ins {L : List Tr} {x : Tr} {p i : Nat} (hp : p ≤ L.length) : (L.insertIdx p x).getD i tz = if i < p then L.getD i tz else if i = p then x else L.getD (i - 1) tz := by
  rw [gd_eq, gd_eq, gd_eq, List.getElem?_insertIdx]
  by_cases h1 : i < p
  · simp [h1]
  · by_cases h2 : i = p
    · subst h2; simp [hp]
    · simp [h1, h2]
theorem gd_era {L : List Tr} {p i : Nat} : (L.eraseIdx p).getD i tz = if i < p then L.getD i tz else L.getD (i + 1) tz := by
  rw [gd_eq, gd_eq, gd_eq, List.getElem?_eraseIdx]
  by_cases h1 : i < p <;> simp [h1]
theorem gd_set {L : List Tr} {x : Tr} {p i : Nat} (hp : p < L.length) : (L.set p x).getD i tz = if i = p then x else L.getD i tz := by
  rw [gd_eq, gd_eq, List.getElem?_set]
  by_cases h1 : i = p
  · subst h1; simp [hp]
  · simp [h1, Ne.symm h1]
theorem gd_drop {L : List Tr} {i j : Nat} : (L.drop i).getD j tz = L.getD (i + j) tz := by rw [gd_eq, gd_eq, List.getElem?_drop]
theorem gd_take {L : List Tr} {i j : Nat} (h : j < i) : (L.take i).getD j tz = L.getD j tz := by rw [gd_eq, gd_eq, List.getElem?_take, if_pos h]
theorem gd_app {L M : List Tr} {j : Nat} : (L ++ M).getD j tz = if j < L.length then L.getD j tz else M.getD (j - L.length) tz := by
  rw [gd_eq, gd_eq, gd_eq]
  by_cases h : j < L.length
  · rw [if_pos h, List.getElem?_append_left h]
  · rw [if_neg h, List.getElem?_append_right (by omega)]
theorem gd_cons {t : Tr} {L l : List Tr} {i : Nat} (h : L.drop i = t :: l) : i < L.length ∧ L.getD i tz = t ∧ L.drop (i + 1) = l := by
  have hlt : i < L.length := by
    rcases Nat.lt_or_ge i L.length with q | q
    · exact q
    · rw [List.drop_eq_nil_of_le q] at h; cases h
  refine ⟨hlt, ?_, ?_⟩
  · have := gd_drop (L := L) (i := i) (j := 0)
    rw [h] at this
    exact this.symm
  · have := congrArg List.tail h
    rw [List.tail_drop] at this
    exact this
theorem gd_nil {L : List Tr} {i : Nat} (h : L.drop i = []) : L.length ≤ i := List.drop_eq_nil_iff.mp h
/-! reads -/
theorem f_keyIn {S : GS} {st i : Nat} {L : List Tr} (h : cSt S st L) (hi : i < L.length) : f_X3_keyIn S st (nI i) = some (L.getD i tz).2.1 := by
  obtain ⟨⟨k1, k2, k3, k4, k5, k6, k7, k8, k9, k10⟩, g2, g3, g4⟩ := h
  have g := g4 i hi
  have e1 : (L.length ≤ i) = False := eq_false (by omega)
  rw [← g]
  simp (disch := first | assumption | omega) only [f_X3_keyIn, gfI_at, gfR_at, g2, n_lt0, nI_leI, Option.bind_some, if_false, k3, aI, e1]
  rfl
theorem f_markIn {S : GS} {st i : Nat} {L : List Tr} (h : cSt S st L) (hi : i < L.length) : f_X3_markIn S st (nI i) = some (L.getD i tz).2.2 := by
  obtain ⟨⟨k1, k2, k3, k4, k5, k6, k7, k8, k9, k10⟩, g2, g3, g4⟩ := h
  have g := g4 i hi
  have e1 : (L.length ≤ i) = False := eq_false (by omega)
  rw [← g]
  simp (disch := first | assumption | omega) only [f_X3_markIn, gfI_at, gfR_at, g2, n_lt0, nI_leI, Option.bind_some, if_false, k4, aI, e1]
  rfl
theorem f_numberIn {S : GS} {st i : Nat} {L : List Tr} (h : cSt S st L) (hi : i < L.length) : f_X3_numberIn S st (nI i) = some (L.getD i tz).1 := by
  obtain ⟨⟨k1, k2, k3, k4, k5, k6, k7, k8, k9, k10⟩, g2, g3, g4⟩ := h
  have g := g4 i hi
  have e1 : (L.length ≤ i) = False := eq_false (by omega)
  rw [← g]
  simp (disch := first | assumption | omega) only [f_X3_numberIn, gfI_at, gfR_at, g2, n_lt0, nI_leI, Option.bind_some, if_false, k2, aI, e1]
  rfl
/-! lay -/
theorem f_lay {S : GS} {st i : Nat} {L : List Tr} {k m : Int32} (h : cSt S st L) (hi : i < L.length) : ∃ S', f_X3_lay S st (nI i) k m = some S' ∧ cSt S' st (L.set i ((L.getD i tz).1, k, m)) ∧ cFr st S S' := by
  obtain ⟨hk, g2, g3, g4⟩ := h
  have hk' := hk
  obtain ⟨k1, k2, k3, k4, k5, k6, k7, k8, k9, k10⟩ := hk'
  refine ⟨gsI (gsI S (st + 2) i k) (st + 3) i m, ?_, ⟨hk, ?_, by rw [List.length_set]; exact g3, fun j hj => ?_⟩, (cFr.row (by omega)).tr (cFr.row (by omega))⟩
  · have e1 : ((1 : Int32) = 0) = False := by decide
    unfold f_X3_lay
    rw [f_hasPlace hk g2 g3 (by omega), if_pos hi]
    simp (disch := first | assumption | omega | (simp only [gT_gsI, gZ_gsI] <;> omega)) only [k1, beq_self_eq_true, gck_t, Option.bind_some, e1, if_false, gfR_at, k3, k4, gR_gsI, aI, saI]
  · rw [List.length_set]; simp [gI_gsI, g2]
  · rw [List.length_set] at hj
    rw [gd_set hi, ← g4 j hj, ← g4 i hi]
    by_cases e : j = i <;> simp [trw, gI_gsI, e]
/-! insert -/
theorem f_insL {st p c : Nat} {nu k m : Int32} : ∀ (d : Nat) (S : GS) (n : Nat), cSk S st → gI S st 4 = nI c → c ≤ 24 → p + d < c → d < n →
    ∃ S2, f_X3_insert_L40 st n S (nI p) nu k m (nI (p + d)) = f_X3_insert_L40 st (n - d) S2 (nI p) nu k m (nI p) ∧ cFr st S S2 ∧ gI S2 st 4 = nI c ∧ ∀ j, trw S2 st j = if p < j ∧ j ≤ p + d then trw S st (j - 1) else trw S st j := by
  intro d
  induction d with
  | zero => intro S n hk hc h24 h1 h2; exact ⟨S, rfl, cFr.rf, hc, fun j => by rw [if_neg (by omega)]⟩
  | succ d ih =>
    intro S n hk hc h24 h1 h2
    obtain ⟨n, rfl⟩ : ∃ k, n = k + 1 := ⟨n - 1, by omega⟩
    obtain ⟨S2, e1, e2, e3, e4⟩ := ih (mv S st (p + d) (p + d + 1)) n (mv_fr.sk hk) (by rw [mv_cnt]; exact hc) h24 (by omega) (by omega)
    refine ⟨S2, ?_, mv_fr.tr e2, e3, fun j => ?_⟩
    · rw [show n + 1 - (d + 1) = n - d by omega, ← e1]
      have q : (p + (d + 1) ≤ p) = False := eq_false (by omega)
      rw [f_X3_insert_L40]
      simp (disch := omega) only [nI_leI, q, if_false, hk.1, beq_self_eq_true, gck_t]
      rw [show nI (p + (d + 1)) - 1 = nI (p + d) from nI_pred _, show nI (p + (d + 1)) + (-1) = nI (p + d) from pk_m1 _, show nI (p + (d + 1)) = nI (p + d + 1) from rfl, f_move hk hc h24 (by omega) (by omega)]
      rfl
    · rw [e4 j]
      simp only [mv_tr]
      by_cases a1 : p < j ∧ j ≤ p + d
      · rw [if_pos a1, if_neg (by omega), if_pos (by omega)]
      · rw [if_neg a1]
        by_cases a2 : j = p + d + 1
        · rw [if_pos a2, if_pos (by omega), a2]; rfl
        · rw [if_neg a2, if_neg (by omega)]
theorem f_insert {S : GS} {st p : Nat} {L : List Tr} {nu k m : Int32} (h : cSt S st L) (hp : p ≤ L.length) (h24 : L.length < 24) : ∃ S', f_X3_insert S st (nI p) nu k m = some S' ∧ cSt S' st (L.insertIdx p (nu, k, m)) ∧ cFr st S S' := by
  obtain ⟨hk, g2, g3, g4⟩ := h
  have hk' := hk
  obtain ⟨k1, k2, k3, k4, k5, k6, k7, k8, k9, k10⟩ := hk'
  have hlen : (L.insertIdx p (nu, k, m)).length = L.length + 1 := by rw [List.length_insertIdx, if_pos hp]
  have hc1 : gI (gsI S st 4 (nI (L.length + 1))) st 4 = nI (L.length + 1) := by simp [gI_gsI]
  obtain ⟨S2, e1, e2, e3, e4⟩ := f_insL (st := st) (p := p) (nu := nu) (k := k) (m := m) (L.length - p) (gsI S st 4 (nI (L.length + 1))) gN hk hc1 (by omega) (by omega) (by simp only [gN]; omega)
  rw [show p + (L.length - p) = L.length by omega] at e1 e4
  obtain ⟨n, hn⟩ : ∃ n, gN - (L.length - p) = n + 1 := ⟨gN - (L.length - p) - 1, by simp only [gN]; omega⟩
  rw [hn] at e1
  have hk2 := e2.sk hk
  have hk3 := hk2
  obtain ⟨l1, l2, l3, l4, l5, l6, l7, l8, l9, l10⟩ := hk3
  have hS3 : cSt (gsI S2 (st + 1) p nu) st (L.insertIdx p (nu, (trw S2 st p).2.1, (trw S2 st p).2.2)) := by
    have hlen : (L.insertIdx p (nu, (trw S2 st p).2.1, (trw S2 st p).2.2)).length = L.length + 1 := by rw [List.length_insertIdx, if_pos hp]
    refine ⟨hk2, ?_, by omega, fun j hj => ?_⟩
    · rw [hlen, ← e3]; simp [gI_gsI]
    · rw [gd_ins hp]
      have et : trw (gsI S2 (st + 1) p nu) st j = if j = p then (nu, (trw S2 st p).2.1, (trw S2 st p).2.2) else trw S2 st j := by
        by_cases e : j = p <;> simp [trw, gI_gsI, e]
      have e0 : ∀ j, trw (gsI S st 4 (nI (L.length + 1))) st j = trw S st j := fun j => by simp [trw, gI_gsI]
      rw [et]
      by_cases a1 : j = p
      · rw [if_pos a1, if_neg (by omega), if_pos a1]
      · rw [if_neg a1, e4 j]
        by_cases a2 : j < p
        · rw [if_neg (by omega), if_pos a2, e0]; exact g4 j (by omega)
        · rw [if_pos (by omega), if_neg a2, if_neg a1, e0]; exact g4 (j - 1) (by omega)
  obtain ⟨S4, q1, q2, q3⟩ := f_lay (i := p) (k := k) (m := m) hS3 (by rw [List.length_insertIdx, if_pos hp]; omega)
  refine ⟨S4, ?_, ?_, ((cFr.cnt.tr e2).tr (cFr.row (by omega))).tr q3⟩
  · unfold f_X3_insert
    have c1 : (((L.length : Nat) < p)) = False := eq_false (by omega)
    have c2 : (((L.length : Nat) < 24)) = True := eq_true (by omega)
    rw [n_24]
    simp (disch := first | assumption | omega) only [n_lt0, if_false, gfI_at, g2, Option.bind_some, nI_ltI, c1, c2, if_true, gsfI_at, nI_1]
    rw [gfI_at (S := gsI S st 4 (nI (L.length + 1))) k1, hc1, Option.bind_some, nI_pred, e1, f_X3_insert_L40]
    simp (disch := first | assumption | omega) only [nI_leI, Nat.le_refl, if_true, gfR_at, l2, Option.bind_some, saI, gT_gsI, l1, beq_self_eq_true, gck_t, q1]
  · rw [gd_ins hp] at q2
    simp only [Nat.lt_irrefl, if_false, if_true] at q2
    have : (L.insertIdx p (nu, (trw S2 st p).2.1, (trw S2 st p).2.2)).set p (nu, k, m) = L.insertIdx p (nu, k, m) := by
      refine tl_ext (by rw [List.length_set, List.length_insertIdx, List.length_insertIdx]) fun i hi => ?_
      rw [gd_set (by rw [List.length_insertIdx, if_pos hp]; omega), gd_ins hp, gd_ins hp]
      by_cases e : i = p
      · rw [if_pos e, if_neg (by omega), if_pos e]
      · rw [if_neg e, if_neg e, if_neg e]
    rw [this] at q2
    exact q2
