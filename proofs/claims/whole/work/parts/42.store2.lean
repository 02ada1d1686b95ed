/-! remove -/
theorem f_removeL {st p c : Nat} : ∀ (d : Nat) (S : GS) (n i : Nat), cSk S st → gI S st 4 = nI c → c ≤ 24 → i + d = c → 0 < i → d < n →
    ∃ S2, f_X3_remove_L13 st n S (nI i) = some S2 ∧ cFr st S S2 ∧ gI S2 st 4 = nI (c - 1) ∧ ∀ j, trw S2 st j = if i ≤ j + 1 ∧ j + 1 < c then trw S st (j + 1) else trw S st j := by
  intro d
  induction d with
  | zero =>
    intro S n i hk hc h24 h1 h3 h2
    obtain ⟨n, rfl⟩ : ∃ k, n = k + 1 := ⟨n - 1, by omega⟩
    refine ⟨gsI S st 4 (nI (c - 1)), ?_, cFr.cnt, by simp [gI_gsI], fun j => by rw [if_neg (by omega)]; simp [trw, gI_gsI]⟩
    have q : (c ≤ i) = True := eq_true (by omega)
    have q2 : nI c - 1 = nI (c - 1) := by
      obtain ⟨b, rfl⟩ : ∃ b, c = b + 1 := ⟨c - 1, by omega⟩
      exact nI_pred b
    rw [f_X3_remove_L13]
    simp (disch := omega) only [gfI_at hk.1, hc, Option.bind_some, nI_leI, q, if_true, gsfI_at hk.1, q2]
  | succ d ih =>
    intro S n i hk hc h24 h1 h3 h2
    obtain ⟨n, rfl⟩ : ∃ k, n = k + 1 := ⟨n - 1, by omega⟩
    obtain ⟨i, rfl⟩ : ∃ k, i = k + 1 := ⟨i - 1, by omega⟩
    obtain ⟨S2, e1, e2, e3, e4⟩ := ih (mv S st (i + 1) i) n (i + 2) (mv_fr.sk hk) (by rw [mv_cnt]; exact hc) h24 (by omega) (by omega) (by omega)
    refine ⟨S2, ?_, mv_fr.tr e2, e3, fun j => ?_⟩
    · have q : (c ≤ i + 1) = False := eq_false (by omega)
      rw [f_X3_remove_L13]
      simp (disch := omega) only [gfI_at hk.1, hc, Option.bind_some, nI_leI, q, if_false, hk.1, beq_self_eq_true, gck_t]
      rw [nI_pred, f_move hk hc h24 (by omega) (by omega), nI_1]
      exact e1
    · rw [e4 j]
      simp only [mv_tr]
      by_cases a1 : i + 2 ≤ j + 1 ∧ j + 1 < c
      · rw [if_pos a1, if_neg (by omega), if_pos (by omega)]
      · rw [if_neg a1]
        by_cases a2 : j = i
        · rw [if_pos a2, if_pos (by omega), a2]
        · rw [if_neg a2, if_neg (by omega)]
theorem f_remove {S : GS} {st p : Nat} {L : List Tr} (h : cSt S st L) (hp : p < L.length) : ∃ S', f_X3_remove S st (nI p) = some S' ∧ cSt S' st (L.eraseIdx p) ∧ cFr st S S' := by
  obtain ⟨hk, g2, g3, g4⟩ := h
  obtain ⟨S2, e1, e2, e3, e4⟩ := f_removeL (p := p) (L.length - (p + 1)) S gN (p + 1) hk g2 g3 (by omega) (by omega) (by simp only [gN]; omega)
  have hlen : (L.eraseIdx p).length = L.length - 1 := by rw [List.length_eraseIdx, if_pos hp]
  refine ⟨S2, ?_, ⟨e2.sk hk, by rw [hlen]; exact e3, by omega, fun j hj => ?_⟩, e2⟩
  · unfold f_X3_remove
    rw [f_hasPlace hk g2 g3 (by omega), if_pos hp]
    have q1 : ((1 : Int32) = 0) = False := by decide
    simp only [hk.1, beq_self_eq_true, gck_t, Option.bind_some, q1, if_false, nI_1]
    exact e1
  · rw [hlen] at hj
    rw [e4 j, gd_era]
    by_cases a1 : j < p
    · rw [if_neg (by omega), if_pos a1]; exact g4 j (by omega)
    · rw [if_pos (by omega), if_neg a1]; exact g4 (j + 1) (by omega)
theorem f_remove_no {S : GS} {st : Nat} {L : List Tr} (h : cSt S st L) : f_X3_remove S st (-1) = some S := by
  have q1 : ((-1 : Int32) < 0) = True := by decide
  simp only [f_X3_remove, f_X3_hasPlace, h.1.1, beq_self_eq_true, gck_t, q1, if_true, Option.bind_some]
/-! exchange -/
def xc (S : GS) (st i j : Nat) : GS := gsI (gsI (gsI (gsI (gsI (gsI S (st + 1) i (gI S (st + 1) j)) (st + 2) i (gI S (st + 2) j)) (st + 3) i (gI S (st + 3) j)) (st + 1) j (gI S (st + 1) i)) (st + 2) j (gI S (st + 2) i)) (st + 3) j (gI S (st + 3) i)
theorem xc_fr {S : GS} {st i j : Nat} : cFr st S (xc S st i j) := (((((cFr.row (by omega)).tr (cFr.row (by omega))).tr (cFr.row (by omega))).tr (cFr.row (by omega))).tr (cFr.row (by omega))).tr (cFr.row (by omega))
theorem xc_tr {S : GS} {st i j k : Nat} : trw (xc S st i j) st k = if k = j then trw S st i else if k = i then trw S st j else trw S st k := by
  by_cases h : k = j
  · by_cases h2 : j = i <;> simp [trw, xc, gI_gsI, h, h2]
  · by_cases h2 : k = i
    · simp [trw, xc, gI_gsI, h, h2]
      simp [show ¬ i = j from h2 ▸ h]
    · simp [trw, xc, gI_gsI, h, h2]
theorem xc_cnt {S : GS} {st i j k : Nat} : gI (xc S st i j) st k = gI S st k := by simp [xc, gI_gsI]
def swp (L : List Tr) (i j : Nat) : List Tr := (L.set i (L.getD j tz)).set j (L.getD i tz)
theorem swp_len {L : List Tr} {i j : Nat} : (swp L i j).length = L.length := by simp [swp]
theorem gd_swp {L : List Tr} {i j k : Nat} (hi : i < L.length) (hj : j < L.length) : (swp L i j).getD k tz = if k = j then L.getD i tz else if k = i then L.getD j tz else L.getD k tz := by
  unfold swp
  rw [gd_set (by rw [List.length_set]; exact hj), gd_set hi]
theorem f_exch {S : GS} {st i j : Nat} {L : List Tr} (h : cSt S st L) (hi : i < L.length) (hj : j < L.length) : f_X3_exchange S st (nI i) (nI j) = some (xc S st i j) ∧ cSt (xc S st i j) st (swp L i j) := by
  obtain ⟨hk, g2, g3, g4⟩ := h
  have hk' := hk
  obtain ⟨k1, k2, k3, k4, k5, k6, k7, k8, k9, k10⟩ := hk'
  refine ⟨?_, xc_fr.sk hk, by rw [xc_cnt, swp_len]; exact g2, by rw [swp_len]; exact g3, fun k hk9 => ?_⟩
  · unfold f_X3_exchange
    rw [f_hasPlace hk g2 g3 (by omega), f_hasPlace hk g2 g3 (by omega), if_pos hi, if_pos hj]
    have e1 : ((1 : Int32) = 0) = False := by decide
    simp (disch := first | assumption | omega | (simp only [gT_gsI, gZ_gsI] <;> omega)) only [k1, beq_self_eq_true, gck_t, Option.bind_some, e1, if_false, gfR_at, k2, k3, k4, gR_gsI, aI, saI]
    simp [xc, gI_gsI]
  · rw [swp_len] at hk9
    rw [xc_tr, gd_swp hi hj, g4 _ hi, g4 _ hj, g4 _ hk9]
/-! reverse -/
theorem f_revL {st f z : Nat} : ∀ (d : Nat) (S : GS) (L : List Tr) (n i : Nat), cSt S st L → f + z ≤ L.length → i + d = z / 2 → d < n →
    ∃ S2 L2, f_X3_reverse_L2 st n S (nI f) (nI z) (nI i) = some S2 ∧ cFr st S S2 ∧ cSt S2 st L2 ∧ L2.length = L.length ∧ ∀ k, L2.getD k tz = if f + i ≤ k ∧ k + i < f + z then L.getD (f + (f + z - 1 - k)) tz else L.getD k tz := by
  intro d
  induction d with
  | zero =>
    intro S L n i h h1 h2 h3
    obtain ⟨n, rfl⟩ : ∃ k, n = k + 1 := ⟨n - 1, by omega⟩
    refine ⟨S, L, ?_, cFr.rf, h, rfl, fun k => ?_⟩
    · have g3 := h.2.2.1
      have e2 : (2 : Int32) = nI 2 := by decide
      have q : (z / 2 ≤ i) = True := eq_true (by omega)
      rw [f_X3_reverse_L2, e2, pk_div (by omega) (by omega) (by omega)]
      simp (disch := omega) only [nI_leI, q, if_true]
    · by_cases a : f + i ≤ k ∧ k + i < f + z
      · rw [if_pos a, show f + (f + z - 1 - k) = k by omega]
      · rw [if_neg a]
  | succ d ih =>
    intro S L n i h h1 h2 h3
    obtain ⟨n, rfl⟩ : ∃ k, n = k + 1 := ⟨n - 1, by omega⟩
    have g3 := h.2.2.1
    obtain ⟨x1, x2⟩ := f_exch (i := f + i) (j := f + z - 1 - i) h (by omega) (by omega)
    obtain ⟨S2, L2, e1, e2, e3, e4, e5⟩ := ih (xc S st (f + i) (f + z - 1 - i)) (swp L (f + i) (f + z - 1 - i)) n (i + 1) x2 (by rw [swp_len]; exact h1) (by omega) (by omega)
    refine ⟨S2, L2, ?_, xc_fr.tr e2, e3, e4.trans swp_len, fun k => ?_⟩
    · have q2 : (2 : Int32) = nI 2 := by decide
      have q : (z / 2 ≤ i) = False := eq_false (by omega)
      rw [f_X3_reverse_L2, q2, pk_div (by omega) (by omega) (by omega)]
      simp (disch := omega) only [nI_leI, q, if_false, h.1.1, beq_self_eq_true, gck_t]
      rw [nI_add, nI_add, n_1, pk_sub (by omega), pk_sub (by omega), x1, Option.bind_some, nI_add]
      exact e1
    · have gs := fun k => gd_swp (L := L) (i := f + i) (j := f + z - 1 - i) (k := k) (by omega) (by omega)
      rw [e5 k]
      simp only [gs]
      by_cases a : f + (i + 1) ≤ k ∧ k + (i + 1) < f + z
      · rw [if_pos a, if_neg (by omega), if_neg (by omega), if_pos (by omega)]
      · rw [if_neg a]
        by_cases b : k = f + z - 1 - i
        · rw [if_pos b, if_pos (by omega), b]
          exact congrArg (fun q => L.getD q tz) (by omega)
        · rw [if_neg b]
          by_cases c : k = f + i
          · rw [if_pos c, if_pos (by omega), c]
            exact congrArg (fun q => L.getD q tz) (by omega)
          · rw [if_neg c, if_neg (by omega)]
/-- a stretch turned round -/
def rvS (L : List Tr) (f z : Nat) : List Tr := L.take f ++ ((L.drop f).take z).reverse ++ L.drop (f + z)
theorem gd_rev {L : List Tr} {k : Nat} (h : k < L.length) : L.reverse.getD k tz = L.getD (L.length - 1 - k) tz := by
  rw [gd_eq, gd_eq, List.getElem?_reverse h]
theorem rvS_len {L : List Tr} {f z : Nat} (h : f + z ≤ L.length) : (rvS L f z).length = L.length := by simp [rvS]; omega
theorem gd_rvS {L : List Tr} {f z k : Nat} (h : f + z ≤ L.length) : (rvS L f z).getD k tz = if f ≤ k ∧ k < f + z then L.getD (f + (f + z - 1 - k)) tz else L.getD k tz := by
  have e1 : (L.take f).length = f := by rw [List.length_take]; omega
  have e2 : ((L.drop f).take z).length = z := by rw [List.length_take, List.length_drop]; omega
  unfold rvS
  rw [List.append_assoc, gd_app, e1]
  by_cases a : k < f
  · rw [if_pos a, if_neg (by omega), gd_take a]
  · rw [if_neg a, gd_app, List.length_reverse, e2]
    by_cases b : k - f < z
    · rw [if_pos b, if_pos (by omega), gd_rev (by rw [e2]; exact b), e2, gd_take (by omega), gd_drop]
      exact congrArg (fun q => L.getD q tz) (by omega)
    · rw [if_neg b, if_neg (by omega), gd_drop]
      exact congrArg (fun q => L.getD q tz) (by omega)
theorem f_rev {S : GS} {st f z : Nat} {L : List Tr} (h : cSt S st L) (hz : f + z ≤ L.length) : ∃ S', f_X3_reverse S st (nI f) (nI z) = some S' ∧ cSt S' st (rvS L f z) ∧ cFr st S S' := by
  have g3 := h.2.2.1
  obtain ⟨S2, L2, e1, e2, e3, e4, e5⟩ := f_revL (z / 2) S L gN 0 h hz (by omega) (by simp only [gN]; omega)
  refine ⟨S2, ?_, ?_, e2⟩
  · unfold f_X3_reverse
    rw [n_0]
    exact e1
  · have : L2 = rvS L f z := tl_ext (by rw [e4, rvS_len hz]) fun k hk => by
      rw [e5 k, gd_rvS hz]
      simp
    rw [← this]
    exact e3
