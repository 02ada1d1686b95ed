/-! sorting, as the class does it -/
def rkw (w : Int32) (t : Tr) : Int32 := if w = 75 ∨ w = 77 then -(if w = 107 ∨ w = 75 then t.2.1 else t.2.2) else (if w = 107 ∨ w = 75 then t.2.1 else t.2.2)
def snk (rk : Tr → Int32) (f : Nat) : Nat → List Tr → List Tr
  | 0, L => L
  | j + 1, L => if f < j + 1 ∧ rk (L.getD (j + 1) tz) < rk (L.getD j tz) then snk rk f j (swp L j (j + 1)) else L
def ord (rk : Tr → Int32) (f : Nat) : Nat → Nat → List Tr → List Tr
  | 0, _, L => L
  | d + 1, i, L => ord rk f d (i + 1) (snk rk f i L)
theorem snk_len {rk : Tr → Int32} {f : Nat} : ∀ (j : Nat) (L : List Tr), (snk rk f j L).length = L.length := by
  intro j
  induction j with
  | zero => intro L; rfl
  | succ j ih =>
    intro L
    unfold snk
    by_cases h : f < j + 1 ∧ rk (L.getD (j + 1) tz) < rk (L.getD j tz)
    · rw [if_pos h, ih, swp_len]
    · rw [if_neg h]
theorem ord_len {rk : Tr → Int32} {f : Nat} : ∀ (d i : Nat) (L : List Tr), (ord rk f d i L).length = L.length := by
  intro d
  induction d with
  | zero => intro i L; rfl
  | succ d ih => intro i L; rw [ord, ih, snk_len]
theorem f_rank {S : GS} {st i : Nat} {L : List Tr} {w : Int32} (h : cSt S st L) (hi : i < L.length) : f_X3_rank S st (nI i) w = some (rkw w (L.getD i tz)) := by
  have h1 := f_keyIn h hi
  have h2 := f_markIn h hi
  simp only [f_X3_rank, f_X3_rank_b12, f_X3_rank_b25, f_X3_rank_b38, h.1.1, beq_self_eq_true, gck_t, h1, h2, Option.bind_some, rkw]
  by_cases a : w = 107
  · subst a; simp
  · by_cases b : w = 75
    · subst b; simp
    · by_cases c : w = 77 <;> simp [a, b, c]
theorem f_snkL {st f i : Nat} {z w : Int32} {k5 : GS → Int32 → Int32 → Int32 → Int32 → Option GS} : ∀ (j : Nat) (S : GS) (L : List Tr) (n : Nat), cSt S st L → f < 2 ^ 31 → j < L.length → j < n →
    ∃ S2, f_X3_order_L17 k5 st n S (nI f) z w (nI i) (nI j) = k5 S2 (nI f) z w (nI (i + 1)) ∧ cSt S2 st (snk (rkw w) f j L) ∧ cFr st S S2 := by
  intro j
  induction j with
  | zero =>
    intro S L n h hf hj hn
    obtain ⟨n, rfl⟩ : ∃ k, n = k + 1 := ⟨n - 1, by omega⟩
    refine ⟨S, ?_, h, cFr.rf⟩
    have q : (0 ≤ f) = True := eq_true (by omega)
    rw [f_X3_order_L17]
    simp (disch := omega) only [nI_leI, q, if_true, f_X3_order_b58, nI_1]
  | succ j ih =>
    intro S L n h hf hj hn
    obtain ⟨n, rfl⟩ : ∃ k, n = k + 1 := ⟨n - 1, by omega⟩
    have h3 := h.2.2.1
    rw [f_X3_order_L17, nI_pred, pk_m1, f_rank h (by omega), f_rank h hj]
    simp (disch := omega) only [nI_leI, h.1.1, beq_self_eq_true, gck_t, Option.bind_some]
    by_cases a : j + 1 ≤ f
    · refine ⟨S, ?_, ?_, cFr.rf⟩
      · simp only [a, if_true, f_X3_order_b58, nI_1]
      · rw [snk, if_neg (by omega)]; exact h
    · by_cases b : rkw w (L.getD j tz) ≤ rkw w (L.getD (j + 1) tz)
      · refine ⟨S, ?_, ?_, cFr.rf⟩
        · simp only [a, b, if_true, if_false, f_X3_order_b58, nI_1]
        · rw [snk, if_neg (by intro q; exact (Int32.not_lt.mpr b) q.2)]; exact h
      · obtain ⟨x1, x2⟩ := f_exch (i := j) (j := j + 1) h (by omega) hj
        obtain ⟨S2, e1, e2, e3⟩ := ih (xc S st j (j + 1)) (swp L j (j + 1)) n x2 hf (by rw [swp_len]; omega) (by omega)
        refine ⟨S2, ?_, ?_, xc_fr.tr e3⟩
        · simp only [a, b, if_false, x1, Option.bind_some]
          exact e1
        · rw [snk, if_pos ⟨by omega, Int32.not_le.mp b⟩]; exact e2
theorem f_ordL {st f z : Nat} {w : Int32} : ∀ (d i : Nat) (S : GS) (L : List Tr) (n : Nat), cSt S st L → f + z ≤ L.length → i + d = f + z → d < n →
    ∃ S2, f_X3_order_L5 st n S (nI f) (nI z) w (nI i) = some S2 ∧ cSt S2 st (ord (rkw w) f d i L) ∧ cFr st S S2 := by
  intro d
  induction d with
  | zero =>
    intro i S L n h h1 h2 h3
    obtain ⟨n, rfl⟩ : ∃ k, n = k + 1 := ⟨n - 1, by omega⟩
    have g3 := h.2.2.1
    refine ⟨S, ?_, h, cFr.rf⟩
    have q : (f + z ≤ i) = True := eq_true (by omega)
    rw [f_X3_order_L5, nI_add]
    simp (disch := omega) only [nI_leI, q, if_true]
  | succ d ih =>
    intro i S L n h h1 h2 h3
    obtain ⟨n, rfl⟩ : ∃ k, n = k + 1 := ⟨n - 1, by omega⟩
    have g3 := h.2.2.1
    obtain ⟨S1, a1, a2, a3⟩ := f_snkL (i := i) (z := nI z) (w := w) (f := f) (k5 := f_X3_order_L5 st n) i S L gN h (by omega) (by omega) (by simp only [gN]; omega)
    obtain ⟨S2, b1, b2, b3⟩ := ih (i + 1) S1 _ n a2 (by rw [snk_len]; exact h1) (by omega) (by omega)
    refine ⟨S2, ?_, b2, a3.tr b3⟩
    have q : (f + z ≤ i) = False := eq_false (by omega)
    rw [f_X3_order_L5, nI_add]
    simp (disch := omega) only [nI_leI, q, if_false]
    rw [a1, b1]
theorem f_order {S : GS} {st f z : Nat} {L : List Tr} {w : Int32} (h : cSt S st L) (hz : f + z ≤ L.length) : ∃ S', f_X3_order S st (nI f) (nI z) w = some S' ∧ cSt S' st (ord (rkw w) f (z - 1) (f + 1) L) ∧ cFr st S S' := by
  have g3 := h.2.2.1
  unfold f_X3_order
  rw [nI_1]
  by_cases q : z = 0
  · subst q
    refine ⟨S, ?_, h, cFr.rf⟩
    have q : (f + 0 ≤ f + 1) = True := eq_true (by omega)
    show f_X3_order_L5 st (4999 + 1) S _ _ _ _ = _
    rw [f_X3_order_L5, nI_add]
    simp (disch := omega) only [nI_leI, q, if_true]
  · exact f_ordL (z - 1) (f + 1) S L gN h hz (by omega) (by simp only [gN]; omega)
/-! looking for a number -/
def fIdx (q : Tr → Bool) : List Tr → Nat → Int32
  | [], _ => -1
  | t :: l, i => if q t = true then nI i else fIdx q l (i + 1)
theorem f_poNL {S : GS} {st : Nat} {L : List Tr} {x : Int32} (h : cSt S st L) : ∀ (l : List Tr) (i n : Nat), L.drop i = l → l.length < n → i ≤ L.length → f_X3_placeOfNumber_L2 S st n x (nI i) = some (fIdx (fun t => t.1 == x) l i) := by
  have g3 := h.2.2.1
  intro l
  induction l with
  | nil =>
    intro i n h1 h2 h4
    obtain ⟨n, rfl⟩ : ∃ k, n = k + 1 := ⟨n - 1, by omega⟩
    have q : (L.length ≤ i) = True := eq_true (gd_nil h1)
    rw [f_X3_placeOfNumber_L2]
    simp (disch := omega) only [gfI_at h.1.1, h.2.1, Option.bind_some, nI_leI, q, if_true, fIdx]
  | cons t l ih =>
    intro i n h1 h2 h4
    obtain ⟨n, rfl⟩ : ∃ k, n = k + 1 := ⟨n - 1, by omega⟩
    obtain ⟨a1, a2, a3⟩ := gd_cons h1
    have q : (L.length ≤ i) = False := eq_false (by omega)
    rw [f_X3_placeOfNumber_L2]
    simp (disch := omega) only [gfI_at h.1.1, h.2.1, Option.bind_some, nI_leI, q, if_false, h.1.1, beq_self_eq_true, gck_t, f_numberIn h a1, a2, fIdx, beq_iff_eq, nI_1]
    by_cases e : t.1 = x
    · rw [if_pos e, if_pos e]
    · rw [if_neg e, if_neg e]
      exact ih (i + 1) n a3 (by simp only [List.length_cons] at h2; omega) (by omega)
theorem f_poN {S : GS} {st : Nat} {L : List Tr} {x : Int32} (h : cSt S st L) : f_X3_placeOfNumber S st x = some (fIdx (fun t => t.1 == x) L 0) := by
  have g3 := h.2.2.1
  unfold f_X3_placeOfNumber
  rw [n_0]
  exact f_poNL h L 0 gN rfl (by simp only [gN]; omega) (by omega)
/-- where a number enters a row -/
def pEn (x : Int32) (L : List Tr) : Nat → Nat
  | 0 => 0
  | p + 1 => if x < (L.getD p tz).1 then pEn x L p else p + 1
theorem f_pEnL {S : GS} {st : Nat} {L : List Tr} {x : Int32} (h : cSt S st L) (h3 : gI S st 3 = 1) : ∀ (p n : Nat), p ≤ L.length → p < n → f_X3_placeToEnter_L5 S st n x (nI p) = some (nI (pEn x L p)) := by
  have g3 := h.2.2.1
  intro p
  induction p with
  | zero =>
    intro n h1 h2
    obtain ⟨n, rfl⟩ : ∃ k, n = k + 1 := ⟨n - 1, by omega⟩
    have e1 : ((1 : Int32) = 0) = False := by decide
    have e2 : (nI 0 ≤ (0 : Int32)) = True := by decide
    rw [f_X3_placeToEnter_L5]
    simp only [gfI_at h.1.1, h3, Option.bind_some, e1, if_false, e2, if_true, f_X3_placeToEnter_b33, pEn]
  | succ p ih =>
    intro n h1 h2
    obtain ⟨n, rfl⟩ : ∃ k, n = k + 1 := ⟨n - 1, by omega⟩
    have e1 : ((1 : Int32) = 0) = False := by decide
    have e2 : (nI (p + 1) ≤ (0 : Int32)) = False := eq_false (nI_nle (by omega) (by omega))
    rw [f_X3_placeToEnter_L5, nI_pred, pk_m1]
    simp only [gfI_at h.1.1, h3, Option.bind_some, e1, if_false, e2, h.1.1, beq_self_eq_true, gck_t, f_numberIn h (show p < L.length by omega), f_X3_placeToEnter_b33, pEn]
    by_cases e : x < (L.getD p tz).1
    · rw [if_pos e, if_neg (Int32.not_le.mpr e)]
      exact ih n (by omega) (by omega)
    · rw [if_neg e, if_pos (Int32.not_lt.mp e)]
theorem f_pEn1 {S : GS} {st : Nat} {L : List Tr} {x : Int32} (h : cSt S st L) (h3 : gI S st 3 = 1) : f_X3_placeToEnter S st x = some (nI (pEn x L L.length)) := by
  have g3 := h.2.2.1
  unfold f_X3_placeToEnter
  rw [gfI_at h.1.1, h.2.1, Option.bind_some]
  exact f_pEnL h h3 L.length gN (by omega) (by simp only [gN]; omega)
theorem f_pEn0 {S : GS} {st : Nat} {L : List Tr} {x : Int32} (h : cSt S st L) (h3 : gI S st 3 = 0) : f_X3_placeToEnter S st x = some (nI L.length) := by
  unfold f_X3_placeToEnter
  rw [gfI_at h.1.1, h.2.1, Option.bind_some]
  show f_X3_placeToEnter_L5 S st (4999 + 1) _ _ = _
  rw [f_X3_placeToEnter_L5]
  simp only [gfI_at h.1.1, h3, Option.bind_some, if_true, f_X3_placeToEnter_b33]
