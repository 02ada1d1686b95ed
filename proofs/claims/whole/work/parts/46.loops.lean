/-! what the class asks of the things it sees through a pane -/
def isT (x y : Int32) (t : Tr) : Bool := t.2.1 == x && t.2.2 == y
def hsh (t : Tr) : Int32 := 31 * t.2.1 + t.2.2
theorem isT_if (x y k m : Int32) : (if k = x then (if m = y then some (1 : Int32) else some 0) else some 0) = some (b2i (k == x && m == y)) := by
  by_cases a1 : k = x
  · by_cases a2 : m = y <;> simp [a1, a2, b2i]
  · simp [a1, b2i]
theorem f_isThing {S : GS} {a i : Nat} {kd x y : Int32} {L : List Tr} (h : cVw S a kd L) (hi : i < L.length) : f_X1_isThing S a (nI i) x y = some (b2i (isT x y (L.getD i tz))) := by
  obtain ⟨h1, h2, h3, h4, h5⟩ := h
  obtain ⟨g1, g2, g3⟩ := h5 i hi
  simp only [f_X1_isThing, h1, beq_self_eq_true, gck_t, g1, g2, Option.bind_some]
  exact isT_if ..
theorem f_hashOf {S : GS} {a i : Nat} {kd : Int32} {L : List Tr} (h : cVw S a kd L) (hi : i < L.length) : f_X1_hashOf S a (nI i) = some (hsh (L.getD i tz)) := by
  obtain ⟨h1, h2, h3, h4, h5⟩ := h
  obtain ⟨g1, g2, g3⟩ := h5 i hi
  simp only [f_X1_hashOf, h1, beq_self_eq_true, gck_t, g1, g2, Option.bind_some, hsh]
theorem f_alike {S : GS} {a b i j : Nat} {kd ke : Int32} {L M : List Tr} (h : cVw S a kd L) (g : cVw S b ke M) (hi : i < L.length) (hj : j < M.length) : f_X1_isAlike S a (nI i) (some b) (nI j) = some (b2i (isT (M.getD j tz).2.1 (M.getD j tz).2.2 (L.getD i tz))) := by
  obtain ⟨h1, h2, h3, h4, h5⟩ := h
  obtain ⟨i1, i2, i3, i4, i5⟩ := g
  obtain ⟨g1, g2, g3⟩ := h5 i hi
  obtain ⟨j1, j2, j3⟩ := i5 j hj
  simp only [f_X1_isAlike, h1, beq_self_eq_true, gck_t, g1, g2, gtk_at i1, j1, j2, Option.bind_some]
  exact isT_if ..
/-- the last one -/
def lIdx (q : Tr → Bool) (L : List Tr) : Nat → Int32
  | 0 => -1
  | n + 1 => if q (L.getD n tz) = true then nI n else lIdx q L n
theorem f_findL0 {S : GS} {a : Nat} {kd x y : Int32} {L : List Tr} (h : cVw S a kd L) : ∀ (l : List Tr) (i n : Nat), L.drop i = l → l.length < n → i ≤ L.length → f_X1_find_L9 S a n x y 0 (nI L.length) (nI i) = some (fIdx (isT x y) l i) := by
  have g3 := h.2.2.1
  intro l
  induction l with
  | nil =>
    intro i n h1 h2 h4
    obtain ⟨n, rfl⟩ : ∃ k, n = k + 1 := ⟨n - 1, by omega⟩
    have q : (L.length ≤ i) = True := eq_true (gd_nil h1)
    rw [f_X1_find_L9]
    simp (disch := omega) only [nI_leI, q, if_true, fIdx]
  | cons t l ih =>
    intro i n h1 h2 h4
    obtain ⟨n, rfl⟩ : ∃ k, n = k + 1 := ⟨n - 1, by omega⟩
    obtain ⟨a1, a2, a3⟩ := gd_cons h1
    have q : (L.length ≤ i) = False := eq_false (by omega)
    rw [f_X1_find_L9]
    simp (disch := omega) only [nI_leI, q, if_false, if_true, f_X1_find_b32, h.1, beq_self_eq_true, gck_t, f_isThing h a1, a2, Option.bind_some, b2i_0, fIdx, nI_1]
    cases e : isT x y t
    · simp only [if_true, Bool.false_eq_true, if_false]
      exact ih (i + 1) n a3 (by simp only [List.length_cons] at h2; omega) (by omega)
    · simp
theorem f_findL1 {S : GS} {a : Nat} {kd x y w : Int32} {L : List Tr} (h : cVw S a kd L) (hw : ¬ w = 0) : ∀ (d i n : Nat), i + d = L.length → d < n → f_X1_find_L9 S a n x y w (nI L.length) (nI i) = some (lIdx (isT x y) L d) := by
  have g3 := h.2.2.1
  intro d
  induction d with
  | zero =>
    intro i n h1 h2
    obtain ⟨n, rfl⟩ : ∃ k, n = k + 1 := ⟨n - 1, by omega⟩
    have q : (L.length ≤ i) = True := eq_true (by omega)
    rw [f_X1_find_L9]
    simp (disch := omega) only [nI_leI, q, if_true, lIdx]
  | succ d ih =>
    intro i n h1 h2
    obtain ⟨n, rfl⟩ : ∃ k, n = k + 1 := ⟨n - 1, by omega⟩
    have q : (L.length ≤ i) = False := eq_false (by omega)
    have e1 : nI L.length - 1 - nI i = nI d := by rw [n_1, pk_sub (by omega), pk_sub (by omega)]; exact congrArg nI (by omega)
    rw [f_X1_find_L9]
    simp (disch := omega) only [nI_leI, q, if_false, hw, f_X1_find_b32, h.1, beq_self_eq_true, gck_t, e1, f_isThing h (show d < L.length by omega), Option.bind_some, b2i_0, lIdx, nI_1]
    cases e : isT x y (L.getD d tz)
    · simp only [if_true, Bool.false_eq_true, if_false]
      exact ih (i + 1) n (by omega) (by omega)
    · simp
def fnd (x y : Int32) (L : List Tr) (w : Int32) : Int32 := if w = 0 then fIdx (isT x y) L 0 else lIdx (isT x y) L L.length
theorem f_find {S : GS} {a : Nat} {kd x y w : Int32} {L : List Tr} (h : cVw S a kd L) : f_X1_find S a x y w = some (fnd x y L w) := by
  have g3 := h.2.2.1
  unfold f_X1_find fnd
  simp only [h.1, beq_self_eq_true, gck_t, h.2.2.2.1, Option.bind_some]
  by_cases hw : w = 0
  · rw [if_pos hw, hw]
    have := f_findL0 (x := x) (y := y) h L 0 gN rfl (by simp only [gN]; omega) (by omega)
    rw [nI_0] at this
    exact this
  · rw [if_neg hw]
    have := f_findL1 (x := x) (y := y) h hw L.length 0 gN (by omega) (by simp only [gN]; omega)
    rw [nI_0] at this
    exact this
def twn (L : List Tr) : List Tr → Nat → Bool
  | [], _ => false
  | t :: l, i => if lIdx (isT t.2.1 t.2.2) L L.length = nI i then twn L l (i + 1) else true
theorem f_twnL {S : GS} {a : Nat} {kd : Int32} {L : List Tr} (h : cVw S a kd L) : ∀ (l : List Tr) (i n : Nat), L.drop i = l → l.length < n → i ≤ L.length → f_X1_hasTwins_L2 S a n (nI i) = some (b2i (twn L l i)) := by
  have g3 := h.2.2.1
  intro l
  induction l with
  | nil =>
    intro i n h1 h2 h4
    obtain ⟨n, rfl⟩ : ∃ k, n = k + 1 := ⟨n - 1, by omega⟩
    have q : (L.length ≤ i) = True := eq_true (gd_nil h1)
    rw [f_X1_hasTwins_L2]
    simp (disch := omega) only [h.1, beq_self_eq_true, gck_t, h.2.2.2.1, Option.bind_some, nI_leI, q, if_true, twn, b2i, Bool.false_eq_true, if_false]
  | cons t l ih =>
    intro i n h1 h2 h4
    obtain ⟨n, rfl⟩ : ∃ k, n = k + 1 := ⟨n - 1, by omega⟩
    obtain ⟨a1, a2, a3⟩ := gd_cons h1
    obtain ⟨b1, b2, b3⟩ := h.2.2.2.2 i a1
    rw [a2] at b1 b2
    have q : (L.length ≤ i) = False := eq_false (by omega)
    have e1 : fnd t.2.1 t.2.2 L 1 = lIdx (isT t.2.1 t.2.2) L L.length := rfl
    rw [f_X1_hasTwins_L2]
    simp (disch := omega) only [h.1, beq_self_eq_true, gck_t, h.2.2.2.1, Option.bind_some, nI_leI, q, if_false, b1, b2, f_find h, e1, twn, nI_1]
    by_cases e : lIdx (isT t.2.1 t.2.2) L L.length = nI i
    · rw [if_pos e, if_pos e]
      exact ih (i + 1) n a3 (by simp only [List.length_cons] at h2; omega) (by omega)
    · rw [if_neg e, if_neg e]; rfl
theorem f_twn {S : GS} {a : Nat} {kd : Int32} {L : List Tr} (h : cVw S a kd L) : f_X1_hasTwins S a = some (b2i (twn L L 0)) := by
  have g3 := h.2.2.1
  unfold f_X1_hasTwins
  rw [n_0]
  exact f_twnL h L 0 gN rfl (by simp only [gN]; omega) (by omega)
def rsg (x : Int32) : List Tr → Bool
  | [] => true
  | t :: l => if x ≤ t.2.1 then rsg t.2.1 l else false
def rsL : List Tr → Bool
  | [] => true
  | t :: l => rsg t.2.1 l
theorem f_rsgL {S : GS} {a : Nat} {kd : Int32} {L : List Tr} (h : cVw S a kd L) : ∀ (l : List Tr) (i n : Nat), L.drop (i + 1) = l → l.length < n → i < L.length → f_X1_hasRisingKeys_L2 S a n (nI (i + 1)) = some (b2i (rsg (L.getD i tz).2.1 l)) := by
  have g3 := h.2.2.1
  intro l
  induction l with
  | nil =>
    intro i n h1 h2 h4
    obtain ⟨n, rfl⟩ : ∃ k, n = k + 1 := ⟨n - 1, by omega⟩
    have q : (L.length ≤ i + 1) = True := eq_true (gd_nil h1)
    rw [f_X1_hasRisingKeys_L2]
    simp (disch := omega) only [h.1, beq_self_eq_true, gck_t, h.2.2.2.1, Option.bind_some, nI_leI, q, if_true, rsg, b2i]
  | cons t l ih =>
    intro i n h1 h2 h4
    obtain ⟨n, rfl⟩ : ∃ k, n = k + 1 := ⟨n - 1, by omega⟩
    obtain ⟨a1, a2, a3⟩ := gd_cons h1
    obtain ⟨b1, b2, b3⟩ := h.2.2.2.2 (i + 1) a1
    obtain ⟨c1, c2, c3⟩ := h.2.2.2.2 i h4
    rw [a2] at b1 b2
    have q : (L.length ≤ i + 1) = False := eq_false (by omega)
    rw [f_X1_hasRisingKeys_L2]
    simp (disch := omega) only [h.1, beq_self_eq_true, gck_t, h.2.2.2.1, Option.bind_some, nI_leI, q, if_false, b1, nI_pred, c1, rsg, nI_1]
    by_cases e : (L.getD i tz).2.1 ≤ t.2.1
    · rw [if_pos e, if_pos e, ← a2]
      exact ih (i + 1) n a3 (by simp only [List.length_cons] at h2; omega) (by omega)
    · rw [if_neg e, if_neg e]; rfl
theorem f_rising {S : GS} {a : Nat} {kd : Int32} {L : List Tr} (h : cVw S a kd L) : f_X1_hasRisingKeys S a = some (b2i (rsL L)) := by
  have g3 := h.2.2.1
  unfold f_X1_hasRisingKeys
  rw [n_1]
  cases hL : L with
  | nil =>
    show f_X1_hasRisingKeys_L2 S a (4999 + 1) _ = _
    rw [f_X1_hasRisingKeys_L2]
    have e0 : L.length = 0 := by rw [hL]; rfl
    simp (disch := omega) only [h.1, beq_self_eq_true, gck_t, h.2.2.2.1, Option.bind_some, nI_leI, e0, Nat.zero_le, if_true, rsL, b2i]
  | cons t l =>
    have e1 : L.getD 0 tz = t := by rw [hL]; rfl
    have e2 : L.drop (0 + 1) = l := by rw [hL]; rfl
    have := f_rsgL h l 0 gN e2 (by rw [hL] at g3; simp only [List.length_cons] at g3; simp only [gN]; omega) (by rw [hL]; simp)
    rw [e1] at this
    exact this
def sKy (x : Int32) : List Tr → Nat → Int32
  | [], i => -1 - nI i
  | t :: l, i => if t.2.1 < x then sKy x l (i + 1) else if t.2.1 = x then 100 else -1 - nI i
theorem f_sKyL {S : GS} {a : Nat} {kd x : Int32} {L : List Tr} (h : cVw S a kd L) : ∀ (l : List Tr) (i n : Nat), L.drop i = l → l.length < n → i ≤ L.length → f_X1_searchKey_L2 S a n x (nI i) = some (sKy x l i) := by
  have g3 := h.2.2.1
  intro l
  induction l with
  | nil =>
    intro i n h1 h2 h4
    obtain ⟨n, rfl⟩ : ∃ k, n = k + 1 := ⟨n - 1, by omega⟩
    have q : (L.length ≤ i) = True := eq_true (gd_nil h1)
    rw [f_X1_searchKey_L2]
    simp (disch := omega) only [h.1, beq_self_eq_true, gck_t, h.2.2.2.1, Option.bind_some, nI_leI, q, if_true, f_X1_searchKey_b25, f_X1_searchKey_b46, f_X1_searchKey_b47, sKy]
  | cons t l ih =>
    intro i n h1 h2 h4
    obtain ⟨n, rfl⟩ : ∃ k, n = k + 1 := ⟨n - 1, by omega⟩
    obtain ⟨a1, a2, a3⟩ := gd_cons h1
    obtain ⟨b1, b2, b3⟩ := h.2.2.2.2 i a1
    rw [a2] at b1 b2
    have q : (L.length ≤ i) = False := eq_false (by omega)
    have e1 : ((1 : Int32) = 0) = False := by decide
    rw [f_X1_searchKey_L2]
    simp (disch := omega) only [h.1, beq_self_eq_true, gck_t, h.2.2.2.1, Option.bind_some, nI_leI, q, if_false, b1, f_X1_searchKey_b25, f_X1_searchKey_b46, f_X1_searchKey_b47, e1, if_true, sKy, nI_1]
    by_cases e : t.2.1 < x
    · rw [if_pos e, if_neg (Int32.not_le.mpr e)]
      exact ih (i + 1) n a3 (by simp only [List.length_cons] at h2; omega) (by omega)
    · rw [if_neg e, if_pos (Int32.not_lt.mp e)]
      by_cases e2 : t.2.1 = x
      · rw [if_pos e2, if_pos e2]
      · rw [if_neg e2, if_neg e2]
theorem f_search {S : GS} {a : Nat} {kd x : Int32} {L : List Tr} (h : cVw S a kd L) : f_X1_searchKey S a x = some (sKy x L 0) := by
  have g3 := h.2.2.1
  unfold f_X1_searchKey
  rw [n_0]
  exact f_sKyL h L 0 gN rfl (by simp only [gN]; omega) (by omega)
theorem f_cKyL {S : GS} {a : Nat} {kd x : Int32} {L : List Tr} (h : cVw S a kd L) : ∀ (l : List Tr) (i n c : Nat), L.drop i = l → l.length < n → i ≤ L.length → f_X1_countKey_L4 S a n x (nI c) (nI i) = some (nI (c + l.countP fun t => t.2.1 == x)) := by
  have g3 := h.2.2.1
  intro l
  induction l with
  | nil =>
    intro i n c h1 h2 h4
    obtain ⟨n, rfl⟩ : ∃ k, n = k + 1 := ⟨n - 1, by omega⟩
    have q : (L.length ≤ i) = True := eq_true (gd_nil h1)
    rw [f_X1_countKey_L4]
    simp (disch := omega) only [h.1, beq_self_eq_true, gck_t, h.2.2.2.1, Option.bind_some, nI_leI, q, if_true, List.countP_nil, Nat.add_zero]
  | cons t l ih =>
    intro i n c h1 h2 h4
    obtain ⟨n, rfl⟩ : ∃ k, n = k + 1 := ⟨n - 1, by omega⟩
    obtain ⟨a1, a2, a3⟩ := gd_cons h1
    obtain ⟨b1, b2, b3⟩ := h.2.2.2.2 i a1
    rw [a2] at b1 b2
    have q : (L.length ≤ i) = False := eq_false (by omega)
    rw [f_X1_countKey_L4]
    simp (disch := omega) only [h.1, beq_self_eq_true, gck_t, h.2.2.2.1, Option.bind_some, nI_leI, q, if_false, b1, f_X1_countKey_b24, nI_1, List.countP_cons, beq_iff_eq]
    by_cases e : t.2.1 = x
    · rw [if_pos e, if_pos e, ih (i + 1) n (c + 1) a3 (by simp only [List.length_cons] at h2; omega) (by omega)]
      exact congrArg (fun q => some (nI q)) (by omega)
    · rw [if_neg e, if_neg e]
      exact ih (i + 1) n c a3 (by simp only [List.length_cons] at h2; omega) (by omega)
def cKy (x : Int32) (L : List Tr) : Nat := L.countP fun t => t.2.1 == x
theorem f_countKey {S : GS} {a : Nat} {kd x : Int32} {L : List Tr} (h : cVw S a kd L) : f_X1_countKey S a x = some (nI (cKy x L)) := by
  have g3 := h.2.2.1
  unfold f_X1_countKey
  have := f_cKyL (x := x) h L 0 gN 0 rfl (by simp only [gN]; omega) (by omega)
  rw [nI_0, Nat.zero_add] at this
  exact this
