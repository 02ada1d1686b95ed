def hL (c : Int32) (t : Tr) : Int32 := 31 * c + hsh t
def hK (c : Int32) (t : Tr) : Int32 := c + t.1
def hM (c : Int32) (t : Tr) : Int32 := c + (t.1 ^^^ hsh t)
theorem f_lHashL {S : GS} {a : Nat} {kd : Int32} {L : List Tr} (h : cVw S a kd L) : ∀ (l : List Tr) (i n : Nat) (c : Int32), L.drop i = l → l.length < n → i ≤ L.length → f_X1_listHash_L4 S a n c (nI i) = some (l.foldl hL c) := by
  have g3 := h.2.2.1
  intro l
  induction l with
  | nil =>
    intro i n c h1 h2 h4
    obtain ⟨n, rfl⟩ : ∃ k, n = k + 1 := ⟨n - 1, by omega⟩
    have q : (L.length ≤ i) = True := eq_true (gd_nil h1)
    rw [f_X1_listHash_L4]
    simp (disch := omega) only [h.1, beq_self_eq_true, gck_t, h.2.2.2.1, Option.bind_some, nI_leI, q, if_true, List.foldl_nil]
  | cons t l ih =>
    intro i n c h1 h2 h4
    obtain ⟨n, rfl⟩ : ∃ k, n = k + 1 := ⟨n - 1, by omega⟩
    obtain ⟨a1, a2, a3⟩ := gd_cons h1
    obtain ⟨b1, b2, b3⟩ := h.2.2.2.2 i a1
    have b4 := f_hashOf h a1
    rw [a2] at b1 b2 b3 b4
    have q : (L.length ≤ i) = False := eq_false (by omega)
    rw [f_X1_listHash_L4]
    simp (disch := omega) only [h.1, beq_self_eq_true, gck_t, h.2.2.2.1, Option.bind_some, nI_leI, q, if_false, b1, b2, b3, b4, nI_1, List.foldl_cons]
    exact ih (i + 1) n _ a3 (by simp only [List.length_cons] at h2; omega) (by omega)
theorem f_lHash {S : GS} {a : Nat} {kd : Int32} {L : List Tr} (h : cVw S a kd L) : f_X1_listHash S a = some (L.foldl hL 1) := by
  have g3 := h.2.2.1
  unfold f_X1_listHash
  have := f_lHashL h L 0 gN 1 rfl (by simp only [gN]; omega) (by omega)
  rw [nI_0] at this
  exact this
theorem f_kHashL {S : GS} {a : Nat} {kd : Int32} {L : List Tr} (h : cVw S a kd L) : ∀ (l : List Tr) (i n : Nat) (c : Int32), L.drop i = l → l.length < n → i ≤ L.length → f_X1_keysHash_L4 S a n c (nI i) = some (l.foldl hK c) := by
  have g3 := h.2.2.1
  intro l
  induction l with
  | nil =>
    intro i n c h1 h2 h4
    obtain ⟨n, rfl⟩ : ∃ k, n = k + 1 := ⟨n - 1, by omega⟩
    have q : (L.length ≤ i) = True := eq_true (gd_nil h1)
    rw [f_X1_keysHash_L4]
    simp (disch := omega) only [h.1, beq_self_eq_true, gck_t, h.2.2.2.1, Option.bind_some, nI_leI, q, if_true, List.foldl_nil]
  | cons t l ih =>
    intro i n c h1 h2 h4
    obtain ⟨n, rfl⟩ : ∃ k, n = k + 1 := ⟨n - 1, by omega⟩
    obtain ⟨a1, a2, a3⟩ := gd_cons h1
    obtain ⟨b1, b2, b3⟩ := h.2.2.2.2 i a1
    have b4 := f_hashOf h a1
    rw [a2] at b1 b2 b3 b4
    have q : (L.length ≤ i) = False := eq_false (by omega)
    rw [f_X1_keysHash_L4]
    simp (disch := omega) only [h.1, beq_self_eq_true, gck_t, h.2.2.2.1, Option.bind_some, nI_leI, q, if_false, b1, b2, b3, b4, nI_1, List.foldl_cons]
    exact ih (i + 1) n _ a3 (by simp only [List.length_cons] at h2; omega) (by omega)
theorem f_kHash {S : GS} {a : Nat} {kd : Int32} {L : List Tr} (h : cVw S a kd L) : f_X1_keysHash S a = some (L.foldl hK 0) := by
  have g3 := h.2.2.1
  unfold f_X1_keysHash
  have := f_kHashL h L 0 gN 0 rfl (by simp only [gN]; omega) (by omega)
  rw [nI_0] at this
  exact this
theorem f_mHashL {S : GS} {a : Nat} {kd : Int32} {L : List Tr} (h : cVw S a kd L) : ∀ (l : List Tr) (i n : Nat) (c : Int32), L.drop i = l → l.length < n → i ≤ L.length → f_X1_mapHash_L4 S a n c (nI i) = some (l.foldl hM c) := by
  have g3 := h.2.2.1
  intro l
  induction l with
  | nil =>
    intro i n c h1 h2 h4
    obtain ⟨n, rfl⟩ : ∃ k, n = k + 1 := ⟨n - 1, by omega⟩
    have q : (L.length ≤ i) = True := eq_true (gd_nil h1)
    rw [f_X1_mapHash_L4]
    simp (disch := omega) only [h.1, beq_self_eq_true, gck_t, h.2.2.2.1, Option.bind_some, nI_leI, q, if_true, List.foldl_nil]
  | cons t l ih =>
    intro i n c h1 h2 h4
    obtain ⟨n, rfl⟩ : ∃ k, n = k + 1 := ⟨n - 1, by omega⟩
    obtain ⟨a1, a2, a3⟩ := gd_cons h1
    obtain ⟨b1, b2, b3⟩ := h.2.2.2.2 i a1
    have b4 := f_hashOf h a1
    rw [a2] at b1 b2 b3 b4
    have q : (L.length ≤ i) = False := eq_false (by omega)
    rw [f_X1_mapHash_L4]
    simp (disch := omega) only [h.1, beq_self_eq_true, gck_t, h.2.2.2.1, Option.bind_some, nI_leI, q, if_false, b1, b2, b3, b4, nI_1, List.foldl_cons]
    exact ih (i + 1) n _ a3 (by simp only [List.length_cons] at h2; omega) (by omega)
theorem f_mHash {S : GS} {a : Nat} {kd : Int32} {L : List Tr} (h : cVw S a kd L) : f_X1_mapHash S a = some (L.foldl hM 0) := by
  have g3 := h.2.2.1
  unfold f_X1_mapHash
  have := f_mHashL h L 0 gN 0 rfl (by simp only [gN]; omega) (by omega)
  rw [nI_0] at this
  exact this
/-- the walk's sum, a thing more -/
def wst (kd : Int32) (s : Int64) (t : Tr) : Int64 := if kd = 107 then 31 * s + t.1.toInt64 else if kMp kd = true then 31 * (31 * s + t.1.toInt64) + (hsh t).toInt64 else 31 * s + (hsh t).toInt64
theorem f_walk1 {S : GS} {a i : Nat} {kd w many step : Int32} {s : Int64} {L : List Tr} {k9 : Int64 → Int32 → Int32 → Int32 → Option Int64} (h : cVw S a kd L) (hi : i < L.length) : f_X1_addAllTo_b32 k9 S a s w many step (nI i) = k9 (wst kd s (L.getD i tz)) w many (step + 1) := by
  obtain ⟨b1, b2, b3⟩ := h.2.2.2.2 i hi
  have b4 := f_hashOf h hi
  simp only [f_X1_addAllTo_b32, f_X1_addAllTo_b50, f_X1_addAllTo_b64, f_X1_addAllTo_b87, h.1, beq_self_eq_true, gck_t, f_isMap h.1 h.2.1, gfI_at h.1, h.2.1, Option.bind_some, b2i_0, b3, b4]
  unfold wst
  by_cases e : kd = 107
  · subst e
    have e2 : kMp 107 = false := by decide
    simp only [e2, if_true]
  · cases e2 : kMp kd
    · simp only [e, if_true, if_false, Bool.false_eq_true]
    · simp only [e, if_true, if_false, Bool.true_eq_false]
theorem f_walkL0 {S : GS} {a : Nat} {kd : Int32} {L : List Tr} (h : cVw S a kd L) : ∀ (l : List Tr) (i n : Nat) (s : Int64), L.drop i = l → l.length < n → i ≤ L.length → f_X1_addAllTo_L9 S a n s 0 (nI L.length) (nI i) = some (l.foldl (wst kd) s) := by
  have g3 := h.2.2.1
  intro l
  induction l with
  | nil =>
    intro i n c h1 h2 h4
    obtain ⟨n, rfl⟩ : ∃ k, n = k + 1 := ⟨n - 1, by omega⟩
    have q : (L.length ≤ i) = True := eq_true (gd_nil h1)
    rw [f_X1_addAllTo_L9]
    simp (disch := omega) only [nI_leI, q, if_true, List.foldl_nil]
  | cons t l ih =>
    intro i n c h1 h2 h4
    obtain ⟨n, rfl⟩ : ∃ k, n = k + 1 := ⟨n - 1, by omega⟩
    obtain ⟨a1, a2, a3⟩ := gd_cons h1
    have q : (L.length ≤ i) = False := eq_false (by omega)
    rw [f_X1_addAllTo_L9]
    simp (disch := omega) only [nI_leI, q, if_false, if_true, f_walk1 h a1, a2, nI_1, List.foldl_cons]
    exact ih (i + 1) n _ a3 (by simp only [List.length_cons] at h2; omega) (by omega)
theorem f_walkL1 {S : GS} {a : Nat} {kd w : Int32} {L : List Tr} (h : cVw S a kd L) (hw : ¬ w = 0) : ∀ (l : List Tr) (i n : Nat) (s : Int64), L.reverse.drop i = l → l.length < n → i ≤ L.length → f_X1_addAllTo_L9 S a n s w (nI L.length) (nI i) = some (l.foldl (wst kd) s) := by
  have g3 := h.2.2.1
  intro l
  induction l with
  | nil =>
    intro i n c h1 h2 h4
    obtain ⟨n, rfl⟩ : ∃ k, n = k + 1 := ⟨n - 1, by omega⟩
    have q : (L.length ≤ i) = True := eq_true (by have := gd_nil h1; rw [List.length_reverse] at this; exact this)
    rw [f_X1_addAllTo_L9]
    simp (disch := omega) only [nI_leI, q, if_true, List.foldl_nil]
  | cons t l ih =>
    intro i n c h1 h2 h4
    obtain ⟨n, rfl⟩ : ∃ k, n = k + 1 := ⟨n - 1, by omega⟩
    obtain ⟨a1, a2, a3⟩ := gd_cons h1
    rw [List.length_reverse] at a1
    rw [gd_rev a1] at a2
    have q : (L.length ≤ i) = False := eq_false (by omega)
    have e1 : nI L.length - 1 - nI i = nI (L.length - 1 - i) := by rw [n_1, pk_sub (by omega), pk_sub (by omega)]
    rw [f_X1_addAllTo_L9]
    simp (disch := omega) only [nI_leI, q, if_false, hw, e1, f_walk1 h (show L.length - 1 - i < L.length by omega), a2, nI_1, List.foldl_cons]
    exact ih (i + 1) n _ a3 (by simp only [List.length_cons] at h2; omega) (by omega)
def wlk (kd : Int32) (s : Int64) (w : Int32) (L : List Tr) : Int64 := if w = 0 then L.foldl (wst kd) s else L.reverse.foldl (wst kd) s
theorem f_addAll {S : GS} {a : Nat} {kd w : Int32} {s : Int64} {L : List Tr} (h : cVw S a kd L) : f_X1_addAllTo S a s w = some (wlk kd s w L) := by
  have g3 := h.2.2.1
  unfold f_X1_addAllTo wlk
  simp only [h.1, beq_self_eq_true, gck_t, h.2.2.2.1, Option.bind_some]
  by_cases hw : w = 0
  · rw [if_pos hw, hw]
    have := f_walkL0 h L 0 gN s rfl (by simp only [gN]; omega) (by omega)
    rw [nI_0] at this
    exact this
  · rw [if_neg hw]
    have := f_walkL1 h hw L.reverse 0 gN s rfl (by rw [List.length_reverse]; simp only [gN]; omega) (by omega)
    rw [nI_0] at this
    exact this
/-- the things of the second stand at the head of the first -/
def alk : List Tr → List Tr → Bool
  | _, [] => true
  | [], _ :: _ => false
  | t :: l, u :: m => if isT u.2.1 u.2.2 t = true then alk l m else false
theorem f_standsL {S : GS} {a b p : Nat} {kd ke : Int32} {L M : List Tr} (h : cVw S a kd L) (g : cVw S b ke M) (hp : p + M.length ≤ L.length) : ∀ (m : List Tr) (i n : Nat), M.drop i = m → m.length < n → i ≤ M.length → f_X1_standsAt_L2 S a n (nI p) (some b) (nI i) = some (b2i (alk (L.drop (p + i)) m)) := by
  have g3 := h.2.2.1
  intro l
  induction l with
  | nil =>
    intro i n h1 h2 h4
    obtain ⟨n, rfl⟩ : ∃ k, n = k + 1 := ⟨n - 1, by omega⟩
    have q : (M.length ≤ i) = True := eq_true (gd_nil h1)
    rw [f_X1_standsAt_L2]
    simp (disch := omega) only [gtk_at g.1, g.2.2.2.1, Option.bind_some, nI_leI, q, if_true, alk, b2i]
  | cons t l ih =>
    intro i n h1 h2 h4
    obtain ⟨n, rfl⟩ : ∃ k, n = k + 1 := ⟨n - 1, by omega⟩
    obtain ⟨a1, a2, a3⟩ := gd_cons h1
    have q : (M.length ≤ i) = False := eq_false (by omega)
    have e0 : L.drop (p + i) = L.getD (p + i) tz :: L.drop (p + (i + 1)) := by
      rw [List.drop_eq_getElem_cons (by omega), gd_eq, List.getElem?_eq_getElem (by omega)]
      rfl
    rw [f_X1_standsAt_L2]
    simp (disch := omega) only [gtk_at g.1, g.2.2.2.1, Option.bind_some, nI_leI, q, if_false, h.1, beq_self_eq_true, gck_t, nI_add, f_alike h g (show p + i < L.length by omega) a1, a2, b2i_0, e0, alk, nI_1]
    cases e : isT t.2.1 t.2.2 (L.getD (p + i) tz)
    · simp [b2i]
    · simp only [Bool.true_eq_false, if_false, if_true]
      exact ih (i + 1) n a3 (by simp only [List.length_cons] at h2; omega) (by omega)
theorem f_stands {S : GS} {a b p : Nat} {kd ke : Int32} {L M : List Tr} (h : cVw S a kd L) (g : cVw S b ke M) (hp : p + M.length ≤ L.length) : f_X1_standsAt S a (nI p) (some b) = some (b2i (alk (L.drop p) M)) := by
  have g3 := g.2.2.1
  unfold f_X1_standsAt
  rw [n_0]
  exact f_standsL h g hp M 0 gN rfl (by simp only [gN]; omega) (by omega)
def lik (L M : List Tr) : Bool := decide (L.length = M.length) && alk L M
theorem f_listLike {S : GS} {a b : Nat} {kd ke : Int32} {L M : List Tr} (h : cVw S a kd L) (g : cVw S b ke M) : f_X1_isListLike S a (some b) = some (b2i (lik L M)) := by
  have g3 := g.2.2.1
  have g4 := h.2.2.1
  unfold f_X1_isListLike lik
  simp (disch := omega) only [h.1, beq_self_eq_true, gck_t, h.2.2.2.1, gtk_at g.1, g.2.2.2.1, Option.bind_some, nI_eq]
  by_cases e : L.length = M.length
  · rw [if_pos e, n_0, f_stands h g (by omega)]
    simp only [Option.bind_some, List.drop_zero, e, decide_true, Bool.true_and]
    cases alk L M <;> decide
  · rw [if_neg e]; simp [e, b2i]
def nLk (M : List Tr) (l : List Tr) : Bool := l.all fun t => decide (0 ≤ fIdx (fun u => u.1 == t.1) M 0)
theorem fIdx_ge (q : Tr → Bool) : ∀ (l : List Tr) (i : Nat), i + l.length < 2 ^ 31 → fIdx q l i = -1 ∨ ∃ j, i ≤ j ∧ j < i + l.length ∧ fIdx q l i = nI j := by
  intro l
  induction l with
  | nil => intro i _; exact Or.inl rfl
  | cons t l ih =>
    intro i hi
    simp only [List.length_cons] at hi ⊢
    unfold fIdx
    by_cases h : q t = true
    · rw [if_pos h]; exact Or.inr ⟨i, by omega, by omega, rfl⟩
    · rw [if_neg h]
      rcases ih (i + 1) (by omega) with e | ⟨j, h1, h2, h3⟩
      · exact Or.inl e
      · exact Or.inr ⟨j, by omega, by omega, h3⟩
theorem f_nLkL {S : GS} {a b : Nat} {kd ke : Int32} {L M : List Tr} (h : cVw S a kd L) (g : cVw S b ke M) (hf : ∀ x, f_X1_findNumber S b x = some (fIdx (fun t => t.1 == x) M 0)) : ∀ (l : List Tr) (i n : Nat), L.drop i = l → l.length < n → i ≤ L.length → f_X1_hasNumbersLike_L2 S a n (some b) (nI i) = some (b2i (nLk M l && decide (L.length = M.length))) := by
  have g3 := h.2.2.1
  have g4 := g.2.2.1
  intro l
  induction l with
  | nil =>
    intro i n h1 h2 h4
    obtain ⟨n, rfl⟩ : ∃ k, n = k + 1 := ⟨n - 1, by omega⟩
    have q : (L.length ≤ i) = True := eq_true (gd_nil h1)
    rw [f_X1_hasNumbersLike_L2]
    simp (disch := omega) only [h.1, beq_self_eq_true, gck_t, h.2.2.2.1, gtk_at g.1, g.2.2.2.1, Option.bind_some, nI_leI, q, if_true, nI_eq]
    by_cases e : L.length = M.length
    · rw [if_pos e]; simp [nLk, e, b2i]
    · rw [if_neg e]; simp [nLk, e, b2i]
  | cons t l ih =>
    intro i n h1 h2 h4
    obtain ⟨n, rfl⟩ : ∃ k, n = k + 1 := ⟨n - 1, by omega⟩
    obtain ⟨a1, a2, a3⟩ := gd_cons h1
    obtain ⟨b1, b2, b3⟩ := h.2.2.2.2 i a1
    rw [a2] at b3
    have q : (L.length ≤ i) = False := eq_false (by omega)
    rw [f_X1_hasNumbersLike_L2]
    simp (disch := omega) only [h.1, beq_self_eq_true, gck_t, h.2.2.2.1, gtk_at g.1, Option.bind_some, nI_leI, q, if_false, b3, hf, nI_1]
    by_cases e : 0 ≤ fIdx (fun u => u.1 == t.1) M 0
    · rw [if_pos e, ih (i + 1) n a3 (by simp only [List.length_cons] at h2; omega) (by omega)]
      simp [nLk, e]
    · rw [if_neg e]
      simp [nLk, e, b2i]
theorem f_numsLike {S : GS} {a b : Nat} {kd ke : Int32} {L M : List Tr} (h : cVw S a kd L) (g : cVw S b ke M) (hf : ∀ x, f_X1_findNumber S b x = some (fIdx (fun t => t.1 == x) M 0)) : f_X1_hasNumbersLike S a (some b) = some (b2i (nLk M L && decide (L.length = M.length))) := by
  have g3 := h.2.2.1
  unfold f_X1_hasNumbersLike
  rw [n_0]
  exact f_nLkL h g hf L 0 gN rfl (by simp only [gN]; omega) (by omega)
/-- a thing with this number stands in M, and is alike -/
def mL1 (M : List Tr) (t : Tr) : Bool := match M.find? (fun u => u.1 == t.1) with
  | some u => isT u.2.1 u.2.2 t
  | none => false
def mLk (M : List Tr) (l : List Tr) : Bool := l.all (mL1 M)
theorem fIdx_find (q : Tr → Bool) {M : List Tr} : ∀ (l : List Tr) (i : Nat), M.drop i = l → (l.find? q = none ∧ fIdx q l i = -1) ∨ ∃ j, j < M.length ∧ fIdx q l i = nI j ∧ l.find? q = some (M.getD j tz) := by
  intro l
  induction l with
  | nil => intro i _; exact Or.inl ⟨rfl, rfl⟩
  | cons t l ih =>
    intro i hi
    obtain ⟨a1, a2, a3⟩ := gd_cons hi
    unfold fIdx
    by_cases h : q t = true
    · rw [if_pos h]; exact Or.inr ⟨i, a1, rfl, by rw [List.find?_cons_of_pos h, a2]⟩
    · rw [if_neg h, List.find?_cons_of_neg h]
      exact ih (i + 1) a3
theorem f_mLkL {S : GS} {a b : Nat} {kd ke : Int32} {L M : List Tr} (h : cVw S a kd L) (g : cVw S b ke M) (hf : ∀ x, f_X1_findNumber S b x = some (fIdx (fun t => t.1 == x) M 0)) : ∀ (l : List Tr) (i n : Nat), L.drop i = l → l.length < n → i ≤ L.length → f_X1_isMapLike_L2 S a n (some b) (nI i) = some (b2i (mLk M l && decide (L.length = M.length))) := by
  have g3 := h.2.2.1
  have g4 := g.2.2.1
  intro l
  induction l with
  | nil =>
    intro i n h1 h2 h4
    obtain ⟨n, rfl⟩ : ∃ k, n = k + 1 := ⟨n - 1, by omega⟩
    have q : (L.length ≤ i) = True := eq_true (gd_nil h1)
    rw [f_X1_isMapLike_L2]
    simp (disch := omega) only [h.1, beq_self_eq_true, gck_t, h.2.2.2.1, gtk_at g.1, g.2.2.2.1, Option.bind_some, nI_leI, q, if_true, nI_eq]
    by_cases e : L.length = M.length
    · rw [if_pos e]; simp [mLk, e, b2i]
    · rw [if_neg e]; simp [mLk, e, b2i]
  | cons t l ih =>
    intro i n h1 h2 h4
    obtain ⟨n, rfl⟩ : ∃ k, n = k + 1 := ⟨n - 1, by omega⟩
    obtain ⟨a1, a2, a3⟩ := gd_cons h1
    obtain ⟨b1, b2, b3⟩ := h.2.2.2.2 i a1
    rw [a2] at b3
    have q : (L.length ≤ i) = False := eq_false (by omega)
    rw [f_X1_isMapLike_L2]
    simp (disch := omega) only [h.1, beq_self_eq_true, gck_t, h.2.2.2.1, gtk_at g.1, Option.bind_some, nI_leI, q, if_false, b3, hf, nI_1]
    rcases fIdx_find (fun u => u.1 == t.1) (M := M) M 0 rfl with ⟨e1, e2⟩ | ⟨j, e0, e1, e2⟩
    · have e3 : ((-1 : Int32) < 0) = True := by decide
      rw [e2]
      simp only [e3, if_true]
      simp [mLk, mL1, e1, b2i]
    · rw [e1]
      simp (disch := omega) only [n_lt0, if_false, f_alike h g a1 e0, a2, Option.bind_some, b2i_0]
      cases e4 : isT (M.getD j tz).2.1 (M.getD j tz).2.2 t
      · simp only [if_true]
        have : mL1 M t = false := by unfold mL1; rw [e2]; exact e4
        simp [mLk, this, b2i]
      · simp only [Bool.true_eq_false, if_false]
        have : mL1 M t = true := by unfold mL1; rw [e2]; exact e4
        rw [ih (i + 1) n a3 (by simp only [List.length_cons] at h2; omega) (by omega)]
        simp [mLk, this]
theorem f_mapLike {S : GS} {a b : Nat} {kd ke : Int32} {L M : List Tr} (h : cVw S a kd L) (g : cVw S b ke M) (hf : ∀ x, f_X1_findNumber S b x = some (fIdx (fun t => t.1 == x) M 0)) : f_X1_isMapLike S a (some b) = some (b2i (mLk M L && decide (L.length = M.length))) := by
  have g3 := h.2.2.1
  unfold f_X1_isMapLike
  rw [n_0]
  exact f_mLkL h g hf L 0 gN rfl (by simp only [gN]; omega) (by omega)
