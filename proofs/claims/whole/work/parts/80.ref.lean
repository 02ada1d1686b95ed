/-! THE REFERENCE HOLDS THE STATE: m at r, its rows behind it; dq: the five rows of parts, which grow -/
abbrev rFl : List (Nat × Nat) := [(0, 1), (1, 4), (2, 7), (3, 8), (4, 11), (5, 14), (6, 17), (13, 23), (14, 24), (15, 25), (16, 26), (17, 27), (18, 28), (20, 29), (21, 30)]
abbrev rTb : List (Nat × Nat × Nat) := [(2, 11, 24), (3, 11, 24), (5, 11, 24), (6, 11, 24), (7, 11, 2), (9, 11, 24), (10, 11, 24), (12, 11, 24), (13, 11, 24), (15, 11, 24), (16, 11, 24), (17, 11, 2), (23, 13, 12), (24, 11, 12), (25, 11, 12), (26, 11, 12), (27, 11, 12), (28, 12, 12), (29, 11, 72), (30, 11, 72)]
abbrev rOu : List Nat := [1, 4, 8, 11, 14]
def rHd (S : GS) (r : Nat) (dq : Nat → Nat) (cap : Nat) : Prop :=
  gT S r = 6 ∧ (∀ q ∈ rFl, gR S r q.1 = some (r + q.2)) ∧ (∀ q ∈ rTb, gT S (r + q.1) = q.2.1 ∧ gZ S (r + q.1) = q.2.2) ∧ (∀ o ∈ rOu, gT S (r + o) = 15 ∧ gZ S (r + o) = 2 ∧ ∀ j, j < 2 → gR S (r + o) j = some (r + (o + 1 + j))) ∧
  (∀ i, i < 5 → gR S r (7 + i) = some (dq i) ∧ gT S (dq i) = (if i = 4 then 12 else 11) ∧ gZ S (dq i) = cap ∧ ((r + 18 ≤ dq i ∧ dq i ≤ r + 22) ∨ r + 30 < dq i)) ∧ (∀ i j, i < 5 → j < 5 → dq i = dq j → i = j) ∧ cap ≤ 1024
section RHd
variable {S : GS} {r cap : Nat} {dq : Nat → Nat}
theorem rHd.fl (h : rHd S r dq cap) {k o : Nat} (hm : (k, o) ∈ rFl) : gfR S (some r) 6 k = some (some (r + o)) := by
  rw [gfR_at h.1, h.2.1 _ hm]
theorem rHd.fi (h : rHd S r dq cap) {k : Nat} : gfI S (some r) 6 k = some (gI S r k) := gfI_at h.1
theorem rHd.dy (h : rHd S r dq cap) {i : Nat} (hi : i < 5) : gfR S (some r) 6 (7 + i) = some (some (dq i)) := by
  rw [gfR_at h.1, (h.2.2.2.2.1 i hi).1]
theorem rHd.rd (h : rHd S r dq cap) {o t z i : Nat} (hm : (o, t, z) ∈ rTb) (hi : i < z) : gaI S (some (r + o)) t (nI i) = some (gI S (r + o) i) := by
  obtain ⟨h1, h2⟩ := h.2.2.1 _ hm
  have hz : z ≤ 72 := by
    have : ∀ q ∈ rTb, q.2.2 ≤ 72 := by decide
    exact this _ hm
  exact aI h1 (by rw [h2]; exact hi) (by rw [h2]; show z ≤ 4096; omega)
theorem rHd.wr (h : rHd S r dq cap) {o t z i : Nat} {v : Int32} (hm : (o, t, z) ∈ rTb) (hi : i < z) : gsaI S (some (r + o)) t (nI i) v = some (gsI S (r + o) i v) := by
  obtain ⟨h1, h2⟩ := h.2.2.1 _ hm
  have hz : z ≤ 72 := by
    have : ∀ q ∈ rTb, q.2.2 ≤ 72 := by decide
    exact this _ hm
  exact saI h1 (by rw [h2]; exact hi) (by rw [h2]; show z ≤ 4096; omega)
theorem rHd.ou (h : rHd S r dq cap) {o j : Nat} (hm : o ∈ rOu) (hj : j < 2) : gaR S (some (r + o)) 15 (nI j) = some (some (r + (o + 1 + j))) := by
  obtain ⟨h1, h2, h3⟩ := h.2.2.2.1 _ hm
  rw [aR h1 (by rw [h2]; exact hj) (by rw [h2]; omega), h3 j hj]
theorem rHd.rdD (h : rHd S r dq cap) {i p : Nat} (hi : i < 4) (hp : p < cap) : gaI S (some (dq i)) 11 (nI p) = some (gI S (dq i) p) := by
  obtain ⟨h1, h2, h3, h4⟩ := h.2.2.2.2.1 i (by omega)
  have := h.2.2.2.2.2.2
  rw [if_neg (by omega)] at h2
  exact aI h2 (by omega) (by omega)
theorem rHd.rdG (h : rHd S r dq cap) {p : Nat} (hp : p < cap) : gaI S (some (dq 4)) 12 (nI p) = some (gI S (dq 4) p) := by
  obtain ⟨h1, h2, h3, h4⟩ := h.2.2.2.2.1 4 (by omega)
  have := h.2.2.2.2.2.2
  exact aI h2 (by omega) (by omega)
theorem rHd.wrD (h : rHd S r dq cap) {i p : Nat} {v : Int32} (hi : i < 4) (hp : p < cap) : gsaI S (some (dq i)) 11 (nI p) v = some (gsI S (dq i) p v) := by
  obtain ⟨h1, h2, h3, h4⟩ := h.2.2.2.2.1 i (by omega)
  have := h.2.2.2.2.2.2
  rw [if_neg (by omega)] at h2
  exact saI h2 (by omega) (by omega)
theorem rHd.wrG (h : rHd S r dq cap) {p : Nat} {v : Int32} (hp : p < cap) : gsaI S (some (dq 4)) 12 (nI p) v = some (gsI S (dq 4) p v) := by
  obtain ⟨h1, h2, h3, h4⟩ := h.2.2.2.2.1 4 (by omega)
  have := h.2.2.2.2.2.2
  exact saI h2 (by omega) (by omega)
end RHd
/-! the texts -/
def bIx (y : Int32) : List Int32 → Nat → Int32
  | [], _ => -1
  | t :: l, i => if t = y then nI i else bIx y l (i + 1)
theorem bIx_lt {y : Int32} : ∀ (l : List Int32) (i : Nat), i + l.length < 2 ^ 31 → (bIx y l i < 0 ↔ y ∉ l) := by
  intro l
  induction l with
  | nil => intro i _; exact ⟨fun _ => List.not_mem_nil, fun _ => by show (-1 : Int32) < 0; decide⟩
  | cons t l ih =>
    intro i h
    simp only [List.length_cons] at h
    unfold bIx
    by_cases e : t = y
    · rw [if_pos e]
      exact ⟨fun z => absurd z (nI_pos (by omega)), fun z => absurd (by rw [e]; exact List.mem_cons_self) z⟩
    · rw [if_neg e, ih (i + 1) (by omega)]
      simp [Ne.symm e]
theorem tx_all : ∀ k, k < 8 → gLn.getD k 0 = (gBy.getD k []).length ∧ (gBy.getD k []).length < 8 ∧ ∀ b ∈ gBy.getD k [], 0 ≤ b.toInt ∧ b.toInt < 128 := by decide +kernel
theorem byte_id : ∀ n, n < 256 → ∀ m, m < 128 → ((nI n).toInt8.toInt32 = nI m ↔ n = m) := by decide +kernel
theorem f_ixL {S : GS} {k : Nat} {y : Int32} (hk : k < 8) : ∀ (l : List Int32) (i n : Nat), (gBy.getD k []).drop i = l → l.length < n → i ≤ (gBy.getD k []).length → f_J1_indexOfChar_4cfef_L7 S n k (nI (gBy.getD k []).length) y (nI i) = some (bIx y l i) := by
  obtain ⟨t1, t2, t3⟩ := tx_all k hk
  intro l
  induction l with
  | nil =>
    intro i n h1 h2 h3
    obtain ⟨n, rfl⟩ : ∃ k, n = k + 1 := ⟨n - 1, by omega⟩
    have q : ((gBy.getD k []).length ≤ i) = True := eq_true (List.drop_eq_nil_iff.mp h1)
    rw [f_J1_indexOfChar_4cfef_L7]
    simp (disch := omega) only [nI_leI, q, if_true, bIx]
  | cons t l ih =>
    intro i n h1 h2 h3
    obtain ⟨n, rfl⟩ : ∃ k, n = k + 1 := ⟨n - 1, by omega⟩
    have hlt : i < (gBy.getD k []).length := by
      rcases Nat.lt_or_ge i (gBy.getD k []).length with q | q
      · exact q
      · rw [List.drop_eq_nil_of_le q] at h1; cases h1
    have q : ((gBy.getD k []).length ≤ i) = False := eq_false (by omega)
    have hd := List.drop_eq_getElem_cons hlt
    rw [h1] at hd
    injection hd with e1 e2
    have eb : gByt k (nI i) = t := by
      unfold gByt
      rw [nI_clamp (by omega), List.getD_eq_getElem?_getD, List.getElem?_eq_getElem hlt, ← e1]
      rfl
    have hck : (k < 8 ∧ 0 ≤ (nI i).toInt ∧ (nI i).toInt < (gLn.getD k 0 : Int)) := by
      rw [nI_toInt (by omega), t1]
      omega
    rw [f_J1_indexOfChar_4cfef_L7]
    simp (disch := omega) only [nI_leI, q, if_false, decide_eq_true hck, gck_t, eb, bIx, nI_1]
    by_cases e : t = y
    · rw [if_pos e, if_pos e]
    · rw [if_neg e, if_neg e]
      exact ih (i + 1) n e2.symm (by simp only [List.length_cons] at h2; omega) (by omega)
/-- indexOf on a text: below 0 just where the letter isn't there -/
theorem f_indexOf {S : GS} {k : Nat} {c : Int32} (hk : k < 8) : ∃ v, f_J0_indexOf_0f7a4 S k c = some v ∧ (v < 0 ↔ c ∉ gBy.getD k []) := by
  obtain ⟨t1, t2, t3⟩ := tx_all k hk
  have hk' : decide (k < 8) = true := decide_eq_true hk
  have e1 : ((1 : Int32) = 0) = False := by decide
  have elen : f_J0_length_8abf5 S k = some (nI (gBy.getD k []).length) := by
    simp only [f_J0_length_8abf5, f_J0_coder_7d493, hk', gck_t, e1, if_false, Option.bind_some]
    have : ∀ n, n < 8 → Int32.ofNat n >>> ((0 : Int32) &&& 31) = nI n := by decide +kernel
    unfold gLen
    rw [t1, this _ t2]
  have m1 : (-1 : Int32) < 0 := by decide
  have hne : (gBy.getD k []).length ≠ 0 := by
    have : ∀ k, k < 8 → (gBy.getD k []).length ≠ 0 := by decide +kernel
    exact this k hk
  simp only [f_J0_indexOf_0f7a4, f_J0_indexOf_7cf53, f_J0_isLatin1_aae02, hk', gck_t, e1, if_false, if_true, Option.bind_some, elen, f_J1_indexOf_4cfef, f_J1_canEncode_9a6ad]
  by_cases c0 : c < 0
  · refine ⟨-1, by simp [c0], ⟨fun _ hm => ?_, fun _ => m1⟩⟩
    have := (t3 c hm).1
    rw [Int32.lt_iff_toInt_lt] at c0
    simp at c0
    omega
  · by_cases c1 : (255 : Int32) < c
    · refine ⟨-1, by simp [c0, c1], ⟨fun _ hm => ?_, fun _ => m1⟩⟩
      have := (t3 c hm).2
      rw [Int32.lt_iff_toInt_lt] at c1
      have : (255 : Int32).toInt = 255 := by decide
      omega
    · obtain ⟨n, hn, rfl⟩ := nI_of c0
      have hn2 : n < 256 := by
        rcases Nat.lt_or_ge n 256 with q | q
        · exact q
        · exact absurd (nI_lt (a := 255) (b := n) (by omega) hn) c1
      have g0 : gmax 0 0 = 0 := by decide
      have gm : gmin (nI (gBy.getD k []).length) (gLen k) = nI (gBy.getD k []).length := by
        unfold gLen gmin
        rw [t1]
        show (if nI _ < nI _ then _ else _) = _
        rw [if_neg (nI_nlt (Nat.le_refl _) (by omega))]
      have gl : ((0 : Int32) < nI (gBy.getD k []).length) = True := eq_true (by rw [n_0]; exact nI_lt (by omega) (by omega))
      have hL := f_ixL (S := S) (y := (nI n).toInt8.toInt32) hk (gBy.getD k []) 0 gN rfl (by simp only [gN]; omega) (Nat.zero_le _)
      rw [nI_0] at hL
      refine ⟨bIx ((nI n).toInt8.toInt32) (gBy.getD k []) 0, ?_, ?_⟩
      · simp only [c0, c1, if_false, Option.bind_some, e1, hk', gck_t, g0, gm, gl, if_true, f_J1_indexOfChar_4cfef, hL]
      · rw [bIx_lt _ _ (by omega)]
        have key : (nI n).toInt8.toInt32 ∈ gBy.getD k [] ↔ nI n ∈ gBy.getD k [] := by
          constructor
          · intro hm
            obtain ⟨b1, b2⟩ := t3 _ hm
            have z0 : (0 : Int32).toInt = 0 := by decide
            obtain ⟨m, hm31, em⟩ := nI_of (x := (nI n).toInt8.toInt32) (by rw [Int32.lt_iff_toInt_lt, z0]; omega)
            have hm128 : m < 128 := by rw [em, nI_toInt hm31] at b2; omega
            have := (byte_id n hn2 m hm128).mp em
            rw [em] at hm
            rw [this]
            exact hm
          · intro hm
            obtain ⟨b1, b2⟩ := t3 _ hm
            rw [nI_toInt (by omega)] at b2
            have := (byte_id n hn2 n (by omega)).mpr rfl
            rw [this]
            exact hm
        rw [key]
