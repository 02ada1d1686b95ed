/-! what a sound house is: lists sorted, turned, counted -/
def nbV (V : List Tr) (i : Nat) : List Tr := (List.range i).map fun j => (nI j, (V.getD j tz).2.1, (V.getD j tz).2.2)
theorem nbV_len {V : List Tr} {i : Nat} : (nbV V i).length = i := by unfold nbV; rw [List.length_map, List.length_range]
theorem nbV_s {V : List Tr} {i : Nat} : nbV V (i + 1) = nbV V i ++ [(nI i, (V.getD i tz).2.1, (V.getD i tz).2.2)] := by unfold nbV; rw [List.range_succ, List.map_append]; rfl
theorem nbV_gd {V : List Tr} {n i : Nat} (h : i < n) : (nbV V n).getD i tz = (nI i, (V.getD i tz).2.1, (V.getD i tz).2.2) := by
  unfold nbV
  rw [gd_eq, List.getElem?_map, List.getElem?_range h]; rfl
theorem nbV_mem {V : List Tr} {n : Nat} {t : Tr} (h : t ∈ nbV V n) : ∃ j, j < n ∧ t = (nI j, (V.getD j tz).2.1, (V.getD j tz).2.2) := by
  unfold nbV at h
  obtain ⟨j, h1, rfl⟩ := List.mem_map.mp h
  exact ⟨j, List.mem_range.mp h1, rfl⟩
/-- ahead of: by rank, then by number -/
def lx (rk : Tr → Int32) (x y : Tr) : Prop := (rk x).toInt < (rk y).toInt ∨ ((rk x).toInt = (rk y).toInt ∧ x.1.toInt < y.1.toInt)
def srt (rk : Tr → Int32) (P : List Tr) : Prop := ∀ i j, i < j → j < P.length → lx rk (P.getD i tz) (P.getD j tz)
theorem posR_c {rk : Tr → Int32} {v : Int32} {P : List Tr} : ∀ n, (∀ k, posR rk v P n ≤ k → k < n → v.toInt < (rk (P.getD k tz)).toInt) ∧ (0 < posR rk v P n → (rk (P.getD (posR rk v P n - 1) tz)).toInt ≤ v.toInt) := by
  intro n
  induction n with
  | zero => exact ⟨fun k _ h => by omega, fun h => absurd h (by unfold posR; omega)⟩
  | succ n ih =>
    unfold posR
    by_cases h : v < rk (P.getD n tz)
    · rw [if_pos h]
      refine ⟨fun k h1 h2 => ?_, ih.2⟩
      by_cases e : k = n
      · subst e; exact Int32.lt_iff_toInt_lt.mp h
      · exact ih.1 k h1 (by omega)
    · rw [if_neg h]
      refine ⟨fun k h1 h2 => by omega, fun _ => ?_⟩
      rw [Nat.add_sub_cancel]
      exact Int32.le_iff_toInt_le.mp (Int32.not_lt.mp h)
theorem insB_srt {rk : Tr → Int32} {P : List Tr} {x : Tr} (h : srt rk P) (hx : ∀ k, k < P.length → (P.getD k tz).1.toInt < x.1.toInt) : srt rk (insB rk P x) := by
  intro i j hij hj
  rw [insB_len] at hj
  unfold insB
  have hp := posR_le (rk := rk) (v := rk x) (P := P) P.length
  obtain ⟨c1, c2⟩ := posR_c (rk := rk) (v := rk x) (P := P) P.length
  generalize posR rk (rk x) P P.length = p at *
  -- all ahead of p are not behind x
  have c3 : ∀ k, k < p → (rk (P.getD k tz)).toInt ≤ (rk x).toInt := by
    intro k hk
    have := c2 (by omega)
    by_cases e : k = p - 1
    · rw [e]; exact this
    · have h2 := h k (p - 1) (by omega) (by omega)
      unfold lx at h2
      omega
  rw [gd_ins (by omega), gd_ins (by omega)]
  by_cases a1 : i < p
  · rw [if_pos a1]
    by_cases a2 : j < p
    · rw [if_pos a2]; exact h i j hij (by omega)
    · rw [if_neg a2]
      by_cases a3 : j = p
      · rw [if_pos a3]
        have := c3 i a1
        have h2 := hx i (by omega)
        unfold lx
        omega
      · rw [if_neg a3]; exact h i (j - 1) (by omega) (by omega)
  · rw [if_neg a1, if_neg (by omega : ¬ j < p), if_neg (by omega : ¬ j = p)]
    by_cases a3 : i = p
    · rw [if_pos a3]
      exact Or.inl (c1 (j - 1) (by omega) (by omega))
    · rw [if_neg a3]; exact h (i - 1) (j - 1) (by omega) (by omega)
theorem insB_perm {rk : Tr → Int32} {P : List Tr} {x : Tr} : (insB rk P x).Perm (x :: P) := by
  unfold insB
  have hp := posR_le (rk := rk) (v := rk x) (P := P) P.length
  generalize posR rk (rk x) P P.length = p at *
  have e : P.insertIdx p x = P.take p ++ x :: P.drop p := by
    refine tl_ext (by rw [len_ins hp]; simp; omega) fun k hk => ?_
    rw [len_ins hp] at hk
    have l1 : (P.take p).length = p := by rw [List.length_take]; omega
    rw [gd_ins hp, gd_app, l1]
    by_cases a : k < p
    · rw [if_pos a, if_pos a, gd_take a]
    · rw [if_neg a, if_neg a]
      by_cases b : k = p
      · subst b; rw [if_pos rfl, Nat.sub_self]; rfl
      · rw [if_neg b]
        obtain ⟨m, rfl⟩ : ∃ m, k = p + 1 + m := ⟨k - (p + 1), by omega⟩
        have : p + 1 + m - p = m + 1 := by omega
        rw [this]
        show _ = (P.drop p).getD m tz
        rw [gd_drop]
        exact congrArg (fun q => P.getD q tz) (by omega)
  rw [e]
  refine List.perm_middle.trans (List.Perm.cons x ?_)
  rw [List.take_append_drop]
theorem mem_gd {P : List Tr} {k : Nat} (h : k < P.length) : P.getD k tz ∈ P := by
  rw [gd_eq, List.getElem?_eq_getElem h]
  exact List.getElem_mem h
theorem fold_srt {rk : Tr → Int32} : ∀ (l P : List Tr), srt rk P → (∀ t ∈ P, ∀ u ∈ l, t.1.toInt < u.1.toInt) → l.Pairwise (fun a c => a.1.toInt < c.1.toInt) → srt rk (l.foldl (insB rk) P) ∧ (l.foldl (insB rk) P).Perm (P ++ l) := by
  intro l
  induction l with
  | nil => intro P h _ _; exact ⟨h, by rw [List.append_nil]; exact List.Perm.refl _⟩
  | cons x l ih =>
    intro P h h1 h2
    rw [List.foldl_cons]
    obtain ⟨h3, h4⟩ := List.pairwise_cons.mp h2
    have hp := insB_perm (rk := rk) (P := P) (x := x)
    obtain ⟨y1, y2⟩ := ih (insB rk P x) (insB_srt h (fun k hk => h1 _ (mem_gd hk) x List.mem_cons_self)) (fun t ht u hu => by
      rcases List.mem_cons.mp (hp.mem_iff.mp ht) with rfl | z
      · exact h3 u hu
      · exact h1 t z u (List.mem_cons_of_mem _ hu)) h4
    refine ⟨y1, y2.trans ?_⟩
    refine (hp.append_right l).trans ?_
    exact (List.perm_middle (a := x) (l₁ := P) (l₂ := l)).symm
theorem nbV_pw {V : List Tr} {n : Nat} (h : n ≤ 24) : (nbV V n).Pairwise (fun a c => a.1.toInt < c.1.toInt) := by
  unfold nbV
  rw [List.pairwise_map]
  refine List.Pairwise.imp_of_mem (fun {a c} ha hc hac => ?_) (List.pairwise_lt_range (n := n))
  have h1 := List.mem_range.mp ha
  have h2 := List.mem_range.mp hc
  show (nI a).toInt < (nI c).toInt
  rw [nI_toInt (by omega), nI_toInt (by omega)]
  omega
/-- sorted copies: each is one of the row's things, by its number -/
theorem ordV {rk : Tr → Int32} {V : List Tr} (h : V.length ≤ 24) : srt rk (ord rk 0 ((nbV V V.length).length - 1) 1 (nbV V V.length)) ∧ (ord rk 0 ((nbV V V.length).length - 1) 1 (nbV V V.length)).Perm (nbV V V.length) := by
  rw [ord_all]
  obtain ⟨y1, y2⟩ := fold_srt (rk := rk) (nbV V V.length) [] (fun i j _ hj => by have : j < 0 := hj; omega) (fun t ht => by cases ht) (nbV_pw h)
  exact ⟨y1, y2⟩
/-- the numbers seen, a bit each -/
def bts (W : List Tr) : Nat := W.foldl (fun s t => s ||| 2 ^ t.1.toNatClampNeg) 0
theorem bts_fold : ∀ (W : List Tr) (s k : Nat), (W.foldl (fun s t => s ||| 2 ^ t.1.toNatClampNeg) s).testBit k = (s.testBit k || W.any fun t => t.1.toNatClampNeg == k) := by
  intro W
  induction W with
  | nil => intro s k; simp
  | cons t W ih =>
    intro s k
    rw [List.foldl_cons, ih, Nat.testBit_or, Nat.testBit_two_pow, List.any_cons, Bool.or_assoc]
    refine congrArg (fun z => s.testBit k || (z || _)) ?_
    by_cases e : t.1.toNatClampNeg = k
    · rw [decide_eq_true e]; exact (beq_iff_eq.mpr e).symm
    · rw [decide_eq_false e]; exact (beq_eq_false_iff_ne.mpr e).symm
theorem bts_all {V W : List Tr} (h : V.length ≤ 24) (hp : W.Perm (nbV V V.length)) : bts W = 2 ^ V.length - 1 := by
  refine Nat.eq_of_testBit_eq fun k => ?_
  unfold bts
  rw [bts_fold, Nat.zero_testBit, Bool.false_or, Nat.testBit_two_pow_sub_one]
  rw [Bool.eq_iff_iff, List.any_eq_true, decide_eq_true_eq]
  refine ⟨fun ⟨t, h1, h2⟩ => ?_, fun hk => ?_⟩
  · obtain ⟨j, h3, rfl⟩ := nbV_mem (hp.mem_iff.mp h1)
    have h2 := beq_iff_eq.mp h2
    have : (nI j).toNatClampNeg = j := nI_clamp (by omega)
    have h2 : (nI j).toNatClampNeg = k := h2
    omega
  · refine ⟨(nbV V V.length).getD k tz, hp.mem_iff.mpr (mem_gd (by rw [nbV_len]; exact hk)), ?_⟩
    rw [nbV_gd hk]
    exact beq_iff_eq.mpr (nI_clamp (by omega))
theorem shl_n : ∀ j, j < 25 → (1 : Int32) <<< (nI j &&& 31) = nI (2 ^ j) := by decide
theorem shl_m : ∀ j, j < 25 → (1 : Int32) <<< (nI j &&& 31) - 1 = nI (2 ^ j - 1) := by decide
theorem or_n (a c : Nat) : nI a ||| nI c = nI (a ||| c) := by
  refine Int32.toBitVec_inj.mp ?_
  show BitVec.ofNat 32 a ||| BitVec.ofNat 32 c = BitVec.ofNat 32 (a ||| c)
  exact (BitVec.ofNat_or ..).symm
theorem alk_i : ∀ (L M : List Tr), M.length ≤ L.length → (∀ i, i < M.length → (L.getD i tz).2 = (M.getD i tz).2) → alk L M = true := by
  intro L
  induction L with
  | nil =>
    intro M h _
    cases M with
    | nil => rfl
    | cons u M => simp at h
  | cons t L ih =>
    intro M h h2
    cases M with
    | nil => rfl
    | cons u M =>
      unfold alk
      have h0 : t.2 = u.2 := h2 0 (by simp)
      have : isT u.2.1 u.2.2 t = true := by unfold isT; rw [h0]; simp
      rw [if_pos this]
      exact ih M (by simpa using h) (fun i hi => h2 (i + 1) (by simpa using hi))
