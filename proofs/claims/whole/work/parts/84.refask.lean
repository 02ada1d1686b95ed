/-! WHAT IS ASKED OF THE REFERENCE. l: the exceptions in the order in which they are caught -/
def rAns {α : Type} (l : List Nat) (S : GS) (r : Nat) (f : Option (α × GS)) (z : α ⊕ Nat) : Prop := match z with
  | .inl v => f = some (v, gsI S r 19 0)
  | .inr e => ∃ (i : Nat) (v : α), l[i]? = some e ∧ f = some (v, gsI S r 19 (nI (i + 1)))
theorem e20 : ((2 : Int32) = 0) = False := by decide
theorem e30 : ((3 : Int32) = 0) = False := by decide
theorem e40 : ((4 : Int32) = 0) = False := by decide
theorem e50 : ((5 : Int32) = 0) = False := by decide
theorem k45L : kLs 45 = false := by decide
theorem nd_no {α : Type} {A : AS} {x : Int32} {q : Int32 → Bool} {g : Nat → α ⊕ Nat} (h : sIx x = none) : bnd (ndL A x q) g = .inr 1 := by unfold ndL; rw [h]; rfl
theorem nd_bad {α : Type} {A : AS} {s : Nat} {q : Int32 → Bool} {g : Nat → α ⊕ Nat} (hs : s < 12) (h : kA A s = 45 ∨ q (kA A s) = false) : bnd (ndL A (nI s) q) g = .inr 2 := by
  unfold ndL
  rw [sIx_n hs]
  simp only
  by_cases e : sK (slA A s) = 45
  · rw [if_pos e]; rfl
  · rw [if_neg e]
    rcases h with h | h
    · exact absurd h e
    · have h2 : q (sK (slA A s)) = false := h
      rw [h2]; rfl
theorem nd_ok {α : Type} {A : AS} {s : Nat} {q : Int32 → Bool} {g : Nat → α ⊕ Nat} (hs : s < 12) (h : kA A s ≠ 45) (h2 : q (kA A s) = true) : bnd (ndL A (nI s) q) g = g s := by
  have h3 : q (sK (slA A s)) = true := h2
  unfold ndL
  rw [sIx_n hs]
  simp only
  rw [if_neg (show ¬ sK (slA A s) = 45 from h), h3]
  rfl
theorem c3 {A : AS} (x : Int32) (q : Int32 → Bool) : sIx x = none ∨ (∃ s, s < 12 ∧ x = nI s ∧ (kA A s = 45 ∨ q (kA A s) = false)) ∨ ∃ s, s < 12 ∧ x = nI s ∧ kA A s ≠ 45 ∧ q (kA A s) = true := by
  rcases sIx_c x with ⟨e, -⟩ | ⟨s, hs, rfl, e⟩
  · exact Or.inl e
  · by_cases h : kA A s = 45
    · exact Or.inr (Or.inl ⟨s, hs, rfl, Or.inl h⟩)
    · cases h2 : q (kA A s)
      · exact Or.inr (Or.inl ⟨s, hs, rfl, Or.inr h2⟩)
      · exact Or.inr (Or.inr ⟨s, hs, rfl, h, h2⟩)
theorem or_bad {A : AS} {s : Nat} {q : Int32 → Bool} (h : kA A s = 45 ∨ q (kA A s) = false) (h45 : q 45 = false) : q (kA A s) = false := by
  rcases h with h | h
  · rw [h]; exact h45
  · exact h
theorem r_slot0 (S : GS) {x : Int32} (h : sIx x = none) : f_X5_isSlot S x = some 0 := by rw [r_isSlot, h]; rfl
theorem r_slot1 (S : GS) {s : Nat} (h : s < 12) : f_X5_isSlot S (nI s) = some 1 := by rw [r_isSlot, sIx_n h]; rfl
theorem b2i_f : b2i false = 0 := rfl
theorem b2i_t : b2i true = 1 := rfl
theorem fIdx_app {q : Tr → Bool} {t : Tr} : ∀ (l : List Tr) (j : Nat), j + l.length < 2 ^ 31 → fIdx q (l ++ [t]) j = if fIdx q l j = -1 then (if q t = true then nI (j + l.length) else -1) else fIdx q l j := by
  intro l
  induction l with
  | nil => intro j hj; simp [fIdx]
  | cons u l ih =>
    intro j hj
    simp only [List.length_cons] at hj
    rw [List.cons_append]
    unfold fIdx
    by_cases e : q u = true
    · rw [if_pos e, if_pos e, if_neg (by rw [nI_m1 (by omega)]; exact id)]
    · rw [if_neg e, if_neg e, ih (j + 1) (by omega), List.length_cons]
      rw [show j + 1 + l.length = j + (l.length + 1) by omega]
theorem rI0_s {V W : List Tr} : ∀ (d p : Nat), p + d < 2 ^ 31 → rI0 V W (d + 1) p = if rI0 V W d p = -1 then (if alk (V.drop (p + d)) W = true then nI (p + d) else -1) else rI0 V W d p := by
  intro d
  induction d with
  | zero => intro p hp; simp [rI0]
  | succ d ih =>
    intro p hp
    rw [show rI0 V W (d + 1 + 1) p = (if alk (V.drop p) W = true then nI p else rI0 V W (d + 1) (p + 1)) from rfl, show rI0 V W (d + 1) p = (if alk (V.drop p) W = true then nI p else rI0 V W d (p + 1)) from rfl]
    by_cases e : alk (V.drop p) W = true
    · rw [if_pos e, if_pos e, if_neg (by rw [nI_m1 (by omega)]; exact id)]
    · rw [if_neg e, if_neg e, ih (p + 1) (by omega), show p + 1 + d = p + (d + 1) by omega]
/-- a search in rising keys -/
theorem rsg_all {x : Int32} : ∀ (l : List Tr) (y : Int32), rsg y l = true → x < y → l.any (fun t => t.2.1 == x) = false ∧ l.countP (fun t => decide (t.2.1 < x)) = 0 := by
  intro l
  induction l with
  | nil => intro y _ _; exact ⟨rfl, rfl⟩
  | cons t l ih =>
    intro y h hy
    unfold rsg at h
    by_cases e : y ≤ t.2.1
    · rw [if_pos e] at h
      have h2 : x < t.2.1 := by
        rw [Int32.lt_iff_toInt_lt] at hy ⊢
        rw [Int32.le_iff_toInt_le] at e
        omega
      obtain ⟨i1, i2⟩ := ih _ h h2
      have n1 : (t.2.1 == x) = false := beq_eq_false_iff_ne.mpr (fun z => by rw [z] at h2; exact Int32.lt_irrefl h2)
      have n2 : ¬ t.2.1 < x := fun z => by rw [Int32.lt_iff_toInt_lt] at z h2; omega
      exact ⟨by rw [List.any_cons, n1, i1]; rfl, by rw [List.countP_cons, i2, decide_eq_false n2]; rfl⟩
    · rw [if_neg e] at h; cases h
theorem sKy_c {x : Int32} : ∀ (l : List Tr) (y : Int32) (i : Nat), rsg y l = true → sKy x l i = if l.any (fun t => t.2.1 == x) = true then 100 else -1 - nI (i + l.countP (fun t => decide (t.2.1 < x))) := by
  intro l
  induction l with
  | nil => intro y i _; simp [sKy]
  | cons t l ih =>
    intro y i h
    unfold rsg at h
    by_cases e : y ≤ t.2.1
    · rw [if_pos e] at h
      unfold sKy
      by_cases a : t.2.1 < x
      · have n1 : (t.2.1 == x) = false := beq_eq_false_iff_ne.mpr (fun z => by rw [z] at a; exact Int32.lt_irrefl a)
        rw [if_pos a, ih _ (i + 1) h, List.any_cons, n1, Bool.false_or, List.countP_cons, decide_eq_true a, if_pos rfl, show i + 1 + l.countP (fun t => decide (t.2.1 < x)) = i + (l.countP (fun t => decide (t.2.1 < x)) + 1) by omega]
      · rw [if_neg a]
        by_cases b : t.2.1 = x
        · have : (t.2.1 == x) = true := beq_iff_eq.mpr b
          rw [if_pos b, List.any_cons, this, Bool.true_or, if_pos rfl]
        · have n1 : (t.2.1 == x) = false := beq_eq_false_iff_ne.mpr b
          have h2 : x < t.2.1 := by
            rw [Int32.lt_iff_toInt_lt] at a ⊢
            have : t.2.1.toInt ≠ x.toInt := fun z => b (Int32.toInt_inj.mp z)
            omega
          obtain ⟨i1, i2⟩ := rsg_all l _ h h2
          rw [if_neg b, List.any_cons, n1, i1, List.countP_cons, i2, decide_eq_false a]
          simp
    · rw [if_neg e] at h; cases h
section RAsk
variable {S : GS} {r cap hs : Nat} {dq : Nat → Nat} {A : AS}
theorem r_isPlace0 {s : Nat} {V : List Tr} (h : rVw S r s V) (y : Int32) : f_X5_isPlace S r (nI s) y 0 = some (b2i (inP y V.length)) := by
  obtain ⟨h1, h2, h3, -⟩ := h
  have e : (nI V.length - 1 + 0 : Int32).toInt = (V.length : Int) - 1 := by
    rw [Int32.add_zero, n_1, pk_sub_toInt (by omega) (by omega)]; rfl
  have e0 : (0 : Int32).toInt = 0 := by decide
  simp only [f_X5_isPlace, h1, beq_self_eq_true, gck_t, h2, Option.bind_some, r_in, e, e0, b2i_n]
  unfold inP
  exact congrArg (fun b => some (b2i b)) (decide_eq_decide.mpr (by omega))
theorem r_isPlace1 {s : Nat} {V : List Tr} (h : rVw S r s V) (y : Int32) : f_X5_isPlace S r (nI s) y 1 = some (b2i (inP y (V.length + 1))) := by
  obtain ⟨h1, h2, h3, -⟩ := h
  have e : (nI V.length - 1 + 1 : Int32).toInt = (V.length : Int) := by
    rw [Int32.sub_add_cancel, nI_toInt (by omega)]
  have e0 : (0 : Int32).toInt = 0 := by decide
  simp only [f_X5_isPlace, h1, beq_self_eq_true, gck_t, h2, Option.bind_some, r_in, e, e0, b2i_n]
  unfold inP
  exact congrArg (fun b => some (b2i b)) (decide_eq_decide.mpr (by omega))
theorem inP_i {y : Int32} {n : Nat} (hn : n < 2 ^ 31) (h : inP y n = true) : ∃ i, i < n ∧ y = nI i ∧ y.toNatClampNeg = i := by
  rcases inP_c y hn with ⟨e, -⟩ | ⟨i, h1, h2, h3, h4⟩
  · rw [e] at h; cases h
  · exact ⟨i, h1, h2, h4⟩
theorem r_keyAt (h : Rq r dq cap S hs A) (hw : WF A) (x : Int32) (y : Int32) : rAns [1, 2, 4] S r (f_X5_keyAt S r x y) (q_keyAt A x y) := by
  have h0 := h.thr 0
  unfold q_keyAt
  rcases c3 (A := A) x (kLs) with e | ⟨s, hs12, rfl, e⟩ | ⟨s, hs12, rfl, e45, e⟩
  · rw [nd_no e]
    exact ⟨0, _, rfl, by simp only [f_X5_keyAt_b47, f_X5_keyAt_b46, f_X5_keyAt_b28, f_X5_keyAt_b19, f_X5_keyAt, h.1.fs, beq_self_eq_true, gck_t, Option.bind_some, b2i_1, e20, e30, e40, e50, if_true, if_false, r_fails h.1.1, fcd, gb2_s, r_isList_no h e, r_slot0 S e]; rfl⟩
  · rw [nd_bad hs12 e]
    have e := or_bad (q := kLs) e (by decide)
    have e2 := r_isList h hs12
    rw [e] at e2
    exact ⟨1, _, rfl, by simp only [f_X5_keyAt_b47, f_X5_keyAt_b46, f_X5_keyAt_b28, f_X5_keyAt_b19, f_X5_keyAt, h.1.fs, beq_self_eq_true, gck_t, Option.bind_some, b2i_1, e20, e30, e40, e50, if_true, if_false, r_fails h.1.1, fcd, gb2_s, e2, b2i_f, r_slot1 S hs12]; rfl⟩
  · rw [nd_ok hs12 e45 e]
    have e2 := r_isList h hs12
    rw [e] at e2
    have hv := h.see hw hs12 e45
    have hv0 := h0.see hw hs12 e45
    have h24 := hv.2.2.1
    cases hp : inP y (vw A s).length
    · exact ⟨2, _, rfl, by simp only [f_X5_keyAt_b47, f_X5_keyAt_b46, f_X5_keyAt_b28, f_X5_keyAt_b19, f_X5_keyAt, h.1.fs, beq_self_eq_true, gck_t, Option.bind_some, b2i_1, e20, e30, e40, e50, if_true, if_false, r_fails h.1.1, fcd, gb2_s, e2, b2i_t, r_slot1 S hs12, r_isPlace0 hv, hp, b2i_f]; rfl⟩
    · obtain ⟨i, i1, rfl, i2⟩ := inP_i (by omega) hp
      show _ = _
      rw [i2]
      simp only [f_X5_keyAt_b47, f_X5_keyAt_b46, f_X5_keyAt_b28, f_X5_keyAt_b19, f_X5_keyAt, h.1.fs, beq_self_eq_true, gck_t, Option.bind_some, b2i_1, e20, e30, e40, e50, if_true, if_false, r_fails h.1.1, fcd, gb2_s, h0.1.fs, e2, b2i_t, r_slot1 S hs12, r_isPlace0 hv, hp, (hv0.2.2.2 i i1).1]
theorem r_markAt (h : Rq r dq cap S hs A) (hw : WF A) (x : Int32) (y : Int32) : rAns [1, 2, 4] S r (f_X5_markAt S r x y) (q_markAt A x y) := by
  have h0 := h.thr 0
  unfold q_markAt
  rcases c3 (A := A) x (kLs) with e | ⟨s, hs12, rfl, e⟩ | ⟨s, hs12, rfl, e45, e⟩
  · rw [nd_no e]
    exact ⟨0, _, rfl, by simp only [f_X5_markAt_b47, f_X5_markAt_b46, f_X5_markAt_b28, f_X5_markAt_b19, f_X5_markAt, h.1.fs, beq_self_eq_true, gck_t, Option.bind_some, b2i_1, e20, e30, e40, e50, if_true, if_false, r_fails h.1.1, fcd, gb2_s, r_isList_no h e, r_slot0 S e]; rfl⟩
  · rw [nd_bad hs12 e]
    have e := or_bad (q := kLs) e (by decide)
    have e2 := r_isList h hs12
    rw [e] at e2
    exact ⟨1, _, rfl, by simp only [f_X5_markAt_b47, f_X5_markAt_b46, f_X5_markAt_b28, f_X5_markAt_b19, f_X5_markAt, h.1.fs, beq_self_eq_true, gck_t, Option.bind_some, b2i_1, e20, e30, e40, e50, if_true, if_false, r_fails h.1.1, fcd, gb2_s, e2, b2i_f, r_slot1 S hs12]; rfl⟩
  · rw [nd_ok hs12 e45 e]
    have e2 := r_isList h hs12
    rw [e] at e2
    have hv := h.see hw hs12 e45
    have hv0 := h0.see hw hs12 e45
    have h24 := hv.2.2.1
    cases hp : inP y (vw A s).length
    · exact ⟨2, _, rfl, by simp only [f_X5_markAt_b47, f_X5_markAt_b46, f_X5_markAt_b28, f_X5_markAt_b19, f_X5_markAt, h.1.fs, beq_self_eq_true, gck_t, Option.bind_some, b2i_1, e20, e30, e40, e50, if_true, if_false, r_fails h.1.1, fcd, gb2_s, e2, b2i_t, r_slot1 S hs12, r_isPlace0 hv, hp, b2i_f]; rfl⟩
    · obtain ⟨i, i1, rfl, i2⟩ := inP_i (by omega) hp
      show _ = _
      rw [i2]
      simp only [f_X5_markAt_b47, f_X5_markAt_b46, f_X5_markAt_b28, f_X5_markAt_b19, f_X5_markAt, h.1.fs, beq_self_eq_true, gck_t, Option.bind_some, b2i_1, e20, e30, e40, e50, if_true, if_false, r_fails h.1.1, fcd, gb2_s, h0.1.fs, e2, b2i_t, r_slot1 S hs12, r_isPlace0 hv, hp, (hv0.2.2.2 i i1).2]
theorem r_size (h : Rq r dq cap S hs A) (hw : WF A) (x : Int32) : rAns [1, 2] S r (f_X5_size S r x) (q_size A x) := by
  have h0 := h.thr 0
  unfold q_size
  rcases c3 (A := A) x (fun _ => true) with e | ⟨s, hs12, rfl, e⟩ | ⟨s, hs12, rfl, e45, e⟩
  · rw [nd_no e]
    exact ⟨0, _, rfl, by simp only [f_X5_size_b46, f_X5_size_b37, f_X5_size_b23, f_X5_size_b22, f_X5_size, h.1.fs, beq_self_eq_true, gck_t, Option.bind_some, b2i_1, e20, e30, e40, e50, if_true, if_false, r_fails h.1.1, fcd, gb2_s, r_slot0 S e]; rfl⟩
  · rw [nd_bad hs12 e]
    have e : kA A s = 45 := e.elim id (fun z => absurd z (by decide))
    exact ⟨1, _, rfl, by simp only [f_X5_size_b46, f_X5_size_b37, f_X5_size_b23, f_X5_size_b22, f_X5_size, h.1.fs, beq_self_eq_true, gck_t, Option.bind_some, b2i_1, e20, e30, e40, e50, if_true, if_false, r_fails h.1.1, fcd, gb2_s, h.1.rs.1 s hs12, h.kd hs12, e, r_slot1 S hs12]; rfl⟩
  · rw [nd_ok hs12 e45 e]
    have hv := h.see hw hs12 e45
    have hv0 := h0.see hw hs12 e45
    have h24 := hv.2.2.1
    show _ = _
    simp only [f_X5_size_b46, f_X5_size_b37, f_X5_size_b23, f_X5_size_b22, f_X5_size, h.1.fs, beq_self_eq_true, gck_t, Option.bind_some, b2i_1, e20, e30, e40, e50, if_true, if_false, r_fails h.1.1, fcd, gb2_s, h0.1.fs, h.1.rs.1 s hs12, h.kd hs12, e45, r_slot1 S hs12, hv0.2.1]
theorem r_walk (h : Rq r dq cap S hs A) (hw : WF A) (x : Int32) (w : Int32) : rAns [1, 2, 4] S r (f_X5_walk S r x w) (q_walk A x w) := by
  have h0 := h.thr 0
  unfold q_walk
  rcases c3 (A := A) x (fun _ => true) with e | ⟨s, hs12, rfl, e⟩ | ⟨s, hs12, rfl, e45, e⟩
  · rw [nd_no e]
    exact ⟨0, _, rfl, by simp only [f_X5_walk_b67, f_X5_walk_b66, f_X5_walk_b46, f_X5_walk_b37, f_X5_walk_b23, f_X5_walk_b22, f_X5_walk, h.1.fs, beq_self_eq_true, gck_t, Option.bind_some, b2i_1, e20, e30, e40, e50, if_true, if_false, r_fails h.1.1, fcd, gb2_s, r_slot0 S e]; rfl⟩
  · rw [nd_bad hs12 e]
    have e : kA A s = 45 := e.elim id (fun z => absurd z (by decide))
    exact ⟨1, _, rfl, by simp only [f_X5_walk_b67, f_X5_walk_b66, f_X5_walk_b46, f_X5_walk_b37, f_X5_walk_b23, f_X5_walk_b22, f_X5_walk, h.1.fs, beq_self_eq_true, gck_t, Option.bind_some, b2i_1, e20, e30, e40, e50, if_true, if_false, r_fails h.1.1, fcd, gb2_s, h.1.rs.1 s hs12, h.kd hs12, e, r_slot1 S hs12]; rfl⟩
  · rw [nd_ok hs12 e45 e]
    have hv := h.see hw hs12 e45
    have hv0 := h0.see hw hs12 e45
    have h24 := hv.2.2.1
    by_cases e0 : w = 0
    · subst e0
      show _ = _
      simp only [f_X5_walk_b67, f_X5_walk_b66, f_X5_walk_b46, f_X5_walk_b37, f_X5_walk_b23, f_X5_walk_b22, f_X5_walk, h.1.fs, beq_self_eq_true, gck_t, Option.bind_some, b2i_1, e20, e30, e40, e50, if_true, if_false, r_fails h.1.1, fcd, gb2_s, h0.1.fs, h.1.rs.1 s hs12, h.kd hs12, e45, r_slot1 S hs12, r_walked h0 hw hs12 e45]
    · simp only [e0, if_false]
      cases e1 : kLs (kA A s)
      · have e2 := r_isList h hs12
        rw [e1] at e2
        exact ⟨2, _, rfl, by simp only [f_X5_walk_b67, f_X5_walk_b66, f_X5_walk_b46, f_X5_walk_b37, f_X5_walk_b23, f_X5_walk_b22, f_X5_walk, h.1.fs, beq_self_eq_true, gck_t, Option.bind_some, b2i_1, e20, e30, e40, e50, if_true, if_false, r_fails h.1.1, fcd, gb2_s, h.1.rs.1 s hs12, h.kd hs12, e45, e0, r_slot1 S hs12, e2, b2i_f]; rfl⟩
      · have e2 := r_isList h hs12
        rw [e1] at e2
        show _ = _
        simp only [f_X5_walk_b67, f_X5_walk_b66, f_X5_walk_b46, f_X5_walk_b37, f_X5_walk_b23, f_X5_walk_b22, f_X5_walk, h.1.fs, beq_self_eq_true, gck_t, Option.bind_some, b2i_1, e20, e30, e40, e50, if_true, if_false, r_fails h.1.1, fcd, gb2_s, h0.1.fs, h.1.rs.1 s hs12, h.kd hs12, e45, e0, r_slot1 S hs12, e2, b2i_t, r_walked h0 hw hs12 e45]
theorem r_numberAt (h : Rq r dq cap S hs A) (hw : WF A) (x : Int32) (y : Int32) : rAns [1, 2, 4] S r (f_X5_numberAt S r x y) (q_numberAt A x y) := by
  have h0 := h.thr 0
  unfold q_numberAt
  rcases c3 (A := A) x (fun k => kMp k || k == 107) with e | ⟨s, hs12, rfl, e⟩ | ⟨s, hs12, rfl, e45, e⟩
  · rw [nd_no e]
    exact ⟨0, _, rfl, by simp only [f_X5_numberAt_b47, f_X5_numberAt_b46, f_X5_numberAt_b28, f_X5_numberAt_b19, f_X5_numberAt, h.1.fs, beq_self_eq_true, gck_t, Option.bind_some, b2i_1, e20, e30, e40, e50, if_true, if_false, r_fails h.1.1, fcd, gb2_s, r_hasNumbers_no h e, r_slot0 S e]; rfl⟩
  · rw [nd_bad hs12 e]
    have e := or_bad (q := fun k => kMp k || k == 107) e (by decide)
    have e2 := r_hasNumbers h hs12
    rw [e] at e2
    exact ⟨1, _, rfl, by simp only [f_X5_numberAt_b47, f_X5_numberAt_b46, f_X5_numberAt_b28, f_X5_numberAt_b19, f_X5_numberAt, h.1.fs, beq_self_eq_true, gck_t, Option.bind_some, b2i_1, e20, e30, e40, e50, if_true, if_false, r_fails h.1.1, fcd, gb2_s, e2, b2i_f, r_slot1 S hs12]; rfl⟩
  · rw [nd_ok hs12 e45 e]
    have e2 := r_hasNumbers h hs12
    rw [e] at e2
    have hv := h.see hw hs12 e45
    have hv0 := h0.see hw hs12 e45
    have h24 := hv.2.2.1
    obtain ⟨j, j1, j2, j3, j4, -⟩ := h0.ref hw hs12 (Or.inl e)
    have hj := h0.nj hw j1
    rw [← j4] at hj
    cases hp : inP y (vw A s).length
    · exact ⟨2, _, rfl, by simp only [f_X5_numberAt_b47, f_X5_numberAt_b46, f_X5_numberAt_b28, f_X5_numberAt_b19, f_X5_numberAt, h.1.fs, beq_self_eq_true, gck_t, Option.bind_some, b2i_1, e20, e30, e40, e50, if_true, if_false, r_fails h.1.1, fcd, gb2_s, e2, b2i_t, r_slot1 S hs12, r_isPlace0 hv, hp, b2i_f]; rfl⟩
    · obtain ⟨i, i1, rfl, i2⟩ := inP_i (by omega) hp
      show _ = _
      rw [i2]
      simp only [f_X5_numberAt_b47, f_X5_numberAt_b46, f_X5_numberAt_b28, f_X5_numberAt_b19, f_X5_numberAt, h.1.fs, beq_self_eq_true, gck_t, Option.bind_some, b2i_1, e20, e30, e40, e50, if_true, if_false, r_fails h.1.1, fcd, gb2_s, h0.1.fs, e2, b2i_t, r_slot1 S hs12, r_isPlace0 hv, hp, j3, hj.2.2.1, hj.2.2.2 i i1]
theorem r_hasNumber (h : Rq r dq cap S hs A) (hw : WF A) (x : Int32) (y : Int32) : rAns [1, 2] S r (f_X5_hasNumber S r x y) (q_hasNumber A x y) := by
  have h0 := h.thr 0
  unfold q_hasNumber
  rcases c3 (A := A) x (fun k => kMp k || k == 107) with e | ⟨s, hs12, rfl, e⟩ | ⟨s, hs12, rfl, e45, e⟩
  · rw [nd_no e]
    exact ⟨0, _, rfl, by simp only [f_X5_hasNumber_b28, f_X5_hasNumber_b19, f_X5_hasNumber, h.1.fs, beq_self_eq_true, gck_t, Option.bind_some, b2i_1, e20, e30, e40, e50, if_true, if_false, r_fails h.1.1, fcd, gb2_s, r_hasNumbers_no h e, r_slot0 S e]; rfl⟩
  · rw [nd_bad hs12 e]
    have e := or_bad (q := fun k => kMp k || k == 107) e (by decide)
    have e2 := r_hasNumbers h hs12
    rw [e] at e2
    exact ⟨1, _, rfl, by simp only [f_X5_hasNumber_b28, f_X5_hasNumber_b19, f_X5_hasNumber, h.1.fs, beq_self_eq_true, gck_t, Option.bind_some, b2i_1, e20, e30, e40, e50, if_true, if_false, r_fails h.1.1, fcd, gb2_s, e2, b2i_f, r_slot1 S hs12]; rfl⟩
  · rw [nd_ok hs12 e45 e]
    have e2 := r_hasNumbers h hs12
    rw [e] at e2
    have hv := h.see hw hs12 e45
    have hv0 := h0.see hw hs12 e45
    have h24 := hv.2.2.1
    obtain ⟨j, j1, j2, j3, j4, -⟩ := h0.ref hw hs12 (Or.inl e)
    have hj := h0.nj hw j1
    rw [← j4] at hj
    show _ = _
    simp only [f_X5_hasNumber_b28, f_X5_hasNumber_b19, f_X5_hasNumber, h.1.fs, beq_self_eq_true, gck_t, Option.bind_some, b2i_1, e20, e30, e40, e50, if_true, if_false, r_fails h.1.1, fcd, gb2_s, h0.1.fs, e2, b2i_t, r_slot1 S hs12, j3, r_placeOfNumber h0.1 hj]
    rcases fIdx_find (fun t => t.1 == y) (M := vw A s) (vw A s) 0 rfl with ⟨g1, g2⟩ | ⟨j, g0, g1, g2⟩
    · rw [g2]; rfl
    · rw [g1, if_neg (by rw [nI_m1 (by omega)]; exact id), if_neg (nI_pos (by omega))]
theorem r_thingOf (h : Rq r dq cap S hs A) (hw : WF A) (x : Int32) (y : Int32) : rAns [1, 2, 4] S r (f_X5_thingOf S r x y) (q_thingOf A x y) := by
  have h0 := h.thr 0
  unfold q_thingOf
  rcases c3 (A := A) x (kMp) with e | ⟨s, hs12, rfl, e⟩ | ⟨s, hs12, rfl, e45, e⟩
  · rw [nd_no e]
    exact ⟨0, _, rfl, by simp only [f_X5_thingOf_b60, f_X5_thingOf_b49, f_X5_thingOf_b40, f_X5_thingOf_b25, f_X5_thingOf, h.1.fs, beq_self_eq_true, gck_t, Option.bind_some, b2i_1, e20, e30, e40, e50, if_true, if_false, r_fails h.1.1, fcd, gb2_s, r_isMap_no h e, r_slot0 S e]; rfl⟩
  · rw [nd_bad hs12 e]
    have e := or_bad (q := kMp) e (by decide)
    have e2 := r_isMap h hs12
    rw [e] at e2
    exact ⟨1, _, rfl, by simp only [f_X5_thingOf_b60, f_X5_thingOf_b49, f_X5_thingOf_b40, f_X5_thingOf_b25, f_X5_thingOf, h.1.fs, beq_self_eq_true, gck_t, Option.bind_some, b2i_1, e20, e30, e40, e50, if_true, if_false, r_fails h.1.1, fcd, gb2_s, e2, b2i_f, r_slot1 S hs12]; rfl⟩
  · rw [nd_ok hs12 e45 e]
    have e2 := r_isMap h hs12
    rw [e] at e2
    have hv := h.see hw hs12 e45
    have hv0 := h0.see hw hs12 e45
    have h24 := hv.2.2.1
    have e9 : (kMp (kA A s) || kA A s == 107) = true := by rw [e]; rfl
    obtain ⟨j, j1, j2, j3, j4, -⟩ := h.ref hw hs12 (Or.inl e9)
    have hj := h.nj hw j1
    rw [← j4] at hj
    rcases fIdx_find (fun t => t.1 == y) (M := vw A s) (vw A s) 0 rfl with ⟨g1, g2⟩ | ⟨i, g0, g1, g2⟩
    · rw [g1]
      exact ⟨2, _, rfl, by simp only [f_X5_thingOf_b60, f_X5_thingOf_b49, f_X5_thingOf_b40, f_X5_thingOf_b25, f_X5_thingOf, h.1.fs, beq_self_eq_true, gck_t, Option.bind_some, b2i_1, e20, e30, e40, e50, if_true, if_false, r_fails h.1.1, fcd, gb2_s, e2, b2i_t, r_slot1 S hs12, j3, r_placeOfNumber h.1 hj, g2]; rfl⟩
    · rw [g2]
      show _ = _
      simp only [f_X5_thingOf_b60, f_X5_thingOf_b49, f_X5_thingOf_b40, f_X5_thingOf_b25, f_X5_thingOf, h.1.fs, beq_self_eq_true, gck_t, Option.bind_some, b2i_1, e20, e30, e40, e50, if_true, if_false, r_fails h.1.1, fcd, gb2_s, h0.1.fs, e2, b2i_t, r_slot1 S hs12, j3, r_placeOfNumber h.1 hj, g1, nI_m1 (show i < 2 ^ 31 by omega), r_hashAt hv0 g0]
theorem r_kind (h : Rq r dq cap S hs A) (hw : WF A) (x : Int32) : rAns [1] S r (f_X5_kind S r x) (q_kind A x) := by
  have h0 := h.thr 0
  unfold q_kind
  rcases sIx_c x with ⟨e, -⟩ | ⟨s, hs12, rfl, e⟩
  · rw [e]
    exact ⟨0, _, rfl, by simp only [f_X5_kind_b13, f_X5_kind, h.1.fs, beq_self_eq_true, gck_t, Option.bind_some, b2i_1, e20, e30, e40, e50, if_true, if_false, r_fails h.1.1, fcd, gb2_s, r_slot0 S e]; rfl⟩
  · rw [e]
    show _ = _
    have hn : gnr .char (kA A s) = true := by
      by_cases hk : kA A s = 45
      · rw [hk]; decide
      · rcases (hw.2.1 s hs12 hk).2.2.1 with q | q | q | q | q | q | q | q | q | q <;> (rw [show kA A s = sK (slA A s) from rfl, q]; decide)
    simp only [f_X5_kind_b13, f_X5_kind, h.1.fs, beq_self_eq_true, gck_t, Option.bind_some, b2i_1, e20, e30, e40, e50, if_true, if_false, r_fails h.1.1, fcd, gb2_s, h0.1.fs, r_slot1 S hs12, h0.1.rs.1 s hs12, h0.kd hs12, hn]
end RAsk
