/-! what the reference sees through a slot -/
theorem tx0 (k : Int32) : decide (k ∈ gBy.getD 0 []) = (k == 108 || k == 112) := by
  rw [show gBy.getD 0 [] = [108, 112] from rfl]; simp only [List.mem_cons, List.not_mem_nil, or_false, Bool.decide_or]; rfl
theorem tx1 (k : Int32) : decide (k ∈ gBy.getD 1 []) = (k == 108 || (k == 112 || k == 109)) := by
  rw [show gBy.getD 1 [] = [108, 112, 109] from rfl]; simp only [List.mem_cons, List.not_mem_nil, or_false, Bool.decide_or]; rfl
theorem tx2 (k : Int32) : decide (k ∈ gBy.getD 2 []) = kMp k := by
  rw [show gBy.getD 2 [] = [109, 70] from rfl]; simp only [List.mem_cons, List.not_mem_nil, or_false, Bool.decide_or]; rfl
theorem tx3 (k : Int32) : decide (k ∈ gBy.getD 3 []) = kLs k := by
  rw [show gBy.getD 3 [] = [108, 112, 102, 99, 97, 101] from rfl]; unfold kLs; simp only [List.mem_cons, List.not_mem_nil, or_false, Bool.decide_or, Bool.or_assoc]; rfl
theorem tx4 (k : Int32) : decide (k ∈ gBy.getD 4 []) = (k == 108 || (k == 112 || (k == 109 || (k == 107 || k == 118)))) := by
  rw [show gBy.getD 4 [] = [108, 112, 109, 107, 118] from rfl]; simp only [List.mem_cons, List.not_mem_nil, or_false, Bool.decide_or]; rfl
theorem tx5 (k : Int32) : decide (k ∈ gBy.getD 5 []) = (kLs k || k == 118) := by
  rw [show gBy.getD 5 [] = [108, 112, 102, 99, 97, 101, 118] from rfl]; unfold kLs; simp only [List.mem_cons, List.not_mem_nil, or_false, Bool.decide_or, Bool.or_assoc]; rfl
theorem tx6 (k : Int32) : decide (k ∈ gBy.getD 6 []) = (k == 107) := by
  rw [show gBy.getD 6 [] = [107] from rfl]; simp only [List.mem_cons, List.not_mem_nil, or_false]; rfl
theorem sIx_n {s : Nat} (hs : s < 12) : sIx (nI s) = some s := by
  rcases sIx_c (nI s) with ⟨-, q | ⟨-, q⟩⟩ | ⟨u, q1, q2, q3⟩
  · exact absurd q (nI_pos (by omega))
  · exact absurd (by rw [n_12]; exact nI_lt (by omega) (by omega)) q
  · rw [nI_eq (by omega) (by omega)] at q2; rw [q3, q2]
/-- facts of any slot that holds something -/
theorem slot_facts {A : AS} {s : Nat} (hw : WF A) (hs : s < 12) (hk : kA A s ≠ 45) :
    (isC (slA A s) = true ∧ sP (slA A s) = none ∧ cpy (slA A s) ≤ 24 ∧ vw A s = List.replicate (cpy (slA A s)) (0, sY (slA A s), sM (slA A s)) ∧ (kA A s = 99 ∨ kA A s = 97 ∨ (kA A s = 101 ∧ cpy (slA A s) = 0)) ∧ sO (slA A s) = false) ∨
    (isC (slA A s) = false ∧ (kA A s = 108 ∨ kA A s = 112 ∨ kA A s = 102) ∧ sR (slA A s) < 2 ∧ rIx (slA A s) = sR (slA A s) ∧ okP A (sR (slA A s)) (sP (slA A s)) ∧ fsA A (slA A s) + (vw A s).length ≤ (rwA A (sR (slA A s))).length ∧ vw A s = viw (rwA A (sR (slA A s))) (fsA A (slA A s)) (vw A s).length ∧
      (∀ p, sP (slA A s) = some p → fsA A (slA A s) = pF (ptA A p) ∧ (vw A s).length = pZ (ptA A p)) ∧ (sP (slA A s) = none → fsA A (slA A s) = 0 ∧ vw A s = rwA A (sR (slA A s)))) ∨
    (isC (slA A s) = false ∧ (kA A s = 109 ∨ kA A s = 70 ∨ kA A s = 107 ∨ kA A s = 118) ∧ ∃ j, j < 2 ∧ rIx (slA A s) = j ∧ sR (slA A s) = 2 + j ∧ sP (slA A s) = none ∧ fsA A (slA A s) = 0 ∧ vw A s = rwA A (2 + j)) := by
  obtain ⟨v1, v2, v3, v4, v5, v6, -⟩ := hw.2.1 s hs hk
  by_cases hl : sK (slA A s) = 108 ∨ sK (slA A s) = 112 ∨ sK (slA A s) = 102
  · obtain ⟨l1, l2, l3, l4, l5, l6, l7, -⟩ := lst_facts hw hs hl
    exact Or.inr (Or.inl ⟨l2, hl, l1, by unfold rIx; rw [if_pos l1], l3, l4, l5, l6, l7⟩)
  · by_cases hm : sK (slA A s) = 109 ∨ sK (slA A s) = 70 ∨ sK (slA A s) = 107 ∨ sK (slA A s) = 118
    · obtain ⟨l1, l2, l3, l4, l5, l6⟩ := map_facts hw hs hm
      refine Or.inr (Or.inr ⟨l3, hm, sR (slA A s) - 2, by omega, by unfold rIx; rw [if_neg (by omega)], by omega, l4, l5, ?_⟩)
      rw [l6]
      exact congrArg (rwA A) (by omega)
    · have hc : sK (slA A s) = 99 ∨ sK (slA A s) = 97 ∨ sK (slA A s) = 101 := by
        rcases v3 with h | h | h | h | h | h | h | h | h | h
        · exact absurd (Or.inl h) hl
        · exact absurd (Or.inr (Or.inl h)) hl
        · exact absurd (Or.inr (Or.inr h)) hl
        · exact absurd (Or.inl h) hm
        · exact absurd (Or.inr (Or.inl h)) hm
        · exact absurd (Or.inr (Or.inr (Or.inl h))) hm
        · exact absurd (Or.inr (Or.inr (Or.inr h))) hm
        · exact Or.inl h
        · exact Or.inr (Or.inl h)
        · exact Or.inr (Or.inr h)
      have hC : isC (slA A s) = true := by
        unfold isC
        rcases hc with h | h | h <;> (rw [h]; decide)
      obtain ⟨c1, c2, c3⟩ := v1 hC
      refine Or.inl ⟨hC, c1, c2, by unfold vw vwA; rw [hC]; rfl, ?_, v6 (Or.inr (Or.inr hC))⟩
      rcases hc with h | h | h
      · exact Or.inl h
      · exact Or.inr (Or.inl h)
      · refine Or.inr (Or.inr ⟨h, ?_⟩)
        unfold cpy
        rw [h, if_neg (by decide)]
        exact c3 h
section RView
variable {S : GS} {r cap hs s : Nat} {dq : Nat → Nat} {A : AS}
theorem Rq.kd (h : Rq r dq cap S hs A) (hs12 : s < 12) : gI S (r + 23) s = kA A s := (h.2.2.2.2.1 s hs12).1
theorem r_isList_no (h : Rq r dq cap S hs A) {x : Int32} (hx : sIx x = none) : f_X5_isList S r x = some 0 := by
  have : gnr .boolean 0 = true := by decide
  simp only [f_X5_isList, h.1.1, beq_self_eq_true, gck_t, r_isOf_no h.1 hx, Option.bind_some, this]
theorem r_isRow_no (h : Rq r dq cap S hs A) {x : Int32} (hx : sIx x = none) : f_X5_isRow S r x = some 0 := by
  have : gnr .boolean 0 = true := by decide
  simp only [f_X5_isRow, h.1.1, beq_self_eq_true, gck_t, r_isOf_no h.1 hx, Option.bind_some, this]
theorem r_isMap_no (h : Rq r dq cap S hs A) {x : Int32} (hx : sIx x = none) : f_X5_isMap S r x = some 0 := by
  have : gnr .boolean 0 = true := by decide
  simp only [f_X5_isMap, h.1.1, beq_self_eq_true, gck_t, r_isOf_no h.1 hx, Option.bind_some, this]
theorem r_isKeys_no (h : Rq r dq cap S hs A) {x : Int32} (hx : sIx x = none) : f_X5_isKeys S r x = some 0 := by
  have : gnr .boolean 0 = true := by decide
  simp only [f_X5_isKeys, h.1.1, beq_self_eq_true, gck_t, r_isOf_no h.1 hx, Option.bind_some, this]
theorem r_hasNumbers_no (h : Rq r dq cap S hs A) {x : Int32} (hx : sIx x = none) : f_X5_hasNumbers S r x = some 0 := by
  simp only [f_X5_hasNumbers, f_X5_hasNumbers_b16, h.1.1, beq_self_eq_true, gck_t, r_isMap_no h hx, r_isKeys_no h hx, Option.bind_some, if_true]
theorem r_isList (h : Rq r dq cap S hs A) (hs12 : s < 12) : f_X5_isList S r (nI s) = some (b2i (kLs (kA A s))) := by
  simp only [f_X5_isList, h.1.1, beq_self_eq_true, gck_t, r_isOf h.1 hs12 (show 3 < 8 by omega), h.kd hs12, tx3, Option.bind_some, b2i_n]
theorem r_isRow (h : Rq r dq cap S hs A) (hs12 : s < 12) : f_X5_isRow S r (nI s) = some (b2i (kLs (kA A s) || kA A s == 118)) := by
  simp only [f_X5_isRow, h.1.1, beq_self_eq_true, gck_t, r_isOf h.1 hs12 (show 5 < 8 by omega), h.kd hs12, tx5, Option.bind_some, b2i_n]
theorem r_isMap (h : Rq r dq cap S hs A) (hs12 : s < 12) : f_X5_isMap S r (nI s) = some (b2i (kMp (kA A s))) := by
  simp only [f_X5_isMap, h.1.1, beq_self_eq_true, gck_t, r_isOf h.1 hs12 (show 2 < 8 by omega), h.kd hs12, tx2, Option.bind_some, b2i_n]
theorem r_isKeys (h : Rq r dq cap S hs A) (hs12 : s < 12) : f_X5_isKeys S r (nI s) = some (b2i (kA A s == 107)) := by
  simp only [f_X5_isKeys, h.1.1, beq_self_eq_true, gck_t, r_isOf h.1 hs12 (show 6 < 8 by omega), h.kd hs12, tx6, Option.bind_some, b2i_n]
theorem r_hasNumbers (h : Rq r dq cap S hs A) (hs12 : s < 12) : f_X5_hasNumbers S r (nI s) = some (b2i (kMp (kA A s) || kA A s == 107)) := by
  simp only [f_X5_hasNumbers, f_X5_hasNumbers_b16, h.1.1, beq_self_eq_true, gck_t, r_isMap h hs12, r_isKeys h hs12, Option.bind_some, b2i_0]
  cases kMp (kA A s)
  · simp only [if_true, Bool.false_or]
    cases (kA A s == 107) <;> rfl
  · rfl
theorem r_canChange (h : Rq r dq cap S hs A) (hw : WF A) (hs12 : s < 12) (hk : kA A s ≠ 45) : f_X5_canChange S r (nI s) = some (b2i (sO (slA A s))) := by
  obtain ⟨x1, x2⟩ := h.2.2.2.2.1 s hs12
  obtain ⟨-, -, y3⟩ := x2 hk
  simp only [f_X5_canChange, h.1.1, beq_self_eq_true, gck_t, r_isOf h.1 hs12 (show 4 < 8 by omega), h.kd hs12, tx4, Option.bind_some, b2i_0, h.1.fs, h.1.rs.2.2.2.2.2.1 s hs12]
  cases ho : sO (slA A s)
  · cases hq : (kA A s == 108 || (kA A s == 112 || (kA A s == 109 || (kA A s == 107 || kA A s == 118))))
    · rfl
    · have hC : isC (slA A s) = false := by
        simp only [Bool.or_eq_true, beq_iff_eq] at hq
        unfold isC
        rcases hq with e | e | e | e | e <;> (rw [show sK (slA A s) = kA A s from rfl, e]; decide)
      rw [(y3 hC).2, ho]
      rfl
  · have hop := opn_of hw hs12 hk ho
    have hC : isC (slA A s) = false := (opn_facts hw hs12 hop).2.1
    have hq : (kA A s == 108 || (kA A s == 112 || (kA A s == 109 || (kA A s == 107 || kA A s == 118)))) = true := by
      simp only [Bool.or_eq_true, beq_iff_eq]
      exact hop
    rw [hq, (y3 hC).2, ho]
    rfl
theorem r_canChange_nil (h : Rq r dq cap S hs A) (hs12 : s < 12) (hk : kA A s = 45) : f_X5_canChange S r (nI s) = some 0 := by
  have e : ((45 : Int32) == 108 || ((45 : Int32) == 112 || ((45 : Int32) == 109 || ((45 : Int32) == 107 || (45 : Int32) == 118)))) = false := by decide
  simp only [f_X5_canChange, h.1.1, beq_self_eq_true, gck_t, r_isOf h.1 hs12 (show 4 < 8 by omega), h.kd hs12, hk, tx4, e, Option.bind_some, b2i_0, if_true]
theorem r_begin (h : Rq r dq cap S hs A) (hw : WF A) (hs12 : s < 12) (hk : kA A s ≠ 45) : f_X5_begin S r (nI s) = some (nI (fsA A (slA A s))) := by
  obtain ⟨x1, x2⟩ := h.2.2.2.2.1 s hs12
  obtain ⟨y1, -, -⟩ := x2 hk
  have hn := h.2.1.2.1
  have hcap := h.1.2.2.2.2.2.2
  simp only [f_X5_begin, h.1.fs, h.1.rs.2.2.1 s hs12, Option.bind_some, y1]
  have hP : ∀ p, sP (slA A s) = some p → p < npA A ∧ fsA A (slA A s) = pF (ptA A p) := fun p hp => by
    refine ⟨?_, by unfold fsA; rw [hp]⟩
    rcases slot_facts hw hs12 hk with ⟨-, q2, -⟩ | ⟨-, -, -, -, q, -⟩ | ⟨-, -, j, -, -, -, q, -⟩
    · rw [q2] at hp; cases hp
    · exact (q p hp).1
    · rw [q] at hp; cases hp
  cases hp : sP (slA A s) with
  | none => simp only [oI_none, if_true, fsA, hp, n_0]
  | some p =>
    obtain ⟨p1, p2⟩ := hP p hp
    simp only [oI_some, nI_m1 (show p < 2 ^ 31 by omega), if_false, h.1.rs.2.2.2.2.2.2.2.2.2.2.2.2.1 p (by omega), Option.bind_some, (h.2.2.2.2.2.1 p p1).2.2.1, p2]
theorem r_many_nil (h : Rq r dq cap S hs A) (hs12 : s < 12) (hk : kA A s = 45) : f_X5_many S r (nI s) = some 0 := by
  have e1 : ((45 : Int32) = 108) = False := by decide
  have e2 : ((45 : Int32) = 112) = False := by decide
  have e3 : ((45 : Int32) = 102) = False := by decide
  have e4 : ((45 : Int32) = 99) = False := by decide
  have e5 : ((45 : Int32) = 97) = False := by decide
  have e6 : ((45 : Int32) = 101) = False := by decide
  simp only [f_X5_many, f_X5_many_b98, h.1.fs, h.1.rs.1 s hs12, Option.bind_some, h.kd hs12, hk, e1, e2, e3, e4, e5, e6, if_false, if_true]
theorem r_many (h : Rq r dq cap S hs A) (hw : WF A) (hs12 : s < 12) (hk : kA A s ≠ 45) : f_X5_many S r (nI s) = some (nI (vw A s).length) := by
  obtain ⟨x1, x2⟩ := h.2.2.2.2.1 s hs12
  obtain ⟨y1, y2, y3⟩ := x2 hk
  have hn := h.2.1.2.1
  have hcap := h.1.2.2.2.2.2.2
  rcases slot_facts hw hs12 hk with ⟨q1, q2, q3, q4, q5, -⟩ | ⟨q1, q2, q3, q4, q5, q6, q7, q8, q9⟩ | ⟨q1, q2, j, q3, q4, q5, q6, q7, q8⟩
  · have hl : (vw A s).length = cpy (slA A s) := by rw [q4, List.length_replicate]
    obtain ⟨z1, z2⟩ := y2 q1
    have hc : kA A s = sK (slA A s) := rfl
    rcases q5 with e | e | ⟨e, e0⟩
    · have a1 : ((99 : Int32) = 108) = False := by decide
      have a2 : ((99 : Int32) = 112) = False := by decide
      have a3 : ((99 : Int32) = 102) = False := by decide
      have : cpy (slA A s) = sR (slA A s) := by unfold cpy; rw [← hc, e, if_neg (by decide)]
      simp only [f_X5_many, h.1.fs, h.1.rs.1 s hs12, h.1.rs.2.1 s hs12, Option.bind_some, h.kd hs12, e, a1, a2, a3, if_false, if_true, z1 (hc ▸ e), hl, this]
    · have a1 : ((97 : Int32) = 108) = False := by decide
      have a2 : ((97 : Int32) = 112) = False := by decide
      have a3 : ((97 : Int32) = 102) = False := by decide
      have a4 : ((97 : Int32) = 99) = False := by decide
      have : cpy (slA A s) = 1 := by unfold cpy; rw [← hc, e, if_pos rfl]
      simp only [f_X5_many, h.1.fs, h.1.rs.1 s hs12, Option.bind_some, h.kd hs12, e, a1, a2, a3, a4, if_false, if_true, hl, this, n_1]
    · have a1 : ((101 : Int32) = 108) = False := by decide
      have a2 : ((101 : Int32) = 112) = False := by decide
      have a3 : ((101 : Int32) = 102) = False := by decide
      have a4 : ((101 : Int32) = 99) = False := by decide
      have a5 : ((101 : Int32) = 97) = False := by decide
      simp only [f_X5_many, f_X5_many_b98, h.1.fs, h.1.rs.1 s hs12, Option.bind_some, h.kd hs12, e, a1, a2, a3, a4, a5, if_false, if_true, hl, e0, n_0]
  · have hb : f_X5_many_b25 S r (nI s) = some (nI (vw A s).length) := by
      simp only [f_X5_many_b25, h.1.fs, h.1.rs.2.2.1 s hs12, h.1.rs.2.1 s hs12, Option.bind_some, y1, (y3 q1).1, q4]
      cases hp : sP (slA A s) with
      | none => simp only [oI_none, if_true, h.1.rs.2.2.2.2.2.2.1 _ q3, Option.bind_some, (h.2.2.1 _ q3).1, (q9 hp).2]
      | some p =>
        obtain ⟨g1, g2, g3⟩ := q5 p hp
        simp only [oI_some, nI_m1 (show p < 2 ^ 31 by omega), if_false, h.1.rs.2.2.2.2.2.2.2.2.2.2.2.2.2.1 p (by omega), Option.bind_some, (h.2.2.2.2.2.1 p g1).2.2.2.1, (q8 p hp).2]
    have a1 : ((112 : Int32) = 108) = False := by decide
    have a2 : ((102 : Int32) = 108) = False := by decide
    have a3 : ((102 : Int32) = 112) = False := by decide
    rcases q2 with e | e | e
    · simp only [f_X5_many, h.1.fs, h.1.rs.1 s hs12, Option.bind_some, h.kd hs12, e, if_true, hb]
    · simp only [f_X5_many, h.1.fs, h.1.rs.1 s hs12, Option.bind_some, h.kd hs12, e, a1, if_false, if_true, hb]
    · simp only [f_X5_many, h.1.fs, h.1.rs.1 s hs12, Option.bind_some, h.kd hs12, e, a2, a3, if_false, if_true, hb]
  · have hne : kA A s ≠ 108 ∧ kA A s ≠ 112 ∧ kA A s ≠ 102 ∧ kA A s ≠ 99 ∧ kA A s ≠ 97 ∧ kA A s ≠ 101 := by
      rcases q2 with e | e | e | e <;> (rw [e]; decide)
    obtain ⟨n1, n2, n3, n4, n5, n6⟩ := hne
    simp only [f_X5_many, h.1.fs, h.1.rs.1 s hs12, h.1.rs.2.1 s hs12, Option.bind_some, h.kd hs12, n1, n2, n3, n4, n5, n6, hk, if_false, (y3 q1).1, q4, h.1.rs.2.2.2.2.2.2.2.1 j q3, (h.2.2.2.1 j q3).1, q8]
/-- the thing at a place -/
theorem r_thing (h : Rq r dq cap S hs A) (hw : WF A) (hs12 : s < 12) (hk : kA A s ≠ 45) {i : Nat} (hi : i < (vw A s).length) : f_X5_key S r (nI s) (nI i) = some ((vw A s).getD i tz).2.1 ∧ f_X5_mark S r (nI s) (nI i) = some ((vw A s).getD i tz).2.2 := by
  obtain ⟨x1, x2⟩ := h.2.2.2.2.1 s hs12
  obtain ⟨y1, y2, y3⟩ := x2 hk
  have hn := h.2.1.2.1
  have hbeg := r_begin h hw hs12 hk
  rcases slot_facts hw hs12 hk with ⟨q1, q2, q3, q4, q5, -⟩ | ⟨q1, q2, q3, q4, q5, q6, q7, q8, q9⟩ | ⟨q1, q2, j, q3, q4, q5, q6, q7, q8⟩
  · have hl : (vw A s).length = cpy (slA A s) := by rw [q4, List.length_replicate]
    obtain ⟨z1, z2⟩ := y2 q1
    have hc : kA A s = sK (slA A s) := rfl
    have hg : (vw A s).getD i tz = (0, sY (slA A s), sM (slA A s)) := by rw [q4]; exact gd_rep (by omega)
    rw [hg]
    rcases q5 with e | e | ⟨e, e0⟩
    · have a1 : ((99 : Int32) = 108) = False := by decide
      have a2 : ((99 : Int32) = 112) = False := by decide
      have a3 : ((99 : Int32) = 102) = False := by decide
      obtain ⟨w1, w2⟩ := z2 (by rw [← hc, e]; decide)
      simp only [f_X5_key, f_X5_mark, f_X5_key_b57, f_X5_mark_b57, h.1.fs, h.1.rs.1 s hs12, h.1.rs.2.2.2.1 s hs12, h.1.rs.2.2.2.2.1 s hs12, Option.bind_some, h.kd hs12, e, a1, a2, a3, if_false, if_true, w1, w2, and_self]
    · have a1 : ((97 : Int32) = 108) = False := by decide
      have a2 : ((97 : Int32) = 112) = False := by decide
      have a3 : ((97 : Int32) = 102) = False := by decide
      have a4 : ((97 : Int32) = 99) = False := by decide
      obtain ⟨w1, w2⟩ := z2 (by rw [← hc, e]; decide)
      simp only [f_X5_key, f_X5_mark, f_X5_key_b57, f_X5_mark_b57, h.1.fs, h.1.rs.1 s hs12, h.1.rs.2.2.2.1 s hs12, h.1.rs.2.2.2.2.1 s hs12, Option.bind_some, h.kd hs12, e, a1, a2, a3, a4, if_false, if_true, w1, w2, and_self]
    · omega
  · have h24 := (hw.1 _ (show sR (slA A s) < 4 by omega)).1
    have hg : (vw A s).getD i tz = (rwA A (sR (slA A s))).getD (fsA A (slA A s) + i) tz := by rw [q7, gd_viw hi]
    have hb : f_X5_key_b25 S r (nI s) (nI i) = some ((vw A s).getD i tz).2.1 ∧ f_X5_mark_b25 S r (nI s) (nI i) = some ((vw A s).getD i tz).2.2 := by
      obtain ⟨b1, b2⟩ := (h.2.2.1 _ q3).2 (fsA A (slA A s) + i) (by omega)
      simp only [f_X5_key_b25, f_X5_mark_b25, h.1.fs, beq_self_eq_true, gck_t, h.1.rs.2.1 s hs12, Option.bind_some, (y3 q1).1, q4, h.1.ro.1 _ q3, h.1.ro.2.1 _ q3, hbeg, nI_add, h.1.rb.1 _ _ q3 (show fsA A (slA A s) + i < 24 by omega), h.1.rb.2.1 _ _ q3 (show fsA A (slA A s) + i < 24 by omega), b1, b2, hg, and_self]
    have a1 : ((112 : Int32) = 108) = False := by decide
    have a2 : ((102 : Int32) = 108) = False := by decide
    have a3 : ((102 : Int32) = 112) = False := by decide
    rcases q2 with e | e | e
    · simp only [f_X5_key, f_X5_mark, h.1.fs, h.1.rs.1 s hs12, Option.bind_some, h.kd hs12, e, if_true, hb, and_self]
    · simp only [f_X5_key, f_X5_mark, h.1.fs, h.1.rs.1 s hs12, Option.bind_some, h.kd hs12, e, a1, if_false, if_true, hb, and_self]
    · simp only [f_X5_key, f_X5_mark, h.1.fs, h.1.rs.1 s hs12, Option.bind_some, h.kd hs12, e, a2, a3, if_false, if_true, hb, and_self]
  · have h24 := (hw.1 (2 + j) (by omega)).1
    have hne : kA A s ≠ 108 ∧ kA A s ≠ 112 ∧ kA A s ≠ 102 ∧ kA A s ≠ 99 ∧ kA A s ≠ 97 := by
      rcases q2 with e | e | e | e <;> (rw [e]; decide)
    obtain ⟨n1, n2, n3, n4, n5⟩ := hne
    rw [q8] at hi
    obtain ⟨b0, b1, b2⟩ := (h.2.2.2.1 j q3).2 i hi
    simp only [f_X5_key, f_X5_mark, h.1.fs, h.1.rs.1 s hs12, h.1.rs.2.1 s hs12, Option.bind_some, h.kd hs12, n1, n2, n3, n4, n5, if_false, (y3 q1).1, q4, h.1.ro.2.2.2.1 j q3, h.1.ro.2.2.2.2 j q3, h.1.rb.2.2.2.1 j i q3 (by omega), h.1.rb.2.2.2.2 j i q3 (by omega), b1, b2, q8, and_self]
/-- what is seen of a slot: how many, keys, marks -/
def rVw (S : GS) (r s : Nat) (V : List Tr) : Prop := gT S r = 6 ∧ f_X5_many S r (nI s) = some (nI V.length) ∧ V.length ≤ 24 ∧ ∀ i, i < V.length → f_X5_key S r (nI s) (nI i) = some (V.getD i tz).2.1 ∧ f_X5_mark S r (nI s) (nI i) = some (V.getD i tz).2.2
theorem vw_24 (hw : WF A) (hs12 : s < 12) (hk : kA A s ≠ 45) : (vw A s).length ≤ 24 := by
  rcases slot_facts hw hs12 hk with ⟨q1, q2, q3, q4, q5, -⟩ | ⟨q1, q2, q3, q4, q5, q6, q7, q8, q9⟩ | ⟨q1, q2, j, q3, q4, q5, q6, q7, q8⟩
  · rw [q4, List.length_replicate]; exact q3
  · have h24 := (hw.1 _ (show sR (slA A s) < 4 by omega)).1
    omega
  · rw [q8]; exact (hw.1 (2 + j) (by omega)).1
theorem Rq.see (h : Rq r dq cap S hs A) (hw : WF A) (hs12 : s < 12) (hk : kA A s ≠ 45) : rVw S r s (vw A s) := ⟨h.1.1, r_many h hw hs12 hk, vw_24 hw hs12 hk, fun i hi => r_thing h hw hs12 hk hi⟩
end RView
