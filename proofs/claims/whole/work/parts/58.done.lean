/-! a change by way of a list or part, brought to its end -/
theorem kLs_op {A : AS} {s : Nat} (hw : WF A) (hs : s < 12) (hk : kLs (sK (slA A s)) = true) (ho : sO (slA A s) = true) : sK (slA A s) = 108 ∨ sK (slA A s) = 112 := by
  have h45 := (kLs_ne hk).2.2.2.2
  obtain ⟨v1, v2, v3, v4, v5, v6, v7, -⟩ := hw.2.1 s hs h45
  have nf : sK (slA A s) ≠ 102 := fun e => by rw [v6 (Or.inr (Or.inl e))] at ho; cases ho
  have nc : isC (slA A s) ≠ true := fun e => by rw [v6 (Or.inr (Or.inr e))] at ho; cases ho
  unfold kLs at hk
  unfold isC at nc
  simp only [Bool.or_eq_true, beq_iff_eq] at hk nc
  rcases hk with ((((h | h) | h) | h) | h) | h
  · exact Or.inl h
  · exact Or.inr h
  · exact absurd h nf
  · exact absurd (by rw [h]; decide) nc
  · exact absurd (by rw [h]; decide) nc
  · exact absurd (by rw [h]; decide) nc
theorem c_open {A : AS} {S : GS} {b s a : Nat} (h : has A S b s a) (hw : WF A) : f_X4_openStore S (some a) = some (if sO (slA A s) = true then .inl (some (stB b (sR (slA A s)))) else .inr 3) := by
  obtain ⟨h1, h2, h3, h4, h5, h6⟩ := h
  obtain ⟨v1, v2, v3, v4, v5, v6, -⟩ := hw.2.1 s h1 h2
  unfold f_X4_openStore
  simp only [gfI_at h4.1, h5, Option.bind_some, gfR_at h4.1, h4.2.2.1, b2i_0]
  cases ho : sO (slA A s)
  · simp
  · cases hc : isC (slA A s)
    · simp
    · have := v6 (Or.inr (Or.inr hc)); rw [ho] at this; cases this
theorem c_needRoom {S : GS} {st m : Nat} {L : List Tr} (h : cSt S st L) (hm : m ≤ 24) : f_X4_needRoom S (some st) (nI m) = some (if L.length + m ≤ 24 then .inl () else .inr 5) := by
  have h3 := h.2.2.1
  unfold f_X4_needRoom
  rw [gfI_at h.1.1, h.2.1, Option.bind_some, nI_add, n_24]
  simp (disch := omega) only [nI_leI]
  by_cases e : L.length + m ≤ 24
  · rw [if_pos e, if_pos e]
  · rw [if_neg e, if_neg e]
theorem has.keep {A : AS} {S : GS} {b s a k hs : Nat} {pa ch : Nat → Nat} (h : has A S b s a) (hr : Rcp b k pa ch S hs A) : gT S a = 2 ∧ gR S a 2 = (if isC (slA A s) = true then none else some (stB b (sR (slA A s)))) ∧ gR S a 3 = (sP (slA A s)).map pa := by
  obtain ⟨h1, h2, h3, h4, h5, h6⟩ := h
  obtain ⟨c, d1, d2, d3, d4, d5, d6, d7⟩ := (hr.2.2.2.1 s h1).2 h2
  rw [h3] at d1
  cases d1
  exact ⟨d2, d5, d6⟩
theorem c_done {A : AS} {S S1 : GS} {b s a k hs : Nat} {pa ch ch1 : Nat → Nat} {V : List Tr} {x2 : Int32} (hr : Rcp b k pa ch S hs A) (hw : WF A) (h5 : has A S b s a) (hk : sK (slA A s) = 108 ∨ sK (slA A s) = 112) (hk6 : k < 600) (hn : npA A ≤ k)
    (h1 : Rcp b k pa ch1 S1 hs (rowC A s V)) (fR : ∀ x i, gR S1 x i = gR S x i) (fT : ∀ x, gT S1 x = gT S x) (hV : ∀ t ∈ V, inB t) (hl : (rwA A (sR (slA A s))).length - (vw A s).length + V.length ≤ 24)
    (hx : x2 = 0 ↔ (vw A s).length = V.length) (hx2 : ∀ n, (vw A s).length ≤ n → n ≤ 24 → nI n + x2 = nI (n + V.length - (vw A s).length)) :
    ∃ S' ch', f_X4_settle S1 b (some a) x2 = some S' ∧ Rcp b (k + 1) pa ch' S' hs (chgA A s V) ∧ WF (chgA A s V) ∧ cVw S' a (kA A s) V ∧ gT S' b = 5 := by
  obtain ⟨l1, l2, l3, l4, l5, l6, l7, l8⟩ := lst_facts hw h5.1 (by rcases hk with h | h; exact Or.inl h; exact Or.inr (Or.inl h))
  obtain ⟨g1, g2, g3⟩ := h5.keep hr
  rw [l2] at g2
  have hC : wC (rowC A s V) := hw.wC
  have hS : wS (rowC A s V) := hw.wS
  have ho : okP (rowC A s V) (sR (slA A s)) (sP (slA A s)) := l3
  have hwf := WF_chg (V := V) hw h5.1 hk hV hl
  obtain ⟨S', ch', y1, y2, y3, y4, y5⟩ := c_settle (za := (vw A s).length) (zc := V.length) (x2 := x2) h1 hC hS hk6 (show sR (slA A s) < 4 by omega) ho (by rw [fT]; exact g1) (by rw [fR]; exact g2) (by rw [fR]; exact g3) (show npA A ≤ 600 by omega) hx (fun q hq => by
    have hm : q ∈ chA A (sP (slA A s)) := by
      have : chA (rowC A s V) (sP (slA A s)) = chA A (sP (slA A s)) := chA_row
      rw [← this]; exact hq
    obtain ⟨z1, z2, z3⟩ := l8 q hm
    obtain ⟨c1, -, -⟩ := chA_in (p := 0) hw.wC l3
    obtain ⟨w1, w2, w3⟩ := c1 q hm
    have := (hw.2.2.2.2.2.1 q w1 w2).2.1
    have := (hw.1 _ (show pL (ptA A q) < 4 by omega)).1
    exact hx2 _ z1 (by show pZ (ptA A q) ≤ 24; omega))
  refine ⟨S', ch', y1, y2, hwf, ?_, by rw [y4, fT]; exact hr.1.1.1⟩
  have y2 : Rcp b (k + 1) pa ch' S' hs (chgA A s V) := y2
  obtain ⟨e1, e2⟩ := vw_chg (V := V) hw h5.1 hk
  obtain ⟨a', p1, p2, -⟩ := y2.pane hwf h5.1 (by rw [e1]; exact h5.2.1)
  have : a' = a := by
    rcases y5 s with z | z
    · rw [z, fR, h5.2.2.1] at p1; cases p1; rfl
    · rw [z] at p1; cases p1
  subst this
  have hv := p2.view
  rw [e1] at hv
  have e3 : vwA (chgA A s V) (slA A s) = V := by
    have := e2
    unfold vw at this
    rw [e1] at this
    exact this
  rw [e3] at hv
  exact hv
/-! lists: what is done to a row is done to the stretch -/
theorem len_ins {V : List Tr} {x : Tr} {i : Nat} (h : i ≤ V.length) : (V.insertIdx i x).length = V.length + 1 := by rw [List.length_insertIdx, if_pos h]
theorem len_era {V : List Tr} {i : Nat} (h : i < V.length) : (V.eraseIdx i).length = V.length - 1 := by rw [List.length_eraseIdx, if_pos h]
theorem ins_spl {L : List Tr} {f z i : Nat} {x : Tr} (h : f + z ≤ L.length) (hi : i ≤ z) : L.insertIdx (f + i) x = spl L f z ((viw L f z).insertIdx i x) := by
  have hV := viw_len h
  have l1 := len_ins (V := viw L f z) (x := x) (i := i) (by omega)
  refine tl_ext (by rw [len_ins (by omega), spl_len h, l1]; omega) fun k hk => ?_
  rw [gd_ins (by omega), gd_spl h, l1, hV]
  by_cases a : k < f
  · rw [if_pos (by omega), if_pos a]
  · rw [if_neg a]
    by_cases b : k < f + (z + 1)
    · rw [if_pos b, gd_ins (by omega)]
      by_cases c : k < f + i
      · rw [if_pos c, if_pos (by omega), gd_viw (by omega)]
        exact congrArg (fun q => L.getD q tz) (by omega)
      · rw [if_neg c]
        by_cases d : k = f + i
        · rw [if_pos d, if_neg (by omega), if_pos (by omega)]
        · rw [if_neg d, if_neg (by omega), if_neg (by omega), gd_viw (by omega)]
          exact congrArg (fun q => L.getD q tz) (by omega)
    · rw [if_neg b, if_neg (by omega), if_neg (by omega)]
      exact congrArg (fun q => L.getD q tz) (by omega)
theorem era_spl {L : List Tr} {f z i : Nat} (h : f + z ≤ L.length) (hi : i < z) : L.eraseIdx (f + i) = spl L f z ((viw L f z).eraseIdx i) := by
  have hV := viw_len h
  have l1 := len_era (V := viw L f z) (i := i) (by omega)
  refine tl_ext (by rw [len_era (by omega), spl_len h, l1]; omega) fun k hk => ?_
  rw [gd_era, gd_spl h, l1, hV]
  by_cases a : k < f
  · rw [if_pos (by omega), if_pos a]
  · rw [if_neg a]
    by_cases b : k < f + (z - 1)
    · rw [if_pos b, gd_era]
      by_cases c : k < f + i
      · rw [if_pos c, if_pos (by omega), gd_viw (by omega)]
        exact congrArg (fun q => L.getD q tz) (by omega)
      · rw [if_neg c, if_neg (by omega), gd_viw (by omega)]
        exact congrArg (fun q => L.getD q tz) (by omega)
    · rw [if_neg b, if_neg (by omega)]
      exact congrArg (fun q => L.getD q tz) (by omega)
theorem set_spl {L : List Tr} {f z i : Nat} {x : Tr} (h : f + z ≤ L.length) (hi : i < z) : L.set (f + i) x = spl L f z ((viw L f z).set i x) := by
  have hV := viw_len h
  have l1 : ((viw L f z).set i x).length = z := by rw [List.length_set]; exact hV
  refine tl_ext (by rw [List.length_set, spl_len h, l1]; omega) fun k hk => ?_
  rw [gd_set (by omega), gd_spl h, l1]
  by_cases a : k < f
  · rw [if_neg (by omega), if_pos a]
  · rw [if_neg a]
    by_cases b : k < f + z
    · rw [if_pos b, gd_set (by omega)]
      by_cases c : k = f + i
      · rw [if_pos c, if_pos (by omega)]
      · rw [if_neg c, if_neg (by omega), gd_viw (by omega)]
        exact congrArg (fun q => L.getD q tz) (by omega)
    · rw [if_neg b, if_neg (by omega)]
      exact congrArg (fun q => L.getD q tz) (by omega)
theorem spl_spl {L M N : List Tr} {f z : Nat} (h : f + z ≤ L.length) : spl (spl L f z M) f M.length N = spl L f z N := by
  have l0 := spl_len (M := M) h
  refine tl_ext ?_ fun k hk => ?_
  · rw [spl_len (by omega), l0, spl_len h]; omega
  · have g1 := gd_spl (L := spl L f z M) (M := N) (f := f) (z := M.length) (k := k) (by omega)
    have g2 := gd_spl (L := L) (M := N) (f := f) (z := z) (k := k) h
    rw [g1, g2]
    by_cases a : k < f
    · rw [if_pos a, if_pos a, gd_spl h, if_pos a]
    · rw [if_neg a, if_neg a]
      by_cases b : k < f + N.length
      · rw [if_pos b, if_pos b]
      · rw [if_neg b, if_neg b, gd_spl h, if_neg (by omega), if_neg (by omega)]
        exact congrArg (fun q => L.getD q tz) (by omega)
theorem mem_ins {V : List Tr} {x t : Tr} {i : Nat} (h : t ∈ V.insertIdx i x) : t = x ∨ t ∈ V := by
  obtain ⟨k, hk⟩ := List.mem_iff_getElem?.mp h
  rw [List.getElem?_insertIdx] at hk
  by_cases a : k < i
  · rw [if_pos a] at hk; exact Or.inr (List.mem_iff_getElem?.mpr ⟨k, hk⟩)
  · rw [if_neg a] at hk
    by_cases c : k = i
    · rw [if_pos c] at hk
      by_cases d : k ≤ V.length
      · rw [if_pos d] at hk; exact Or.inl (Option.some.inj hk).symm
      · rw [if_neg d] at hk; cases hk
    · rw [if_neg c] at hk; exact Or.inr (List.mem_iff_getElem?.mpr ⟨k - 1, hk⟩)
theorem thOk_in {k m n : Int32} (h : thOk k m = true) : inB (n, k, m) := by unfold thOk at h; have h2 := of_decide_eq_true h; exact h2
