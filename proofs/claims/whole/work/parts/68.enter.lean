/-! numbers in maps: what enters keeps the order; enter, strike -/
theorem fIdx_none {q : Tr → Bool} : ∀ (l : List Tr) (i : Nat), i + l.length < 2 ^ 31 → fIdx q l i = -1 → ∀ t ∈ l, q t = false := by
  intro l
  induction l with
  | nil => intro i _ _ t ht; cases ht
  | cons u l ih =>
    intro i hi h t ht
    simp only [List.length_cons] at hi
    unfold fIdx at h
    by_cases hq : q u = true
    · rw [if_pos hq] at h
      exfalso
      have h1 : ¬ nI i < 0 := nI_pos (by omega)
      rw [h] at h1
      exact h1 (by decide)
    · rw [if_neg hq] at h
      rcases List.mem_cons.mp ht with rfl | ht
      · exact Bool.eq_false_iff.mpr hq
      · exact ih (i + 1) (by omega) h t ht
theorem fIdx_some {q : Tr → Bool} {M : List Tr} : ∀ (l : List Tr) (i j : Nat), M.drop i = l → j < M.length → M.length < 2 ^ 31 → fIdx q l i = nI j → q (M.getD j tz) = true ∧ i ≤ j ∧ ∀ k, i ≤ k → k < j → q (M.getD k tz) = false := by
  intro l
  induction l with
  | nil =>
    intro i j _ hj hM h
    exfalso
    have h1 : ¬ nI j < 0 := nI_pos (by omega)
    rw [← h] at h1
    exact h1 (show (-1 : Int32) < 0 by decide)
  | cons u l ih =>
    intro i j h1 hj hM h
    obtain ⟨a1, a2, a3⟩ := gd_cons h1
    unfold fIdx at h
    by_cases hq : q u = true
    · rw [if_pos hq] at h
      have : i = j := (nI_eq (by omega) (by omega)).mp h
      subst this
      exact ⟨by rw [a2]; exact hq, Nat.le_refl _, fun k h1 h2 => by omega⟩
    · rw [if_neg hq] at h
      obtain ⟨g1, g2, g3⟩ := ih (i + 1) j a3 hj hM h
      refine ⟨g1, by omega, fun k h1 h2 => ?_⟩
      by_cases e : k = i
      · subst e; rw [a2]; exact Bool.eq_false_iff.mpr hq
      · exact g3 k (by omega) h2
theorem srt_lt {V : List Tr} (h : (V.map fun t => t.1.toInt).Pairwise (· < ·)) {i j : Nat} (hij : i < j) (hj : j < V.length) : (V.getD i tz).1.toInt < (V.getD j tz).1.toInt := by
  have := List.pairwise_iff_getElem.mp h i j (by rw [List.length_map]; omega) (by rw [List.length_map]; exact hj) hij
  rw [List.getElem_map, List.getElem_map] at this
  rw [gd_eq, gd_eq, List.getElem?_eq_getElem (by omega), List.getElem?_eq_getElem hj]
  exact this
theorem pEn_le {x : Int32} {L : List Tr} : ∀ p, pEn x L p ≤ p := by
  intro p
  induction p with
  | zero => exact Nat.le_refl _
  | succ p ih =>
    rw [pEn]
    by_cases c : x < (L.getD p tz).1
    · rw [if_pos c]; omega
    · rw [if_neg c]; exact Nat.le_refl _
theorem pEn_facts {x : Int32} {L : List Tr} : ∀ p, (∀ k, pEn x L p ≤ k → k < p → x < (L.getD k tz).1) ∧ (0 < pEn x L p → ¬ x < (L.getD (pEn x L p - 1) tz).1) := by
  intro p
  induction p with
  | zero => exact ⟨fun k h1 h2 => by omega, fun h => absurd h (Nat.lt_irrefl _)⟩
  | succ p ih =>
    rw [pEn]
    by_cases c : x < (L.getD p tz).1
    · rw [if_pos c]
      refine ⟨fun k h1 h2 => ?_, ih.2⟩
      by_cases e : k = p
      · rw [e]; exact c
      · exact ih.1 k h1 (by omega)
    · rw [if_neg c]
      exact ⟨fun k h1 h2 => by omega, fun _ => c⟩
theorem map_ins {α : Type} {V : List Tr} {x : Tr} {i : Nat} {g : Tr → α} : (V.insertIdx i x).map g = (V.map g).insertIdx i (g x) := by
  refine List.ext_getElem? fun k => ?_
  rw [List.getElem?_map, List.getElem?_insertIdx, List.getElem?_insertIdx, List.length_map, List.getElem?_map, List.getElem?_map]
  by_cases a : k < i
  · rw [if_pos a, if_pos a]
  · rw [if_neg a, if_neg a]
    by_cases c : k = i
    · rw [if_pos c, if_pos c]
      by_cases d : k ≤ V.length
      · rw [if_pos d, if_pos d]; rfl
      · rw [if_neg d, if_neg d]; rfl
    · rw [if_neg c, if_neg c]
theorem nodup_ins {V : List Tr} {x : Tr} {i : Nat} (hi : i ≤ V.length) (h : (V.map fun t => t.1).Nodup) (hx : ∀ t ∈ V, t.1 ≠ x.1) : ((V.insertIdx i x).map fun t => t.1).Nodup := by
  have e : V.insertIdx i x = V.take i ++ x :: V.drop i := by
    have := ins_app (P := V.take i) (Q := V.drop i) (x := x)
    rw [List.take_append_drop, List.length_take, Nat.min_eq_left hi] at this
    exact this
  have hp : (V.insertIdx i x).Perm (x :: V) := by
    rw [e]
    refine List.perm_middle.trans ?_
    rw [List.take_append_drop]
  refine (hp.map _).nodup_iff.mpr ?_
  rw [List.map_cons]
  refine List.nodup_cons.mpr ⟨fun hm => ?_, h⟩
  obtain ⟨u, hu, he⟩ := List.mem_map.mp hm
  exact hx u hu he
theorem srt_ins {V : List Tr} {n k m : Int32} (h : (V.map fun t => t.1.toInt).Pairwise (· < ·)) (hx : ∀ t ∈ V, t.1 ≠ n) : ((V.insertIdx (pEn n V V.length) (n, k, m)).map fun t => t.1.toInt).Pairwise (· < ·) := by
  have hle := pEn_le (x := n) (L := V) V.length
  obtain ⟨p1, p2⟩ := pEn_facts (x := n) (L := V) V.length
  refine List.pairwise_iff_getElem.mpr fun i j hi hj hij => ?_
  rw [List.getElem_map, List.getElem_map]
  rw [List.length_map, len_ins hle] at hi hj
  have e1 := gd_ins (L := V) (x := (n, k, m)) (p := pEn n V V.length) (i := i) hle
  have e2 := gd_ins (L := V) (x := (n, k, m)) (p := pEn n V V.length) (i := j) hle
  rw [gd_eq, List.getElem?_eq_getElem (by rw [len_ins hle]; omega)] at e1 e2
  have e1 : (V.insertIdx (pEn n V V.length) (n, k, m))[i]'(by rw [len_ins hle]; omega) = _ := e1
  have e2 : (V.insertIdx (pEn n V V.length) (n, k, m))[j]'(by rw [len_ins hle]; omega) = _ := e2
  rw [e1, e2]
  have below : ∀ i, i < pEn n V V.length → (V.getD i tz).1.toInt < n.toInt := fun i hi => by
    have hne := p2 (by omega)
    rw [Int32.lt_iff_toInt_lt] at hne
    have hlast : (V.getD (pEn n V V.length - 1) tz).1 ≠ n := hx _ (gd_mem (by omega))
    have hne2 : (V.getD (pEn n V V.length - 1) tz).1.toInt ≠ n.toInt := fun e => hlast (Int32.toInt_inj.mp e)
    by_cases e : i = pEn n V V.length - 1
    · rw [e]; omega
    · have := srt_lt h (i := i) (j := pEn n V V.length - 1) (by omega) (by omega)
      omega
  have above : ∀ k, pEn n V V.length ≤ k → k < V.length → n.toInt < (V.getD k tz).1.toInt := fun k h1 h2 => by
    have := p1 k h1 h2
    rw [Int32.lt_iff_toInt_lt] at this
    exact this
  by_cases a : i < pEn n V V.length
  · rw [if_pos a]
    by_cases c : j < pEn n V V.length
    · rw [if_pos c]; exact srt_lt h hij (by omega)
    · rw [if_neg c]
      by_cases d : j = pEn n V V.length
      · rw [if_pos d]; exact below i a
      · rw [if_neg d]; exact srt_lt h (by omega) (by omega)
  · rw [if_neg a]
    by_cases c : i = pEn n V V.length
    · rw [if_pos c, if_neg (by omega), if_neg (by omega)]
      exact above (j - 1) (by omega) (by omega)
    · rw [if_neg c, if_neg (by omega), if_neg (by omega)]
      exact srt_lt h (by omega) (by omega)
section CMap2
variable {b k hs : Nat} {S : GS} {A : AS}
/-- a map's row has changed, nothing else -/
theorem c_doneM {S S1 : GS} {s : Nat} {pa ch : Nat → Nat} {V : List Tr} (hr : Rcp b k pa ch S hs A) (hw : WF A) (hs12 : s < 12) (hm : sK (slA A s) = 109 ∨ sK (slA A s) = 70 ∨ sK (slA A s) = 107 ∨ sK (slA A s) = 118) (hk6 : k < 600) (hn : npA A ≤ k)
    (fr : cFr (stB b (sR (slA A s))) S S1) (hst : cSt S1 (stB b (sR (slA A s))) V) (hV : ∀ t ∈ V, inB t) (hnd : (V.map fun t => t.1).Nodup) (hso : sR (slA A s) = 3 → (V.map fun t => t.1.toInt).Pairwise (· < ·)) : Rc b (k + 1) S1 hs (chgA A s V) := by
  obtain ⟨m1, m2, m3, m4, m5, m6⟩ := map_facts hw hs12 hm
  have hwf := WF_chgM (V := V) hw hs12 hm hV hst.2.2.1 hnd hso
  obtain ⟨e1, e2, e3, e4⟩ := chgM_ext (V := V) hw hs12 hm
  refine ⟨hwf, by rw [np_chg]; omega, pa, ch, ?_⟩
  exact ((hr.row m2 fr hst).ext (fun j _ => e1 j) e2 e3 e4).mono (by omega) (by omega)
theorem kMp_or {x : Sl} (h : (kMp (sK x) || sK x == 107) = true) : sK x = 109 ∨ sK x = 70 ∨ sK x = 107 ∨ sK x = 118 := by
  unfold kMp at h
  simp only [Bool.or_eq_true, beq_iff_eq] at h
  rcases h with (h | h) | h
  · exact Or.inl h
  · exact Or.inr (Or.inl h)
  · exact Or.inr (Or.inr (Or.inl h))
theorem c_strike (h : Rc b k S hs A) (hk : k < 600) (x1 x2 : Int32) : cRes b k hs (f_X4_strike S b x1 x2) (m_strike A x1 x2) := by
  obtain ⟨hw, hn, pa, ch, hr⟩ := h
  unfold f_X4_strike m_strike
  simp only [hr.1.1.1, beq_self_eq_true, gck_t]
  rcases c_needNumbers (x := x1) hr hw with ⟨e, e1, e2⟩ | ⟨s, a, e1, e2, e3, e4, e5, e6⟩
  · rw [e1, e2]; rfl
  · rw [e1, e6, gth_l, c_open e5 hw]
    simp only [bnd]
    by_cases ho : sO (slA A s) = true
    rotate_left
    · simp only [Bool.eq_false_iff.mpr ho, Bool.false_eq_true, if_false, if_true, gth_r]; rfl
    · have hm := kMp_or e4
      obtain ⟨m1, m2, m3, m4, m5, m6⟩ := map_facts hw e5.1 hm
      have hst := (hr.2.1 _ m2).1
      have h24 := hst.2.2.1
      rw [← m6] at hst h24
      simp only [ho, if_true, gth_l, Bool.true_eq_false, if_false, gtk_at hst.1.1, Option.bind_some, f_poN hst]
      rcases fIdx_find (fun t => t.1 == x2) (M := vw A s) (vw A s) 0 rfl with ⟨-, g2⟩ | ⟨j, g0, g1, -⟩
      · have z1 : (-1 : Int32) < 0 := by decide
        have z2 : ¬ (0 : Int32) ≤ -1 := by decide
        rw [g2, f_remove_no hst, Option.bind_some, if_pos z1, if_neg z2]
        exact ⟨S, rfl, hw, by omega, pa, ch, hr.mono (by omega) (by omega)⟩
      · obtain ⟨S1, q1, q2, q3⟩ := f_remove (p := j) hst g0
        rw [g1, q1, Option.bind_some, if_neg (nI_pos (by omega)), if_pos (nI_pos' (by omega)), nI_clamp (by omega)]
        have hsub : ((vw A s).eraseIdx j).Sublist (rwA A (sR (slA A s))) := by rw [← m6]; exact List.eraseIdx_sublist ..
        exact ⟨S1, rfl, c_doneM hr hw e5.1 hm hk hn q3 q2 (fun t ht => (hw.1 _ m2).2 t (hsub.subset ht)) ((hsub.map _).nodup (hw.2.2.2.2.2.2.1 _ m1 m2)) (fun e => by
          rw [e] at hsub
          exact hw.2.2.2.2.2.2.2.sublist (hsub.map _))⟩
theorem c_enter (h : Rc b k S hs A) (hk : k < 600) (x1 x2 x3 x4 : Int32) : cRes b k hs (f_X4_enter S b x1 x2 x3 x4) (m_enter A x1 x2 x3 x4) := by
  obtain ⟨hw, hn, pa, ch, hr⟩ := h
  unfold f_X4_enter m_enter
  simp only [hr.1.1.1, beq_self_eq_true, gck_t]
  rcases c_needMap (x := x1) hr hw with ⟨e, e1, e2⟩ | ⟨s, a, e1, e2, e3, e4, e5, e6⟩
  · rw [e1, e2]; rfl
  · rw [e1, e6, gth_l, c_open e5 hw]
    simp only [bnd]
    by_cases ho : sO (slA A s) = true
    rotate_left
    · simp only [Bool.eq_false_iff.mpr ho, Bool.false_eq_true, if_false, if_true, gth_r]; rfl
    · have hm := kMp_or (x := slA A s) (by rw [e4]; rfl)
      obtain ⟨m1, m2, m3, m4, m5, m6⟩ := map_facts hw e5.1 hm
      obtain ⟨r1, r2, r3, r4⟩ := hr.2.1 _ m2
      have hst := r1
      have h24 := hst.2.2.1
      have hB := (hw.1 _ m2).2
      have hND := hw.2.2.2.2.2.2.1 _ m1 m2
      have hSO : sR (slA A s) = 3 → ((vw A s).map fun t => t.1.toInt).Pairwise (· < ·) := fun e => by rw [m6, e]; exact hw.2.2.2.2.2.2.2
      rw [← m6] at hst h24 hB hND
      simp only [ho, if_true, gth_l, Bool.true_eq_false, if_false, c_needThing]
      by_cases ht : thOk x3 x4 = true
      rotate_left
      · simp only [Bool.eq_false_iff.mpr ht, Bool.false_eq_true, if_false, if_true, gth_r]; rfl
      · simp only [ht, if_true, gth_l, Bool.true_eq_false, if_false, gtk_at hst.1.1, Option.bind_some, f_poN hst]
        rcases fIdx_find (fun t => t.1 == x2) (M := vw A s) (vw A s) 0 rfl with ⟨-, g2⟩ | ⟨j, g0, g1, -⟩
        · have z1 : (-1 : Int32) < 0 := by decide
          have z2 : ¬ (0 : Int32) ≤ -1 := by decide
          rw [g2, if_pos z1, if_neg z2, n_1, c_needRoom hst (by omega)]
          by_cases hroom : (vw A s).length + 1 ≤ 24
          rotate_left
          · rw [if_neg hroom, if_pos (by omega)]; rfl
          · rw [if_pos hroom, if_neg (by omega), gth_l]
            have hno : ∀ t ∈ vw A s, t.1 ≠ x2 := fun t ht e => by
              have := fIdx_none (vw A s) 0 (by omega) g2 t ht
              rw [e] at this
              simp at this
            have hpe : f_X3_placeToEnter S (stB b (sR (slA A s))) x2 = some (nI (pEA A s x2)) := by
              unfold pEA
              by_cases e : sR (slA A s) = 3
              · rw [if_pos e] at r2 ⊢
                exact f_pEn1 hst r2
              · rw [if_neg e] at r2 ⊢
                exact f_pEn0 hst r2
            have hple : pEA A s x2 ≤ (vw A s).length := by
              unfold pEA
              by_cases e : sR (slA A s) = 3
              · rw [if_pos e]; exact pEn_le _
              · rw [if_neg e]; exact Nat.le_refl _
            obtain ⟨S1, q1, q2, q3⟩ := f_insert (p := pEA A s x2) (nu := x2) (k := x3) (m := x4) hst hple (by omega)
            rw [hpe]
            simp only [Option.bind_some, q1, hst.1.1, beq_self_eq_true, gck_t]
            refine ⟨S1, rfl, c_doneM hr hw e5.1 hm hk hn q3 q2 (fun t ht' => ?_) (nodup_ins hple hND hno) (fun e => ?_)⟩
            · rcases mem_ins ht' with rfl | h9
              · exact thOk_in ht
              · exact hB t h9
            · have : pEA A s x2 = pEn x2 (vw A s) (vw A s).length := by unfold pEA; rw [if_pos e]
              rw [this]
              exact srt_ins (hSO e) hno
        · obtain ⟨f1, f2, f3⟩ := fIdx_some (M := vw A s) (vw A s) 0 j rfl g0 (by omega) g1
          have hnum : ((vw A s).getD j tz).1 = x2 := beq_iff_eq.mp f1
          obtain ⟨S1, q1, q2, q3⟩ := f_lay (i := j) (k := x3) (m := x4) hst g0
          rw [hnum] at q2
          rw [g1, if_neg (nI_pos (by omega)), if_pos (nI_pos' (by omega)), nI_clamp (by omega), q1]
          simp only [Option.bind_some]
          have em : ∀ {α : Type} (g : Int32 → α), ((vw A s).set j (x2, x3, x4)).map (fun t => g t.1) = (vw A s).map fun t => g t.1 := fun g => by
            refine List.ext_getElem? fun i => ?_
            rw [List.getElem?_map, List.getElem?_map, List.getElem?_set]
            by_cases e : j = i
            · subst e
              rw [if_pos rfl, if_pos g0, List.getElem?_eq_getElem g0]
              have : (vw A s)[j].1 = x2 := by rw [gd_eq, List.getElem?_eq_getElem g0] at hnum; exact hnum
              simp [this]
            · rw [if_neg e]
          refine ⟨S1, rfl, c_doneM hr hw e5.1 hm hk hn q3 q2 (fun t ht' => ?_) (by rw [em (fun x => x)]; exact hND) (fun e => by rw [em (fun x => x.toInt)]; exact hSO e)⟩
          rcases mem_set ht' with rfl | h9
          · exact thOk_in ht
          · exact hB t h9
end CMap2
