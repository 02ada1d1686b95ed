/-! the reference puts all of a row into a list -/
theorem nd22_no {A : AS} {x y : Int32} {q1 q2 : Int32 → Bool} (h : sIx x = none ∨ sIx y = none) : nd22 A x y q1 q2 = .inr 1 := by
  unfold nd22
  rcases h with h | h
  · rw [h]
  · rw [h]
    cases sIx x <;> rfl
theorem nd22_2 {A : AS} {s t : Nat} {q1 q2 : Int32 → Bool} (hs : s < 12) (ht : t < 12) : nd22 A (nI s) (nI t) q1 q2 = if (kA A s = 45 ∨ q1 (kA A s) = false) ∨ (kA A t = 45 ∨ q2 (kA A t) = false) then .inr 2 else .inl (s, t) := by
  unfold nd22
  rw [sIx_n hs, sIx_n ht]
section RPal
variable {S S' : GS} {r cap hs hs' : Nat} {dq : Nat → Nat} {A : AS}
/-- the other row is laid, at its place -/
theorem r_palI {s t p : Nat} {k159 : GS → Nat → Int32 → Int32 → Int32 → Int32 → Option (Int32 × GS × Nat)} {F : List Tr} (hw : WF A) (ht12 : t < 12) (et45 : kA A t ≠ 45) (hF : ∀ l, l < (vw A t).length → F.getD (p + l) tz = n0 ((vw A t).getD l tz)) (hFl : p + (vw A t).length ≤ F.length) (h72 : F.length ≤ 60) {T : GS} (h : Rq r dq cap T hs A) (hn : rNw T r (F.take p)) :
    ∃ T', f_X5_putAll_L172 k159 r gN T hs (nI s) (nI p) (nI t) (nI p) 0 = f_X5_putAll_b212 k159 r T' hs (nI s) (nI p) (nI t) (nI p) ∧ Rq r dq cap T' hs A ∧ rNw T' r (F.take (p + (vw A t).length)) ∧ gI T' r 19 = gI T r 19 := by
  have g24 := vw_24 hw ht12 et45
  obtain ⟨T', ⟨t1, t2, t3⟩, n, t4⟩ := lpG0 (F := fun n T i => f_X5_putAll_L172 k159 r n T hs (nI s) (nI p) (nI t) (nI p) i) (fun i U => Rq r dq cap U hs A ∧ rNw U r (F.take (p + i)) ∧ gI U r 19 = gI T r 19) (vw A t).length (fun n U i hi hI => by
    obtain ⟨i1, i2, i3⟩ := hI
    have hv := i1.see hw ht12 et45
    have q : ((vw A t).length ≤ i) = False := eq_false (by omega)
    obtain ⟨b1, b2⟩ := hv.2.2.2 i hi
    obtain ⟨T1, d1, d2, d3, d4, d5⟩ := r_layV i1 hw ht12 et45 hi i2 (by rw [List.length_take]; omega) 0
    have e9 : ((0 : Int32), ((vw A t).getD i tz).2.1, ((vw A t).getD i tz).2.2) = F.getD (p + i) tz := (hF i hi).symm
    rw [e9, ← take_s (by omega)] at d3
    refine ⟨T1, ⟨d2, d3, d4.trans i3⟩, ?_⟩
    simp (disch := omega) only [f_X5_putAll_L172, if_true, i1.1.1, beq_self_eq_true, gck_t, hv.2.1, Option.bind_some, nI_leI, q, if_false, b1, b2, d1, nI_1]) (by omega) T ⟨h, hn, rfl⟩
  refine ⟨T', ?_, t1, t2, t3⟩
  have hv := t1.see hw ht12 et45
  rw [t4]
  simp only [f_X5_putAll_L172, if_true, t1.1.1, beq_self_eq_true, gck_t, hv.2.1, Option.bind_some, Int32.le_refl]
theorem r_putAll (h : Rq r dq cap S hs A) (hw : WF A) (hp : npA A ≤ 511) (x y z : Int32) : rRes [1, 2, 3, 4, 5] r hs A (f_X5_putAll S hs r x y z) (m_putAll A x y z) := by
  have h0 := h.thr 0
  unfold m_putAll
  rcases c2s x z with e | ⟨s, hs12, rfl, e⟩ | ⟨s, t, hs12, rfl, ht12, rfl⟩
  · rw [nd22_no (Or.inl e)]
    exact rRes_no (i := 0) (v := 0) h rfl (by simp only [f_X5_putAll_b240, f_X5_putAll_b212, f_X5_putAll_b143, f_X5_putAll_b142, f_X5_putAll_b120, f_X5_putAll_b119, f_X5_putAll_b100, f_X5_putAll_b90, f_X5_putAll_b80, f_X5_putAll_b67, f_X5_putAll_b66, f_X5_putAll_b47, f_X5_putAll_b46, f_X5_putAll_b19, f_X5_putAll_b18, f_X5_putAll, h.1.fs, beq_self_eq_true, gck_t, Option.bind_some, b2i_1, e20, e30, e40, e50, if_true, if_false, r_fails h.1.1, fcd, gb2_s, r_slot0 S e]; rfl)
  · rw [nd22_no (Or.inr e)]
    exact rRes_no (i := 0) (v := 0) h rfl (by simp only [f_X5_putAll_b240, f_X5_putAll_b212, f_X5_putAll_b143, f_X5_putAll_b142, f_X5_putAll_b120, f_X5_putAll_b119, f_X5_putAll_b100, f_X5_putAll_b90, f_X5_putAll_b80, f_X5_putAll_b67, f_X5_putAll_b66, f_X5_putAll_b47, f_X5_putAll_b46, f_X5_putAll_b19, f_X5_putAll_b18, f_X5_putAll, h.1.fs, beq_self_eq_true, gck_t, Option.bind_some, b2i_1, e20, e30, e40, e50, if_true, if_false, r_fails h.1.1, fcd, gb2_s, r_slot0 S e, r_slot1 S hs12]; rfl)
  · rw [nd22_2 hs12 ht12]
    have e2 := r_isList h hs12
    have e4 := r_isRow h ht12
    by_cases hb : (kA A s = 45 ∨ kLs (kA A s) = false) ∨ (kA A t = 45 ∨ isRw (kA A t) = false)
    · rw [if_pos hb]
      rcases hb with hb | hb
      · have e := or_bad (q := kLs) hb (by decide)
        rw [e] at e2
        exact rRes_no (i := 1) (v := 0) h rfl (by simp only [f_X5_putAll_b240, f_X5_putAll_b212, f_X5_putAll_b143, f_X5_putAll_b142, f_X5_putAll_b120, f_X5_putAll_b119, f_X5_putAll_b100, f_X5_putAll_b90, f_X5_putAll_b80, f_X5_putAll_b67, f_X5_putAll_b66, f_X5_putAll_b47, f_X5_putAll_b46, f_X5_putAll_b19, f_X5_putAll_b18, f_X5_putAll, h.1.fs, beq_self_eq_true, gck_t, Option.bind_some, b2i_1, e20, e30, e40, e50, if_true, if_false, r_fails h.1.1, fcd, gb2_s, e2, b2i_f, r_slot1 S hs12, r_slot1 S ht12]; rfl)
      · have e : (kLs (kA A t) || kA A t == 118) = false := or_bad (q := isRw) hb (by decide)
        rw [e] at e4
        cases e9 : kLs (kA A s)
        · rw [e9] at e2
          exact rRes_no (i := 1) (v := 0) h rfl (by simp only [f_X5_putAll_b240, f_X5_putAll_b212, f_X5_putAll_b143, f_X5_putAll_b142, f_X5_putAll_b120, f_X5_putAll_b119, f_X5_putAll_b100, f_X5_putAll_b90, f_X5_putAll_b80, f_X5_putAll_b67, f_X5_putAll_b66, f_X5_putAll_b47, f_X5_putAll_b46, f_X5_putAll_b19, f_X5_putAll_b18, f_X5_putAll, h.1.fs, beq_self_eq_true, gck_t, Option.bind_some, b2i_1, e20, e30, e40, e50, if_true, if_false, r_fails h.1.1, fcd, gb2_s, e2, e4, b2i_f, r_slot1 S hs12, r_slot1 S ht12]; rfl)
        · rw [e9] at e2
          exact rRes_no (i := 1) (v := 0) h rfl (by simp only [f_X5_putAll_b240, f_X5_putAll_b212, f_X5_putAll_b143, f_X5_putAll_b142, f_X5_putAll_b120, f_X5_putAll_b119, f_X5_putAll_b100, f_X5_putAll_b90, f_X5_putAll_b80, f_X5_putAll_b67, f_X5_putAll_b66, f_X5_putAll_b47, f_X5_putAll_b46, f_X5_putAll_b19, f_X5_putAll_b18, f_X5_putAll, h.1.fs, beq_self_eq_true, gck_t, Option.bind_some, b2i_1, e20, e30, e40, e50, if_true, if_false, r_fails h.1.1, fcd, gb2_s, e2, e4, b2i_f, b2i_t, r_slot1 S hs12, r_slot1 S ht12]; rfl)
    · rw [if_neg hb]
      have e45 : kA A s ≠ 45 := fun z => hb (Or.inl (Or.inl z))
      have et45 : kA A t ≠ 45 := fun z => hb (Or.inr (Or.inl z))
      have e : kLs (kA A s) = true := by
        cases z : kLs (kA A s)
        · exact absurd (Or.inl (Or.inr z)) hb
        · rfl
      have et : (kLs (kA A t) || kA A t == 118) = true := by
        cases z : (kLs (kA A t) || kA A t == 118)
        · exact absurd (Or.inr (Or.inr z)) hb
        · rfl
      rw [e] at e2
      rw [et] at e4
      have e3 := r_canChange h hw hs12 e45
      have hv := h.see hw hs12 e45
      have gv := h.see hw ht12 et45
      have h24 := hv.2.2.1
      have gt24 := gv.2.2.1
      show rRes _ _ _ _ _ (if sO (slA A s) = false then .inr 3 else if inP y ((vw A s).length + 1) = false then .inr 4 else if 24 < (rwA A (sR (slA A s))).length + (vw A t).length then .inr 5 else .inl (nI ((vw A s).length + (vw A t).length), chgA A s ((vw A s).take y.toNatClampNeg ++ (vw A t).map n0 ++ (vw A s).drop y.toNatClampNeg)))
      cases ho : sO (slA A s)
      · rw [ho] at e3
        exact rRes_no (i := 2) (v := 0) h rfl (by simp only [f_X5_putAll_b240, f_X5_putAll_b212, f_X5_putAll_b143, f_X5_putAll_b142, f_X5_putAll_b120, f_X5_putAll_b119, f_X5_putAll_b100, f_X5_putAll_b90, f_X5_putAll_b80, f_X5_putAll_b67, f_X5_putAll_b66, f_X5_putAll_b47, f_X5_putAll_b46, f_X5_putAll_b19, f_X5_putAll_b18, f_X5_putAll, h.1.fs, beq_self_eq_true, gck_t, Option.bind_some, b2i_1, e20, e30, e40, e50, if_true, if_false, r_fails h.1.1, fcd, gb2_s, e2, e4, e3, b2i_f, b2i_t, r_slot1 S hs12, r_slot1 S ht12]; rfl)
      · rw [ho] at e3
        simp only [Bool.true_eq_false, if_false]
        have hk2 := kLs_op hw hs12 e ho
        obtain ⟨l1, l2, l3, l4, l5, -⟩ := lst_facts hw hs12 (hk2.elim Or.inl (fun h => Or.inr (Or.inl h)))
        have g24 := (hw.1 _ (show sR (slA A s) < 4 by omega)).1
        have hroom := r_hasRoom h hw hs12 hk2 (m := (vw A t).length) (by omega)
        cases hip : inP y ((vw A s).length + 1)
        · simp only [if_true]
          have hex : decide ((rwA A (sR (slA A s))).length + (vw A t).length ≤ 24) = true ∨ decide ((rwA A (sR (slA A s))).length + (vw A t).length ≤ 24) = false := by cases decide ((rwA A (sR (slA A s))).length + (vw A t).length ≤ 24) <;> simp
          refine rRes_no (i := 3) (v := 0) h rfl ?_
          rcases hex with z | z <;> (rw [z] at hroom; simp only [f_X5_putAll_b240, f_X5_putAll_b212, f_X5_putAll_b143, f_X5_putAll_b142, f_X5_putAll_b120, f_X5_putAll_b119, f_X5_putAll_b100, f_X5_putAll_b90, f_X5_putAll_b80, f_X5_putAll_b67, f_X5_putAll_b66, f_X5_putAll_b47, f_X5_putAll_b46, f_X5_putAll_b19, f_X5_putAll_b18, f_X5_putAll, h.1.fs, beq_self_eq_true, gck_t, Option.bind_some, b2i_1, e20, e30, e40, e50, if_true, if_false, r_fails h.1.1, fcd, gb2_s, e2, e4, e3, b2i_t, b2i_f, r_slot1 S hs12, r_slot1 S ht12, r_isPlace1 hv, hip, gv.2.1, hroom]; rfl)
        · simp only [Bool.true_eq_false, if_false]
          by_cases hfull : 24 < (rwA A (sR (slA A s))).length + (vw A t).length
          · rw [if_pos hfull]
            rw [decide_eq_false (show ¬ (rwA A (sR (slA A s))).length + (vw A t).length ≤ 24 by omega)] at hroom
            exact rRes_no (i := 4) (v := 0) h rfl (by simp only [f_X5_putAll_b240, f_X5_putAll_b212, f_X5_putAll_b143, f_X5_putAll_b142, f_X5_putAll_b120, f_X5_putAll_b119, f_X5_putAll_b100, f_X5_putAll_b90, f_X5_putAll_b80, f_X5_putAll_b67, f_X5_putAll_b66, f_X5_putAll_b47, f_X5_putAll_b46, f_X5_putAll_b19, f_X5_putAll_b18, f_X5_putAll, h.1.fs, beq_self_eq_true, gck_t, Option.bind_some, b2i_1, e20, e30, e40, e50, if_true, if_false, r_fails h.1.1, fcd, gb2_s, e2, e4, e3, b2i_t, b2i_f, r_slot1 S hs12, r_slot1 S ht12, r_isPlace1 hv, hip, gv.2.1, hroom]; rfl)
          · rw [if_neg hfull]
            rw [decide_eq_true (show (rwA A (sR (slA A s))).length + (vw A t).length ≤ 24 by omega)] at hroom
            obtain ⟨p, p1, rfl, p2⟩ := inP_i (by omega) hip
            rw [p2]
            have htk : ((vw A s).take p).length = p := by rw [List.length_take]; omega
            have hmp : ((vw A t).map n0).length = (vw A t).length := List.length_map ..
            have hFl : ((vw A s).take p ++ (vw A t).map n0 ++ (vw A s).drop p).length = (vw A s).length + (vw A t).length := by simp; omega
            have g0 : ∀ i, i < p → ((vw A s).take p ++ (vw A t).map n0 ++ (vw A s).drop p).getD i tz = (vw A s).getD i tz := fun i hi => by
              rw [List.append_assoc, gd_app, htk, if_pos hi, gd_take hi]
            have g1 : ∀ l, l < (vw A t).length → ((vw A s).take p ++ (vw A t).map n0 ++ (vw A s).drop p).getD (p + l) tz = n0 ((vw A t).getD l tz) := fun l hl => by
              rw [List.append_assoc, gd_app, htk, if_neg (by omega), gd_app, hmp, if_pos (by omega), gd_map (by omega)]
              exact congrArg (fun q => n0 ((vw A t).getD q tz)) (by omega)
            have g2 : ∀ i, p ≤ i → ((vw A s).take p ++ (vw A t).map n0 ++ (vw A s).drop p).getD (i + (vw A t).length) tz = (vw A s).getD i tz := fun i hi => by
              rw [List.append_assoc, gd_app, htk, if_neg (by omega), gd_app, hmp, if_neg (by omega), gd_drop]
              exact congrArg (fun q => (vw A s).getD q tz) (by omega)
            have hrow : ∀ u ∈ vw A t, inB (n0 u) := fun u hu => by
              rcases slot_facts hw ht12 et45 with ⟨q1, q2, q3, q4, q5, -⟩ | ⟨q1, q2, q3, q4, q5, q6, q7, q8, q9⟩ | ⟨q1, q2, j, q3, q4, q5, q6, q7, q8⟩
              · rw [q4] at hu
                have hne : sK (slA A t) ≠ 101 := fun z => by
                  rcases q5 with y | y | ⟨y, y0⟩
                  · rw [show kA A t = sK (slA A t) from rfl, z] at y; exact absurd y (by decide)
                  · rw [show kA A t = sK (slA A t) from rfl, z] at y; exact absurd y (by decide)
                  · rw [y0] at hu; simp at hu
                rw [List.eq_of_mem_replicate hu]
                exact hw.2.2.1 t ht12 q1 hne
              · rw [q7] at hu
                exact (hw.1 _ (show sR (slA A t) < 4 by omega)).2 u (List.mem_of_mem_drop (List.mem_of_mem_take hu))
              · rw [q8] at hu
                exact (hw.1 (2 + j) (by omega)).2 u hu
            have hin : ∀ u ∈ (vw A s).take p ++ (vw A t).map n0 ++ (vw A s).drop p, inB u := fun u hu => by
              rcases List.mem_append.mp hu with hu | hu
              · rcases List.mem_append.mp hu with hu | hu
                · exact inB_row hw hs12 hk2 (List.mem_of_mem_take hu)
                · obtain ⟨v, v1, rfl⟩ := List.mem_map.mp hu
                  exact hrow v v1
              · exact inB_row hw hs12 hk2 (List.mem_of_mem_drop hu)
            generalize hFF : (vw A s).take p ++ (vw A t).map n0 ++ (vw A s).drop p = F at *
            have hb2 : ∀ (n i : Nat) (T : GS), i ≤ (vw A s).length → Rq r dq cap T hs A → rNw T r (F.take (if i < p then i else i + (vw A t).length)) → gI T r 19 = 0 → ∃ T', (Rq r dq cap T' hs A ∧ rNw T' r (F.take (if i + 1 ≤ p then i + 1 else i + 1 + (vw A t).length)) ∧ gI T' r 19 = 0) ∧ f_X5_putAll_b212 (f_X5_putAll_L159 r n) r T hs (nI s) (nI p) (nI t) (nI i) = f_X5_putAll_L159 r n T' hs (nI s) (nI p) (nI t) (nI (i + 1)) := by
              intro n i T hi0 j1 j2 j3
              have hvT := j1.see hw hs12 e45
              by_cases hlast : (vw A s).length ≤ i
              · have : i = (vw A s).length := by omega
                subst this
                refine ⟨T, ⟨j1, ?_, j3⟩, ?_⟩
                · rw [if_neg (by omega)] at j2 ⊢
                  rw [List.take_of_length_le (by omega)] at j2 ⊢
                  exact j2
                · simp only [f_X5_putAll_b212, f_X5_putAll_b240, j1.1.1, beq_self_eq_true, gck_t, hvT.2.1, Option.bind_some, Int32.le_refl, if_true, nI_1]
              · have hil : i < (vw A s).length := by omega
                obtain ⟨b1, b2⟩ := hvT.2.2.2 i hil
                obtain ⟨T', c1, c2, c3, c4, c5⟩ := r_layV j1 hw hs12 e45 hil j2 (by rw [List.length_take]; split <;> omega) ((vw A s).getD i tz).1
                refine ⟨T', ⟨c2, ?_, by rw [c4]; exact j3⟩, ?_⟩
                · rw [tr_eta] at c3
                  by_cases hip2 : i < p
                  · rw [if_pos hip2, ← g0 i hip2, ← take_s (by omega)] at c3
                    rw [if_pos (by omega)]
                    exact c3
                  · rw [if_neg hip2, ← g2 i (by omega), ← take_s (by omega)] at c3
                    rw [if_neg (by omega), show i + 1 + (vw A t).length = i + (vw A t).length + 1 by omega]
                    exact c3
                · have q2 : ((vw A s).length ≤ i) = False := eq_false hlast
                  simp (disch := omega) only [f_X5_putAll_b212, f_X5_putAll_b240, j1.1.1, beq_self_eq_true, gck_t, hvT.2.1, Option.bind_some, nI_leI, q2, if_false, b1, b2, c1, nI_1]
            obtain ⟨T, ⟨t1, t2, t3⟩, n, t4⟩ := lpG0 (F := fun n T i => f_X5_putAll_L159 r n T hs (nI s) (nI p) (nI t) i) (fun i T => Rq r dq cap T hs A ∧ rNw T r (F.take (if i ≤ p then i else i + (vw A t).length)) ∧ gI T r 19 = 0) ((vw A s).length + 1) (fun n T i hi hI => by
              obtain ⟨i1, i2, i3⟩ := hI
              have hvT := i1.see hw hs12 e45
              have q : ((vw A s).length < i) = False := eq_false (by omega)
              by_cases hpi : i = p
              · subst hpi
                rw [if_pos (Nat.le_refl _)] at i2
                obtain ⟨T1, d1, d2, d3, d4⟩ := r_palI (s := s) (k159 := f_X5_putAll_L159 r n) hw ht12 et45 g1 (by omega) (by omega) i1 i2
                obtain ⟨T', f1, f2⟩ := hb2 n i T1 (by omega) d2 (by rw [if_neg (by omega)]; exact d3) (d4.trans i3)
                refine ⟨T', f1, ?_⟩
                rw [← f2, ← d1]
                simp (disch := omega) only [f_X5_putAll_L159, i1.1.1, beq_self_eq_true, gck_t, hvT.2.1, Option.bind_some, nI_ltI, q, if_false]
              · obtain ⟨T', f1, f2⟩ := hb2 n i T (by omega) i1 (by
                  by_cases z : i < p
                  · rw [if_pos (by omega)] at i2; rw [if_pos z]; exact i2
                  · rw [if_neg (by omega)] at i2; rw [if_neg z]; exact i2) i3
                refine ⟨T', f1, ?_⟩
                rw [← f2, f_X5_putAll_L159]
                simp (disch := omega) only [i1.1.1, beq_self_eq_true, gck_t, hvT.2.1, Option.bind_some, nI_ltI, q, if_false]
                show f_X5_putAll_L172 _ r (4999 + 1) _ _ _ _ _ _ _ = _
                rw [f_X5_putAll_L172]
                simp (disch := omega) only [nI_eq, hpi, if_false]) (by omega) (gsI (gsI S r 19 0) r 22 0) ⟨h0.nsz 0, by
              rw [if_pos (by omega), List.take_zero]
              exact rNw_nil (by rw [gI_gsI, if_pos ⟨rfl, rfl⟩]), by rw [gI_gsI, if_neg (by omega), gI_gsI, if_pos ⟨rfl, rfl⟩]⟩
            rw [if_neg (by omega), List.take_of_length_le (by omega)] at t2
            obtain ⟨S', hs', u1, u2, u3, u4, u5, u6⟩ := r_bec2 t1 hw hs12 hk2 t2 hin (by omega) (by omega)
            refine ⟨dq, cap, S', hs', ?_, u2, by rw [u3]; exact t3, u4⟩
            have hvT := t1.see hw hs12 e45
            have q : ((vw A s).length < (vw A s).length + 1) = True := eq_true (by omega)
            simp only [f_X5_putAll_b240, f_X5_putAll_b212, f_X5_putAll_b143, f_X5_putAll_b142, f_X5_putAll_b120, f_X5_putAll_b119, f_X5_putAll_b100, f_X5_putAll_b90, f_X5_putAll_b80, f_X5_putAll_b67, f_X5_putAll_b66, f_X5_putAll_b47, f_X5_putAll_b46, f_X5_putAll_b19, f_X5_putAll_b18, f_X5_putAll, h.1.fs, beq_self_eq_true, gck_t, Option.bind_some, b2i_1, e20, e30, e40, e50, if_true, if_false, r_fails h.1.1, fcd, gb2_s, h0.1.fs, e2, e4, e3, b2i_t, b2i_f, r_slot1 S hs12, r_slot1 S ht12, r_isPlace1 hv, hip, gv.2.1, hroom]
            rw [t4]
            simp (disch := omega) only [f_X5_putAll_L159, t1.1.fs, beq_self_eq_true, gck_t, hvT.2.1, Option.bind_some, nI_ltI, q, if_true, u1, gb2_s, u6, u5, hFl]
end RPal
