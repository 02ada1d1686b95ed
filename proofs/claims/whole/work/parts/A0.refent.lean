/-! enter, raise in the reference -/
section REnt
variable {S S' : GS} {r cap hs hs' : Nat} {dq : Nat → Nat} {A B : AS}
theorem r_insL {j : Nat} {V : List Tr} {S0 : GS} {n k m z : Int32} (hd0 : rHd S0 r dq cap) (hj : j < 2) (h24 : V.length < 24) : ∀ (i : Nat) (T : GS) (f : Nat), rW3 r j S0 T → (∀ q, q < i → tr3 T r j q = V.getD q tz) → (∀ q, i < q → q ≤ V.length → tr3 T r j q = V.getD (q - 1) tz) → i ≤ V.length → i < f →
    ∃ T', f_X5_enter_L168 r f T n k m (nI j) (nI i) z = f_X5_enter_b267 r T' n k m (nI j) (nI (if j = 1 then pEn n V i else i)) z ∧ rW3 r j S0 T' ∧ (∀ q, q < (if j = 1 then pEn n V i else i) → tr3 T' r j q = V.getD q tz) ∧ (∀ q, (if j = 1 then pEn n V i else i) < q → q ≤ V.length → tr3 T' r j q = V.getD (q - 1) tz) ∧ (if j = 1 then pEn n V i else i) ≤ V.length := by
  intro i
  induction i with
  | zero =>
    intro T f h1 h2 h3 h4 h5
    obtain ⟨f, rfl⟩ : ∃ k, f = k + 1 := ⟨f - 1, by omega⟩
    have e0 : (if j = 1 then pEn n V 0 else 0) = 0 := by
      by_cases e : j = 1
      · rw [if_pos e]; rfl
      · rw [if_neg e]
    rw [e0]
    refine ⟨T, ?_, h1, h2, h3, h4⟩
    have c0 : (nI 0 ≤ 0) = True := by decide
    rw [f_X5_enter_L168]
    simp only [c0, if_true, ite_self]
  | succ i ih =>
    intro T f h1 h2 h3 h4 h5
    obtain ⟨f, rfl⟩ : ∃ k, f = k + 1 := ⟨f - 1, by omega⟩
    by_cases e : j = 1
    · subst e
      rw [if_pos rfl]
      simp only [if_true] at ih
      have hd := hd0.sk h1.1 h1.2.1 h1.2.2.1
      have c0 : (nI (i + 1) ≤ 0) = False := eq_false (fun z => by
        have := (nI_leI (show i + 1 < 2 ^ 31 by omega) (show 0 < 2 ^ 31 by omega)).mp z
        omega)
      have c1 : (nI 1 = 1) = True := by decide
      have e2 := h2 i (by omega)
      generalize hx : V.getD i tz = x at *
      have x1 : gI T (r + (9 + 1)) i = x.1 := by rw [← e2]; rfl
      have x2 : gI (gsI T (r + (9 + 1)) (i + 1) x.1) (r + (12 + 1)) i = x.2.1 := by rw [gI_gsI, if_neg (by omega), ← e2]; rfl
      have x3 : gI (gsI (gsI T (r + (9 + 1)) (i + 1) x.1) (r + (12 + 1)) (i + 1) x.2.1) (r + (15 + 1)) i = x.2.2 := by rw [gI_gsI, if_neg (by omega), gI_gsI, if_neg (by omega), ← e2]; rfl
      obtain ⟨w1, w2, w3⟩ := r_w3 (x := x) hd hj (show i + 1 < 24 by omega)
      have d1 := hd.gs (r + (9 + 1)) (i + 1) x.1
      have d2 := d1.gs (r + (12 + 1)) (i + 1) x.2.1
      unfold pEn
      rw [hx]
      by_cases c : n < x.1
      · rw [if_pos c]
        have c' : (x.1 ≤ n) = False := eq_false (Int32.not_le.mpr c)
        obtain ⟨T', g1, g2⟩ := ih (wr3 T r 1 (i + 1) x) f h1.wr (fun q hq => by
          rw [wr3_at hj, if_neg (by omega)]; exact h2 q (by omega)) (fun q hq1 hq2 => by
          rw [wr3_at hj]
          by_cases e3 : q = i + 1
          · rw [if_pos e3, e3]; exact hx.symm
          · rw [if_neg e3]; exact h3 q (by omega) hq2) (by omega) (by omega)
        refine ⟨T', ?_, g2⟩
        rw [← g1, f_X5_enter_L168]
        simp (disch := omega) only [c1, c0, if_true, if_false, hd.fs, hd.ro.2.2.1 1 hj, Option.bind_some, nI_pred, hd.rb.2.2.1 1 i hj (by omega), x1, c', w1, d1.fs, d1.ro.2.2.2.1 1 hj, d1.rb.2.2.2.1 1 i hj (by omega), x2, w2, d2.fs, d2.ro.2.2.2.2 1 hj, d2.rb.2.2.2.2 1 i hj (by omega), x3, w3, sub1]
      · rw [if_neg c]
        have c' : (x.1 ≤ n) = True := eq_true (Int32.not_lt.mp c)
        refine ⟨T, ?_, h1, fun q hq => h2 q hq, h3, h4⟩
        rw [f_X5_enter_L168]
        simp (disch := omega) only [c1, c0, if_true, if_false, hd.fs, hd.ro.2.2.1 1 hj, Option.bind_some, nI_pred, hd.rb.2.2.1 1 i hj (by omega), x1, c']
    · rw [if_neg e]
      have j0 : j = 0 := by omega
      subst j0
      refine ⟨T, ?_, h1, h2, h3, h4⟩
      have c1 : (nI 0 = 1) = False := by decide
      rw [f_X5_enter_L168]
      simp only [c1, if_false]
/-- three rows are written, and the size may be: the map is another -/
theorem r_mapNew {j : Nat} {L : List Tr} {z : Int32} {T : GS} (h : Rq r dq cap S hs A) (hj : j < 2) (hT : rW3 r j (gsI S (r + 17) j z) T) (hz : z = nI L.length) (hL : ∀ i, i < L.length → tr3 T r j i = L.getD i tz) : Rq r dq cap T hs (aSetR A (2 + j) L) ∧ ∀ k, gI T r k = gI S r k := by
  refine ⟨h.map hj (fun a ha => ⟨hT.1 a, hT.2.1 a, hT.2.2.1 a, fun k q => ?_⟩) (rMap_tr.mpr ⟨by rw [hT.2.2.2 _ _ (by unfold wR3; omega), gI_gsI, if_pos ⟨rfl, rfl⟩, hz], hL⟩) (Nat.le_refl _) (fun a ha => by rw [hT.1]; exact h.2.2.2.2.2.2.1 a ha), fun k => by rw [hT.2.2.2 _ _ (by unfold wR3; omega), gI_gsI, if_neg (by omega)]⟩
  rw [hT.2.2.2 _ _ (fun z => q (by unfold wR3 at z; unfold wMp; omega)), gI_gsI, if_neg (fun z => q (by unfold wMp; exact Or.inr (Or.inr (Or.inr (Or.inr z)))))]
theorem r_enter (h : Rq r dq cap S hs A) (hw : WF A) (hp : npA A ≤ 511) (x n k m : Int32) : rRes [1, 2, 3, 4, 5] r hs A (rLf hs (f_X5_enter S r x n k m)) (m_enter A x n k m) := by
  have h0 := h.thr 0
  unfold m_enter
  have any : ∀ (l : List Nat), (∃ u, f_X5_placeOfNumber S r 0 n = some u ∧ ∃ L, gaI S (some (r + 17)) 11 0 = some (nI L) ∧ L ≤ 24) := fun _ => by
    have hn := h.nj hw (j := 0) (by omega)
    have h1 := r_placeOfNumber h.1 hn n
    have h2 := h.1.rs.2.2.2.2.2.2.2.1 0 (by omega)
    rw [(h.2.2.2.1 0 (by omega)).1, nI_0] at h2
    rw [nI_0] at h1
    exact ⟨_, h1, _, h2, hn.1⟩
  obtain ⟨u, hu, L0, hL0, -⟩ := any []
  have hum : (u = -1) = True ∨ (u = -1) = False := by
    by_cases c : u = -1
    · exact Or.inl (eq_true c)
    · exact Or.inr (eq_false c)
  have hLm : (nI L0 = 24) = True ∨ (nI L0 = 24) = False := by
    by_cases c : nI L0 = 24
    · exact Or.inl (eq_true c)
    · exact Or.inr (eq_false c)
  have hthS := r_isThing S k m
  rcases c3 (A := A) x kMp with e | ⟨s, hs12, rfl, e⟩ | ⟨s, hs12, rfl, e45, e⟩
  · rw [nd_no e]
    refine rRes_noP (i := 0) (v := 0) h rfl ?_
    cases hth : thOk k m <;> rw [hth] at hthS <;> rcases hum with c | c <;> rcases hLm with c2 | c2 <;> (simp only [f_X5_enter_b278, f_X5_enter_b267, f_X5_enter_b135, f_X5_enter_b134, f_X5_enter_b113, f_X5_enter_b99, f_X5_enter_b89, f_X5_enter_b79, f_X5_enter_b64, f_X5_enter_b42, f_X5_enter_b25, f_X5_enter_b24, f_X5_enter, h.1.fs, beq_self_eq_true, gck_t, Option.bind_some, b2i_1, e20, e30, e40, e50, if_true, if_false, r_fails h.1.1, fcd, gb2_s, b2i_f, b2i_t, r_slot0 S e, r_isMap_no h e, hu, c, hL0, c2, hthS]; rfl)
  · rw [nd_bad hs12 e]
    have e := or_bad (q := kMp) e (by decide)
    have e2 := r_isMap h hs12
    rw [e] at e2
    refine rRes_noP (i := 1) (v := 0) h rfl ?_
    cases hth : thOk k m <;> rw [hth] at hthS <;> rcases hum with c | c <;> rcases hLm with c2 | c2 <;> (simp only [f_X5_enter_b278, f_X5_enter_b267, f_X5_enter_b135, f_X5_enter_b134, f_X5_enter_b113, f_X5_enter_b99, f_X5_enter_b89, f_X5_enter_b79, f_X5_enter_b64, f_X5_enter_b42, f_X5_enter_b25, f_X5_enter_b24, f_X5_enter, h.1.fs, beq_self_eq_true, gck_t, Option.bind_some, b2i_1, e20, e30, e40, e50, if_true, if_false, r_fails h.1.1, fcd, gb2_s, b2i_f, b2i_t, r_slot1 S hs12, e2, hu, c, hL0, c2, hthS]; rfl)
  · rw [nd_ok hs12 e45 e]
    have e2 := r_isMap h hs12
    rw [e] at e2
    have e3 := r_canChange h hw hs12 e45
    clear hum hLm hu hL0
    have hm := mapk (A := A) (s := s) (Or.inl (by rw [e]; rfl))
    obtain ⟨j, hj, hjr, js4, js5, -⟩ := h.ref hw hs12 (Or.inl (by rw [e]; rfl))
    have hns := h.nj hw hj
    have h17 := h.1.rs.2.2.2.2.2.2.2.1 j hj
    have hM := (h.2.2.2.1 j hj)
    rw [hM.1] at h17
    rw [rMap_tr] at hM
    rw [← js5] at hns h17 hM
    have h24 := vw_24 hw hs12 e45
    have ha := r_placeOfNumber h.1 hns n
    have cL : ((nI (vw A s).length = 24) = ((vw A s).length = 24)) := n_eq (b := 24) (by omega) (by omega)
    have hum : (fIdx (fun t => t.1 == n) (vw A s) 0 = -1) = True ∨ (fIdx (fun t => t.1 == n) (vw A s) 0 = -1) = False := by
      by_cases c : fIdx (fun t => t.1 == n) (vw A s) 0 = -1
      · exact Or.inl (eq_true c)
      · exact Or.inr (eq_false c)
    have hLm : (nI (vw A s).length = 24) = True ∨ (nI (vw A s).length = 24) = False := by
      by_cases c : nI (vw A s).length = 24
      · exact Or.inl (eq_true c)
      · exact Or.inr (eq_false c)
    cases ho : sO (slA A s)
    · rw [ho] at e3
      refine rRes_noP (i := 2) (v := 0) h rfl ?_
      cases hth : thOk k m <;> rw [hth] at hthS <;> rcases hum with c | c <;> rcases hLm with c2 | c2 <;> (simp only [f_X5_enter_b278, f_X5_enter_b267, f_X5_enter_b135, f_X5_enter_b134, f_X5_enter_b113, f_X5_enter_b99, f_X5_enter_b89, f_X5_enter_b79, f_X5_enter_b64, f_X5_enter_b42, f_X5_enter_b25, f_X5_enter_b24, f_X5_enter, h.1.fs, beq_self_eq_true, gck_t, Option.bind_some, b2i_1, e20, e30, e40, e50, if_true, if_false, r_fails h.1.1, fcd, gb2_s, b2i_f, b2i_t, r_slot1 S hs12, e2, e3, js4, ha, c, h17, c2, hthS]; rfl)
    · rw [ho] at e3
      simp only [Bool.true_eq_false, if_false]
      cases hth : thOk k m
      · rw [hth] at hthS
        simp only [if_true]
        refine rRes_noP (i := 3) (v := 0) h rfl ?_
        rcases hum with c | c <;> rcases hLm with c2 | c2 <;> (simp only [f_X5_enter_b278, f_X5_enter_b267, f_X5_enter_b135, f_X5_enter_b134, f_X5_enter_b113, f_X5_enter_b99, f_X5_enter_b89, f_X5_enter_b79, f_X5_enter_b64, f_X5_enter_b42, f_X5_enter_b25, f_X5_enter_b24, f_X5_enter, h.1.fs, beq_self_eq_true, gck_t, Option.bind_some, b2i_1, e20, e30, e40, e50, if_true, if_false, r_fails h.1.1, fcd, gb2_s, b2i_f, b2i_t, r_slot1 S hs12, e2, e3, js4, ha, c, h17, c2, hthS]; rfl)
      · rw [hth] at hthS
        simp only [Bool.true_eq_false, if_false]
        have u19 : gI (gsI S r 19 0) r 19 = 0 := by rw [gI_gsI, if_pos ⟨rfl, rfl⟩]
        have gn : ∀ (b : Bool), gnr .boolean (b2i b) = true := fun b => by cases b <;> decide
        have t17 : gI (gsI S r 19 0) (r + 17) j = nI (vw A s).length := by rw [gI_gsI, if_neg (by omega)]; exact hM.1
        have tt : ∀ i, i < (vw A s).length → tr3 (gsI S r 19 0) r j i = (vw A s).getD i tz := fun i hi => by
          rw [← hM.2 i hi]
          unfold tr3
          rw [gI_gsI, if_neg (by omega), gI_gsI, if_neg (by omega), gI_gsI, if_neg (by omega)]
        rcases fIdx_find (fun t => t.1 == n) (M := vw A s) (vw A s) 0 rfl with ⟨-, g2⟩ | ⟨p, g0, g1, -⟩
        · rw [g2] at ha ⊢
          rw [if_neg (by decide)]
          by_cases hfull : 24 < (vw A s).length + 1
          · rw [if_pos hfull]
            have cL : (nI (vw A s).length = 24) = True := cL.trans (eq_true (by omega))
            exact rRes_noP (i := 4) (v := 0) h rfl (by simp only [f_X5_enter_b278, f_X5_enter_b267, f_X5_enter_b135, f_X5_enter_b134, f_X5_enter_b113, f_X5_enter_b99, f_X5_enter_b89, f_X5_enter_b79, f_X5_enter_b64, f_X5_enter_b42, f_X5_enter_b25, f_X5_enter_b24, f_X5_enter, h.1.fs, beq_self_eq_true, gck_t, Option.bind_some, b2i_1, e20, e30, e40, e50, if_true, if_false, r_fails h.1.1, fcd, gb2_s, b2i_f, b2i_t, r_slot1 S hs12, e2, e3, js4, ha, h17, cL, hthS]; rfl)
          · rw [if_neg hfull]
            have cL : (nI (vw A s).length = 24) = False := cL.trans (eq_false (by omega))
            have hl1 : nI (vw A s).length + 1 = nI ((vw A s).length + 1) := nI_1 ..
            have hd1 := h0.1.gs (r + 17) j (nI ((vw A s).length + 1))
            obtain ⟨T, y1, y2, y3, y4, y5⟩ := r_insL (S0 := gsI (gsI S r 19 0) (r + 17) j (nI ((vw A s).length + 1))) (V := vw A s) (n := n) (k := k) (m := m) (z := 0) hd1 hj (by omega) (vw A s).length (gsI (gsI S r 19 0) (r + 17) j (nI ((vw A s).length + 1))) gN rW3.rf (fun q hq => by
              have hh : ∀ a, a ≠ r + 17 → gI (gsI (gsI S r 19 0) (r + 17) j (nI ((vw A s).length + 1))) a q = gI (gsI S r 19 0) a q := fun a ha => by rw [gI_gsI, if_neg (fun z => ha z.1)]
              rw [← tt q hq]
              unfold tr3
              rw [hh _ (by omega), hh _ (by omega), hh _ (by omega)]) (fun q hq1 hq2 => by omega) (Nat.le_refl _) (by simp only [gN]; omega)
            have epA : pEA A s n = if j = 1 then pEn n (vw A s) (vw A s).length else (vw A s).length := by
              unfold pEA
              by_cases e9 : j = 1
              · rw [if_pos e9, if_pos (by omega)]
              · rw [if_neg e9, if_neg (by omega)]
            rw [← epA] at y1 y3 y4 y5
            generalize pEA A s n = p at *
            have hd := hd1.sk y2.1 y2.2.1 y2.2.2.1
            obtain ⟨w1, w2, w3⟩ := r_w3 (x := (n, k, m)) hd hj (show p < 24 by omega)
            have d1 := hd.gs (r + (9 + j)) p n
            have d2 := d1.gs (r + (12 + j)) p k
            obtain ⟨z1, z2⟩ := r_mapNew (L := (vw A s).insertIdx p (n, k, m)) h0 hj (y2.wr (p := p) (x := (n, k, m))) (by rw [len_ins (by omega)]) (fun i hi => by
              rw [len_ins (by omega)] at hi
              rw [wr3_at hj, gd_ins (by omega)]
              by_cases e1 : i = p
              · rw [if_pos e1, if_neg (by omega), if_pos e1]
              · rw [if_neg e1]
                by_cases e5 : i < p
                · rw [if_pos e5]; exact y3 i e5
                · rw [if_neg e5, if_neg e1]; exact y4 i (by omega) (by omega))
            refine rRes_okP (S' := wr3 T r j p (n, k, m)) ?_ (z1.chgM hw hs12 hm hjr) ((z2 19).trans u19)
            simp only [f_X5_enter_b278, f_X5_enter_b267, f_X5_enter_b135, f_X5_enter_b134, f_X5_enter_b113, f_X5_enter_b99, f_X5_enter_b89, f_X5_enter_b79, f_X5_enter_b64, f_X5_enter_b42, f_X5_enter_b25, f_X5_enter_b24, f_X5_enter, h.1.fs, beq_self_eq_true, gck_t, Option.bind_some, b2i_1, e20, e30, e40, e50, if_true, if_false, r_fails h.1.1, fcd, gb2_s, h0.1.fs, b2i_f, b2i_t, r_slot1 S hs12, e2, e3, js4, ha, h17, cL, hthS, h0.1.rs.2.2.2.2.2.2.2.1 j hj, t17, hl1, h0.1.ws.2.2.2.2.2.2.2.1 j _ hj]
            rw [y1]
            simp only [f_X5_enter_b267, f_X5_enter_b278, hd.fs, hd.ro.2.2.1 j hj, Option.bind_some, w1, d1.fs, d1.ro.2.2.2.1 j hj, w2, d2.fs, d2.ro.2.2.2.2 j hj, w3, gnb0, gck_t]
        · rw [g1] at ha ⊢
          rw [if_pos (nI_pos' (by omega)), nI_clamp (by omega)]
          have q1 := nI_m1 (p := p) (by omega)
          have hpn := (fIdx_some (M := vw A s) (vw A s) 0 p rfl g0 (by omega) g1).1
          have hpn : ((vw A s).getD p tz).1 = n := beq_iff_eq.mp hpn
          have hd := h0.1
          have w2 := hd.wb.2.2.2.1 j p k hj (by omega)
          have d2 := hd.gs (r + (12 + j)) p k
          have w3 := d2.wb.2.2.2.2 j p m hj (by omega)
          have eT : wr3 (gsI (gsI S r 19 0) (r + 17) j (nI (vw A s).length)) r j p (n, k, m) = gsI (gsI (gsI S r 19 0) (r + (12 + j)) p k) (r + (15 + j)) p m := by
            rw [gsI_self t17]
            have e9 : gI (gsI S r 19 0) (r + (9 + j)) p = n := by
              have := tt p g0
              unfold tr3 at this
              rw [← hpn, ← this]
            show gsI (gsI (gsI (gsI S r 19 0) (r + (9 + j)) p n) (r + (12 + j)) p k) (r + (15 + j)) p m = _
            rw [gsI_self e9]
          obtain ⟨z1, z2⟩ := r_mapNew (L := (vw A s).set p (n, k, m)) (z := nI (vw A s).length) h0 hj (rW3.rf.wr (p := p) (x := (n, k, m))) (by rw [List.length_set]) (fun i hi => by
              rw [List.length_set] at hi
              rw [wr3_at hj, gd_set g0, gsI_self t17]
              by_cases e1 : i = p
              · rw [if_pos e1, if_pos e1]
              · rw [if_neg e1, if_neg e1]; exact tt i hi)
          rw [eT] at z1 z2
          refine rRes_okP (S' := gsI (gsI (gsI S r 19 0) (r + (12 + j)) p k) (r + (15 + j)) p m) ?_ (z1.chgM hw hs12 hm hjr) ((z2 19).trans u19)
          simp only [f_X5_enter_b278, f_X5_enter_b267, f_X5_enter_b135, f_X5_enter_b134, f_X5_enter_b113, f_X5_enter_b99, f_X5_enter_b89, f_X5_enter_b79, f_X5_enter_b64, f_X5_enter_b42, f_X5_enter_b25, f_X5_enter_b24, f_X5_enter, h.1.fs, beq_self_eq_true, gck_t, Option.bind_some, b2i_1, e20, e30, e40, e50, if_true, if_false, r_fails h.1.1, fcd, gb2_s, h0.1.fs, b2i_f, b2i_t, r_slot1 S hs12, e2, e3, js4, ha, q1, hthS, hd.ro.2.2.2.1 j hj, w2, d2.fs, d2.ro.2.2.2.2 j hj, w3, gnb1]
end REnt
