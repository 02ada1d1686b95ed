/-! the reference weaves, wipes, puts all -/
theorem wvF_app {x : Int32} {y t : Tr} {P : List Tr} : wvF x y (P ++ [t]) = wvF x y P ++ (if t.2.1 = x then [t, y] else [t]) := by
  unfold wvF; rw [List.flatMap_append]; simp
theorem cKy_app {x : Int32} {t : Tr} {P : List Tr} : cKy x (P ++ [t]) = cKy x P + (if t.2.1 = x then 1 else 0) := by
  unfold cKy
  rw [List.countP_append]
  by_cases h : t.2.1 = x <;> simp [h]
theorem cKy_le {x : Int32} {P : List Tr} : cKy x P ≤ P.length := List.countP_le_length
theorem rNw.thr {T : GS} {r : Nat} {C : List Tr} {v : Int32} (h : rNw T r C) : rNw (gsI T r 19 v) r C := by
  refine ⟨by rw [gI_gsI, if_neg (by omega)]; exact h.1, h.2.1, fun i hi => ?_⟩
  rw [gI_gsI, if_neg (by omega), gI_gsI, if_neg (by omega)]
  exact h.2.2 i hi
section RWea
variable {S S' : GS} {r cap hs hs' : Nat} {dq : Nat → Nat} {A : AS}
theorem r_weave (h : Rq r dq cap S hs A) (hw : WF A) (hp : npA A ≤ 511) (x k m : Int32) : rRes [1, 2, 3, 4, 5] r hs A (f_X5_weave S hs r x k m) (m_weave A x k m) := by
  have h' := h.nsz 0
  unfold m_weave
  rcases c3 (A := A) x kLs with e | ⟨s, hs12, rfl, e⟩ | ⟨s, hs12, rfl, e45, e⟩
  · rw [nd_no e]
    refine rRes_no (i := 0) (v := 0) h' rfl ?_
    simp only [f_X5_weave, f_X5_weave_b24, f_X5_weave_b25, h.1.fs, beq_self_eq_true, gck_t, Option.bind_some, b2i_1, e20, e30, e40, e50, if_true, if_false, r_fails h.1.1, fcd, gb2_s, r_isList_no h e, r_slot0 (gsI S r 22 0) e]
    show f_X5_weave_L38 r (4999 + 1) _ _ _ _ _ _ _ _ _ = _
    rw [f_X5_weave_L38]
    simp only [f_X5_weave_b97, f_X5_weave_b110, f_X5_weave_b120, f_X5_weave_b130, f_X5_weave_b143, f_X5_weave_b162, f_X5_weave_b163, h'.1.fs, beq_self_eq_true, gck_t, Option.bind_some, b2i_1, e20, e30, e40, e50, if_true, if_false, r_fails h'.1.1, fcd, gb2_s, r_isThing, ite_self, r_isList_no h e, r_slot0 (gsI S r 22 0) e]
    rfl
  · rw [nd_bad hs12 e]
    have e := or_bad (q := kLs) e (by decide)
    have e2 := r_isList h hs12
    rw [e] at e2
    refine rRes_no (i := 1) (v := 0) h' rfl ?_
    simp only [f_X5_weave, f_X5_weave_b24, f_X5_weave_b25, h.1.fs, beq_self_eq_true, gck_t, Option.bind_some, b2i_1, e20, e30, e40, e50, if_true, if_false, r_fails h.1.1, fcd, gb2_s, e2, b2i_f, r_slot1 (gsI S r 22 0) hs12]
    show f_X5_weave_L38 r (4999 + 1) _ _ _ _ _ _ _ _ _ = _
    rw [f_X5_weave_L38]
    simp only [f_X5_weave_b97, f_X5_weave_b110, f_X5_weave_b120, f_X5_weave_b130, f_X5_weave_b143, f_X5_weave_b162, f_X5_weave_b163, h'.1.fs, beq_self_eq_true, gck_t, Option.bind_some, b2i_1, e20, e30, e40, e50, if_true, if_false, r_fails h'.1.1, fcd, gb2_s, r_isThing, ite_self, e2, b2i_f, r_slot1 (gsI S r 22 0) hs12]
    rfl
  · rw [nd_ok hs12 e45 e]
    have e2 := r_isList h hs12
    rw [e] at e2
    have e3 := r_canChange h hw hs12 e45
    cases ho : sO (slA A s)
    · rw [ho] at e3
      refine rRes_no (i := 2) (v := 0) h' rfl ?_
      simp only [f_X5_weave, f_X5_weave_b24, f_X5_weave_b25, h.1.fs, beq_self_eq_true, gck_t, Option.bind_some, b2i_1, e20, e30, e40, e50, if_true, if_false, r_fails h.1.1, fcd, gb2_s, e2, e3, b2i_f, b2i_t, r_slot1 (gsI S r 22 0) hs12]
      show f_X5_weave_L38 r (4999 + 1) _ _ _ _ _ _ _ _ _ = _
      rw [f_X5_weave_L38]
      simp only [f_X5_weave_b97, f_X5_weave_b110, f_X5_weave_b120, f_X5_weave_b130, f_X5_weave_b143, f_X5_weave_b162, f_X5_weave_b163, h'.1.fs, beq_self_eq_true, gck_t, Option.bind_some, b2i_1, e20, e30, e40, e50, if_true, if_false, r_fails h'.1.1, fcd, gb2_s, r_isThing, ite_self, e2, e3, b2i_f, b2i_t, r_slot1 (gsI S r 22 0) hs12]
      rfl
    · rw [ho] at e3
      simp only [Bool.true_eq_false, if_false]
      have hk2 := kLs_op hw hs12 e ho
      obtain ⟨l1, l2, l3, l4, l5, -⟩ := lst_facts hw hs12 (hk2.elim Or.inl (fun h => Or.inr (Or.inl h)))
      have g24 := (hw.1 _ (show sR (slA A s) < 4 by omega)).1
      have h24 := vw_24 hw hs12 e45
      obtain ⟨⟨T, mo⟩, ⟨w1, w2, w3⟩, n, w4⟩ := lpG0 (F := fun n (c : GS × Int32) i => f_X5_weave_L38 r n c.1 hs (nI s) k m 1 1 c.2 i) (fun i c => Rq r dq cap c.1 hs A ∧ rNw c.1 r (wvF k (0, k, m) ((vw A s).take i)) ∧ c.2 = nI (cKy k ((vw A s).take i))) (vw A s).length (fun n c i hi hI => by
        obtain ⟨T, mo⟩ := c
        obtain ⟨i1, i2, i3⟩ := hI
        have i1 : Rq r dq cap T hs A := i1
        have i2 : rNw T r (wvF k (0, k, m) ((vw A s).take i)) := i2
        have i3 : mo = nI (cKy k ((vw A s).take i)) := i3
        have hvT := i1.see hw hs12 e45
        have q : ((vw A s).length ≤ i) = False := eq_false (by omega)
        obtain ⟨b1, b2⟩ := hvT.2.2.2 i hi
        have hcl := wvF_len (x := k) (y := (0, k, m)) ((vw A s).take i)
        have hck := cKy_le (x := k) (P := (vw A s).take i)
        have htl : ((vw A s).take i).length = i := by rw [List.length_take]; omega
        obtain ⟨T1, d1, d2, d3, d4, d5⟩ := r_layV i1 hw hs12 e45 hi i2 (by omega) ((vw A s).getD i tz).1
        rw [tr_eta] at d3
        have hv1 := d2.see hw hs12 e45
        obtain ⟨f1, f2⟩ := hv1.2.2.2 i hi
        by_cases hkk : ((vw A s).getD i tz).2.1 = k
        · obtain ⟨T2, g1, g2, g3, -, g5, g6⟩ := r_lays d2 d3 (by rw [List.length_append]; simp; omega) 0 k m
          refine ⟨(T2, mo + 1), ⟨g2, ?_, ?_⟩, ?_⟩
          · show rNw T2 r _
            rw [take_s hi, wvF_app, if_pos hkk]
            rw [List.append_assoc] at g3
            exact g3
          · show mo + 1 = _
            rw [take_s hi, cKy_app, if_pos hkk, i3, nI_1]
          · show f_X5_weave_L38 r (n + 1) T hs (nI s) k m 1 1 mo (nI i) = f_X5_weave_L38 r n T2 hs (nI s) k m 1 1 (mo + 1) (nI (i + 1))
            simp (disch := omega) only [f_X5_weave_L38, f_X5_weave_b91, b2i_1, if_false, i1.1.1, d2.1.1, beq_self_eq_true, gck_t, hvT.2.1, Option.bind_some, nI_leI, q, b1, b2, d1, f1, hkk, if_true, nI_1]
            rw [hkk] at d1
            simp only [d1, Option.bind_some, d2.1.1, beq_self_eq_true, gck_t, f1, hkk, if_true, g1]
        · refine ⟨(T1, mo), ⟨d2, ?_, ?_⟩, ?_⟩
          · show rNw T1 r _
            rw [take_s hi, wvF_app, if_neg hkk]
            exact d3
          · show mo = _
            rw [take_s hi, cKy_app, if_neg hkk, i3, Nat.add_zero]
          · show f_X5_weave_L38 r (n + 1) T hs (nI s) k m 1 1 mo (nI i) = f_X5_weave_L38 r n T1 hs (nI s) k m 1 1 mo (nI (i + 1))
            simp (disch := omega) only [f_X5_weave_L38, f_X5_weave_b91, b2i_1, if_false, i1.1.1, d2.1.1, beq_self_eq_true, gck_t, hvT.2.1, Option.bind_some, nI_leI, q, b1, b2, d1, f1, hkk, nI_1]) (by omega) (gsI S r 22 0, 0) ⟨h', by
        show rNw (gsI S r 22 0) r _
        rw [List.take_zero]
        exact rNw_nil (by rw [gI_gsI, if_pos ⟨rfl, rfl⟩]), by rw [List.take_zero]; exact n_0⟩
      have t1 : Rq r dq cap T hs A := w1
      have t2 : rNw T r (wvF k (0, k, m) ((vw A s).take (vw A s).length)) := w2
      have t3 : mo = nI (cKy k ((vw A s).take (vw A s).length)) := w3
      have t4 : f_X5_weave_L38 r gN (gsI S r 22 0) hs (nI s) k m 1 1 0 0 = f_X5_weave_L38 r (n + 1) T hs (nI s) k m 1 1 mo (nI (vw A s).length) := w4
      clear w1 w2 w3 w4
      rw [List.take_length] at t2 t3
      subst t3
      have hvT := t1.see hw hs12 e45
      have hcl := wvF_len (x := k) (y := (0, k, m)) (vw A s)
      have hck := cKy_le (x := k) (P := vw A s)
      have hT0 := t1.thr 0
      have hroom := r_hasRoom t1 hw hs12 hk2 (m := cKy k (vw A s)) (by omega)
      have hfront : f_X5_weave S hs r (nI s) k m = f_X5_weave_b97 r T hs (nI s) k m 1 1 (nI (cKy k (vw A s))) := by
        simp only [f_X5_weave, f_X5_weave_b24, f_X5_weave_b25, h.1.fs, beq_self_eq_true, gck_t, Option.bind_some, b2i_1, e20, e30, e40, e50, if_true, if_false, r_fails h.1.1, fcd, gb2_s, e2, e3, b2i_t]
        rw [t4]
        simp only [f_X5_weave_L38, b2i_1, if_false, t1.1.1, beq_self_eq_true, gck_t, hvT.2.1, Option.bind_some, Int32.le_refl, if_true]
      rw [hfront]
      have bw : ∀ (z : Option (Int32 × GS × Nat)), z = z := fun _ => rfl
      cases hth : thOk k m
      · simp only [if_true]
        refine rRes_no (i := 3) (v := 0) t1 rfl ?_
        have hex : decide ((rwA A (sR (slA A s))).length + cKy k (vw A s) ≤ 24) = true ∨ decide ((rwA A (sR (slA A s))).length + cKy k (vw A s) ≤ 24) = false := by cases decide ((rwA A (sR (slA A s))).length + cKy k (vw A s) ≤ 24) <;> simp
        rcases hex with z | z <;> (rw [z] at hroom; simp only [f_X5_weave_b97, f_X5_weave_b110, f_X5_weave_b120, f_X5_weave_b130, f_X5_weave_b143, f_X5_weave_b162, f_X5_weave_b163, t1.1.fs, beq_self_eq_true, gck_t, Option.bind_some, b2i_1, e20, e30, e40, e50, if_true, if_false, r_fails t1.1.1, fcd, gb2_s, r_isThing, hth, b2i_f, b2i_t, r_slot1 T hs12, hroom]; rfl)
      · simp only [Bool.true_eq_false, if_false]
        by_cases hfull : 24 < (rwA A (sR (slA A s))).length + cKy k (vw A s)
        · rw [if_pos hfull]
          rw [decide_eq_false (show ¬ (rwA A (sR (slA A s))).length + cKy k (vw A s) ≤ 24 by omega)] at hroom
          refine rRes_no (i := 4) (v := 0) t1 rfl ?_
          simp only [f_X5_weave_b97, f_X5_weave_b110, f_X5_weave_b120, f_X5_weave_b130, f_X5_weave_b143, f_X5_weave_b162, f_X5_weave_b163, t1.1.fs, beq_self_eq_true, gck_t, Option.bind_some, b2i_1, e20, e30, e40, e50, if_true, if_false, r_fails t1.1.1, fcd, gb2_s, r_isThing, hth, b2i_f, b2i_t, r_slot1 T hs12, hroom]
          rfl
        · rw [if_neg hfull]
          rw [decide_eq_true (show (rwA A (sR (slA A s))).length + cKy k (vw A s) ≤ 24 by omega)] at hroom
          have hin : ∀ t ∈ wvF k (0, k, m) (vw A s), inB t := fun t ht => by
            unfold wvF at ht
            obtain ⟨u, u1, u2⟩ := List.mem_flatMap.mp ht
            by_cases c : u.2.1 = k
            · rw [if_pos c] at u2
              rcases List.mem_cons.mp u2 with rfl | u2
              · exact inB_row hw hs12 hk2 u1
              · rcases List.mem_cons.mp u2 with rfl | u2
                · exact thOk_in hth
                · cases u2
            · rw [if_neg c] at u2
              rcases List.mem_cons.mp u2 with rfl | u2
              · exact inB_row hw hs12 hk2 u1
              · cases u2
          obtain ⟨S', hs', u1, u2, u3, u4, u5, u6⟩ := r_bec2 hT0 hw hs12 hk2 t2.thr hin (by omega) (by omega)
          refine ⟨dq, cap, S', hs', ?_, u2, by rw [u3, gI_gsI, if_pos ⟨rfl, rfl⟩], u4⟩
          simp only [f_X5_weave_b97, f_X5_weave_b110, f_X5_weave_b120, f_X5_weave_b130, f_X5_weave_b143, f_X5_weave_b162, f_X5_weave_b163, t1.1.fs, beq_self_eq_true, gck_t, Option.bind_some, b2i_1, e20, e30, e40, e50, if_true, if_false, r_fails t1.1.1, fcd, gb2_s, hT0.1.fs, beq_self_eq_true, gck_t, Option.bind_some, b2i_1, e20, e30, e40, e50, if_true, if_false, r_fails hT0.1.1, fcd, gb2_s, r_isThing, hth, b2i_f, b2i_t, r_slot1 T hs12, hroom, u1]
theorem r_wipe (h : Rq r dq cap S hs A) (hw : WF A) (hp : npA A ≤ 511) (x : Int32) : rRes [1, 2, 3] r hs A (f_X5_wipe S hs r x) (m_wipe A x) := by
  have h0 := h.thr 0
  unfold m_wipe
  rcases c3 (A := A) x (fun _ => true) with e | ⟨s, hs12, rfl, e⟩ | ⟨s, hs12, rfl, e45, e⟩
  · rw [nd_no e]
    exact rRes_no (i := 0) (v := 0) h rfl (by simp only [f_X5_wipe_b118, f_X5_wipe_b63, f_X5_wipe_b62, f_X5_wipe_b46, f_X5_wipe_b37, f_X5_wipe_b23, f_X5_wipe_b22, f_X5_wipe, h.1.fs, beq_self_eq_true, gck_t, Option.bind_some, b2i_1, e20, e30, e40, e50, if_true, if_false, r_fails h.1.1, fcd, gb2_s, r_slot0 S e]; rfl)
  · rw [nd_bad hs12 e]
    have e : kA A s = 45 := e.elim id (fun z => absurd z (by decide))
    exact rRes_no (i := 1) (v := 0) h rfl (by simp only [f_X5_wipe_b118, f_X5_wipe_b63, f_X5_wipe_b62, f_X5_wipe_b46, f_X5_wipe_b37, f_X5_wipe_b23, f_X5_wipe_b22, f_X5_wipe, h.1.fs, beq_self_eq_true, gck_t, Option.bind_some, b2i_1, e20, e30, e40, e50, if_true, if_false, r_fails h.1.1, fcd, gb2_s, h.1.rs.1 s hs12, h.kd hs12, e, r_slot1 S hs12]; rfl)
  · rw [nd_ok hs12 e45 e]
    have e3 := r_canChange h hw hs12 e45
    have hv0 := h0.see hw hs12 e45
    cases ho : sO (slA A s)
    · rw [ho] at e3
      exact rRes_no (i := 2) (v := 0) h rfl (by simp only [f_X5_wipe_b118, f_X5_wipe_b63, f_X5_wipe_b62, f_X5_wipe_b46, f_X5_wipe_b37, f_X5_wipe_b23, f_X5_wipe_b22, f_X5_wipe, h.1.fs, beq_self_eq_true, gck_t, Option.bind_some, b2i_1, e20, e30, e40, e50, if_true, if_false, r_fails h.1.1, fcd, gb2_s, h.1.rs.1 s hs12, h.kd hs12, e45, e3, b2i_f, b2i_t, r_slot1 S hs12]; rfl)
    · rw [ho] at e3
      simp only [Bool.true_eq_false, if_false]
      have hof : f_X5_isOf (gsI S r 19 0) r (nI s) 0 = some (b2i (kA A s == 108 || kA A s == 112)) := by rw [r_isOf h0.1 hs12 (by omega), h0.kd hs12, tx0]
      by_cases hl : sK (slA A s) = 108 ∨ sK (slA A s) = 112
      · have hlb : (kA A s == 108 || kA A s == 112) = true := by
          simp only [Bool.or_eq_true, beq_iff_eq]; exact hl
        rw [hlb] at hof
        obtain ⟨l1, -⟩ := lst_facts hw hs12 (hl.elim Or.inl (fun h => Or.inr (Or.inl h)))
        have g24 := (hw.1 _ (show sR (slA A s) < 4 by omega)).1
        obtain ⟨S', hs', u1, u2, u3, u4⟩ := r_becomes (C := []) h0 hw hs12 hl ⟨by simp, fun i hi => absurd hi (by simp)⟩ (by simp only [List.length_nil]; omega) (by omega)
        have u1 : f_X5_becomes (gsI S r 19 0) hs r (nI s) (some (r + 29)) (some (r + 30)) 0 = some (S', hs') := by rw [← nI_0]; exact u1
        refine ⟨dq, cap, S', hs', ?_, u2, by rw [u3, gI_gsI, if_pos ⟨rfl, rfl⟩], u4⟩
        simp only [f_X5_wipe_b118, f_X5_wipe_b63, f_X5_wipe_b62, f_X5_wipe_b46, f_X5_wipe_b37, f_X5_wipe_b23, f_X5_wipe_b22, f_X5_wipe, h.1.fs, beq_self_eq_true, gck_t, Option.bind_some, b2i_1, e20, e30, e40, e50, if_true, if_false, r_fails h.1.1, fcd, gb2_s, h0.1.fs, h.1.rs.1 s hs12, h.kd hs12, e45, e3, b2i_t, r_slot1 S hs12, hv0.2.1, hof, u1]
      · have hlb : (kA A s == 108 || kA A s == 112) = false := by
          cases z : (kA A s == 108 || kA A s == 112)
          · rfl
          · simp only [Bool.or_eq_true, beq_iff_eq] at z; exact absurd z hl
        rw [hlb] at hof
        have hop := opn_of hw hs12 e45 ho
        have hm : sK (slA A s) = 109 ∨ sK (slA A s) = 70 ∨ sK (slA A s) = 107 ∨ sK (slA A s) = 118 := by
          rcases hop with z | z | z | z | z
          · exact absurd (Or.inl z) hl
          · exact absurd (Or.inr z) hl
          · exact Or.inl z
          · exact Or.inr (Or.inr (Or.inl z))
          · exact Or.inr (Or.inr (Or.inr z))
        have hk7 : (kMp (kA A s) || kA A s == 107) = true ∨ kA A s = 118 := by
          rcases hm with z | z | z | z
          · exact Or.inl (by rw [show kA A s = 109 from z]; decide)
          · exact Or.inl (by rw [show kA A s = 70 from z]; decide)
          · exact Or.inl (by rw [show kA A s = 107 from z]; decide)
          · exact Or.inr z
        obtain ⟨j, j1, j2, j3, j4, -⟩ := h0.ref hw hs12 hk7
        obtain ⟨m1, m2, m3, m4⟩ := chgM_ext (V := []) hw hs12 hm
        have hq : Rq r dq cap (gsI (gsI S r 19 0) (r + 17) j 0) hs (aSetR A (2 + j) []) := h0.map j1 (rFr.one (by unfold wMp; omega)) ⟨by rw [gI_gsI, if_pos ⟨rfl, rfl⟩]; rfl, fun i hi => absurd hi (by simp)⟩ (Nat.le_refl _) (fun a ha => h.2.2.2.2.2.2.1 a ha)
        have hq2 : Rq r dq cap (gsI (gsI S r 19 0) (r + 17) j 0) hs (chgA A s []) := hq.ext (fun i hi => by rw [m1 i, rw_set, j2]) m2 m3 m4
        refine ⟨dq, cap, _, hs, ?_, hq2, by rw [gI_gsI, if_neg (by omega), gI_gsI, if_pos ⟨rfl, rfl⟩], Nat.le_refl _⟩
        simp only [f_X5_wipe_b118, f_X5_wipe_b63, f_X5_wipe_b62, f_X5_wipe_b46, f_X5_wipe_b37, f_X5_wipe_b23, f_X5_wipe_b22, f_X5_wipe, h.1.fs, beq_self_eq_true, gck_t, Option.bind_some, b2i_1, e20, e30, e40, e50, if_true, if_false, r_fails h.1.1, fcd, gb2_s, h0.1.fs, h.1.rs.1 s hs12, h.kd hs12, e45, e3, b2i_t, b2i_f, r_slot1 S hs12, hv0.2.1, hof, j3, h0.1.ws.2.2.2.2.2.2.2.1 j 0 j1]
end RWea
