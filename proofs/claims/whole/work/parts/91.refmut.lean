/-! THE REFERENCE'S CHANGES, against the same words -/
def rRes (l : List Nat) (r hs : Nat) (A : AS) (f : Option (Int32 × GS × Nat)) (z : (Int32 × AS) ⊕ Nat) : Prop := match z with
  | .inl (v, B) => ∃ dq cap S' hs', f = some (v, S', hs') ∧ Rq r dq cap S' hs' B ∧ gI S' r 19 = 0 ∧ hs ≤ hs'
  | .inr e => ∃ i v dq cap S' hs', l[i]? = some e ∧ f = some (v, S', hs') ∧ Rq r dq cap S' hs' A ∧ gI S' r 19 = nI (i + 1) ∧ hs ≤ hs'
/-- of a method that makes nothing -/
def rLf (hs : Nat) (f : Option (Int32 × GS)) : Option (Int32 × GS × Nat) := f.map fun q => (q.1, q.2, hs)
section RMut
variable {S S' : GS} {r cap hs hs' : Nat} {dq : Nat → Nat} {A : AS}
theorem rRes_no {l : List Nat} {e i : Nat} {v : Int32} {f : Option (Int32 × GS × Nat)} (h : Rq r dq cap S hs A) (hl : l[i]? = some e) (hf : f = some (v, gsI S r 19 (nI (i + 1)), hs)) : rRes l r hs A f (.inr e) :=
  ⟨i, v, dq, cap, _, hs, hl, hf, h.thr _, by rw [gI_gsI, if_pos ⟨rfl, rfl⟩], Nat.le_refl _⟩
theorem rRes_noP {l : List Nat} {e i : Nat} {v : Int32} {f : Option (Int32 × GS)} (h : Rq r dq cap S hs A) (hl : l[i]? = some e) (hf : f = some (v, gsI S r 19 (nI (i + 1)))) : rRes l r hs A (rLf hs f) (.inr e) :=
  rRes_no h hl (by rw [hf]; rfl)
theorem rRes_okP {l : List Nat} {v : Int32} {B : AS} {f : Option (Int32 × GS)} (hf : f = some (v, S')) (h : Rq r dq cap S' hs B) (h0 : gI S' r 19 = 0) : rRes l r hs A (rLf hs f) (.inl (v, B)) :=
  ⟨dq, cap, S', hs, by rw [hf]; rfl, h, h0, Nat.le_refl _⟩
theorem r_hasRoom {s m : Nat} (h : Rq r dq cap S hs A) (hw : WF A) (hs12 : s < 12) (hk : sK (slA A s) = 108 ∨ sK (slA A s) = 112) (hm : m ≤ 100) : f_X5_hasRoom S r (nI s) (nI m) = some (b2i (decide ((rwA A (sR (slA A s))).length + m ≤ 24))) := by
  obtain ⟨l1, -⟩ := lst_facts hw hs12 (hk.elim Or.inl (fun h => Or.inr (Or.inl h)))
  have g24 := (hw.1 _ (show sR (slA A s) < 4 by omega)).1
  obtain ⟨e24, -⟩ := h.refL hw hs12 hk
  simp (disch := omega) only [f_X5_hasRoom, h.1.fs, h.1.rs.2.1 s hs12, e24, h.1.rs.2.2.2.2.2.2.1 _ l1, (h.2.2.1 _ l1).1, Option.bind_some, nI_add, n_24, nI_ltI]
  by_cases e : (rwA A (sR (slA A s))).length + m ≤ 24
  · rw [if_neg (by omega), decide_eq_true e]; rfl
  · rw [if_pos (by omega), decide_eq_false e]; rfl
/-- new things laid: the list or part becomes these -/
theorem r_bec2 {s : Nat} {T : GS} {C : List Tr} (h : Rq r dq cap T hs A) (hw : WF A) (hs12 : s < 12) (hk : sK (slA A s) = 108 ∨ sK (slA A s) = 112) (hn : rNw T r C) (hC : ∀ t ∈ C, inB t) (hl : (rwA A (sR (slA A s))).length - (vw A s).length + C.length ≤ 24) (hp : npA A ≤ 512) :
    ∃ S' hs', f_X5_becomes T hs r (nI s) (some (r + 29)) (some (r + 30)) (gI T r 22) = some (S', hs') ∧ Rq r dq cap S' hs' (chgA A s C) ∧ (∀ k, gI S' r k = gI T r k) ∧ hs ≤ hs' ∧ f_X5_many S' r (nI s) = some (nI C.length) ∧ gT S' r = 6 := by
  obtain ⟨S', hs', a1, a2, a3, a4⟩ := r_becomes h hw hs12 hk hn.2 hl hp
  have hwf := WF_chg (V := C) hw hs12 hk hC hl
  obtain ⟨e1, e2⟩ := vw_chg (V := C) hw hs12 hk
  have hk45 : kA (chgA A s C) s ≠ 45 := by
    show sK (slA (chgA A s C) s) ≠ 45
    rw [e1]
    rcases hk with h | h <;> (rw [h]; decide)
  have hm := r_many a2 hwf hs12 hk45
  rw [e2] at hm
  exact ⟨S', hs', by rw [hn.1]; exact a1, a2, a3, a4, hm, a2.1.1⟩
theorem gd_in {V : List Tr} {i : Nat} {P : Tr → Prop} (h : ∀ t ∈ V, P t) (hi : i < V.length) : P (V.getD i tz) := h _ (gd_mem hi)
/-- lay a thing that is seen -/
theorem r_layV {s i : Nat} {T : GS} {C : List Tr} (h : Rq r dq cap T hs A) (hw : WF A) (hs12 : s < 12) (hk : kA A s ≠ 45) (hi : i < (vw A s).length) (hn : rNw T r C) (hc : C.length < 72) (n : Int32) :
    ∃ T', f_X5_lays T r ((vw A s).getD i tz).2.1 ((vw A s).getD i tz).2.2 = some T' ∧ Rq r dq cap T' hs A ∧ rNw T' r (C ++ [(n, ((vw A s).getD i tz).2.1, ((vw A s).getD i tz).2.2)]) ∧ gI T' r 19 = gI T r 19 ∧ (∀ a, gT T' a = gT T a) := by
  obtain ⟨T', a1, a2, a3, -, a5, a6⟩ := r_lays h hn hc n ((vw A s).getD i tz).2.1 ((vw A s).getD i tz).2.2
  exact ⟨T', a1, a2, a3, a6, a5⟩
theorem tr_eta (t : Tr) : (t.1, t.2.1, t.2.2) = t := rfl
theorem r_put (h : Rq r dq cap S hs A) (hw : WF A) (hp : npA A ≤ 511) (x y k m : Int32) : rRes [1, 2, 3, 4, 5] r hs A (f_X5_put S hs r x y k m) (m_put A x y k m) := by
  have h0 := h.thr 0
  unfold m_put
  rcases c3 (A := A) x kLs with e | ⟨s, hs12, rfl, e⟩ | ⟨s, hs12, rfl, e45, e⟩
  · rw [nd_no e]
    exact rRes_no (i := 0) (v := 0) h rfl (by simp only [f_X5_put_b175, f_X5_put_b147, f_X5_put_b108, f_X5_put_b107, f_X5_put_b89, f_X5_put_b88, f_X5_put_b84, f_X5_put_b60, f_X5_put_b50, f_X5_put_b40, f_X5_put_b25, f_X5_put_b24, f_X5_put, h.1.fs, beq_self_eq_true, gck_t, Option.bind_some, b2i_1, e20, e30, e40, e50, if_true, if_false, r_fails h.1.1, fcd, gb2_s, r_isList_no h e, r_slot0 S e]; rfl)
  · rw [nd_bad hs12 e]
    have e := or_bad (q := kLs) e (by decide)
    have e2 := r_isList h hs12
    rw [e] at e2
    exact rRes_no (i := 1) (v := 0) h rfl (by simp only [f_X5_put_b175, f_X5_put_b147, f_X5_put_b108, f_X5_put_b107, f_X5_put_b89, f_X5_put_b88, f_X5_put_b84, f_X5_put_b60, f_X5_put_b50, f_X5_put_b40, f_X5_put_b25, f_X5_put_b24, f_X5_put, h.1.fs, beq_self_eq_true, gck_t, Option.bind_some, b2i_1, e20, e30, e40, e50, if_true, if_false, r_fails h.1.1, fcd, gb2_s, e2, b2i_f, r_slot1 S hs12]; rfl)
  · rw [nd_ok hs12 e45 e]
    have e2 := r_isList h hs12
    rw [e] at e2
    have e3 := r_canChange h hw hs12 e45
    have hv := h.see hw hs12 e45
    have hv0 := h0.see hw hs12 e45
    have h24 := hv.2.2.1
    cases ho : sO (slA A s)
    · rw [ho] at e3
      exact rRes_no (i := 2) (v := 0) h rfl (by simp only [f_X5_put_b175, f_X5_put_b147, f_X5_put_b108, f_X5_put_b107, f_X5_put_b89, f_X5_put_b88, f_X5_put_b84, f_X5_put_b60, f_X5_put_b50, f_X5_put_b40, f_X5_put_b25, f_X5_put_b24, f_X5_put, h.1.fs, beq_self_eq_true, gck_t, Option.bind_some, b2i_1, e20, e30, e40, e50, if_true, if_false, r_fails h.1.1, fcd, gb2_s, e2, e3, b2i_f, b2i_t, r_slot1 S hs12]; rfl)
    · rw [ho] at e3
      simp only [Bool.true_eq_false, if_false]
      have hk2 := kLs_op hw hs12 e ho
      obtain ⟨l1, l2, l3, l4, l5, -⟩ := lst_facts hw hs12 (hk2.elim Or.inl (fun h => Or.inr (Or.inl h)))
      have g24 := (hw.1 _ (show sR (slA A s) < 4 by omega)).1
      have hroom := r_hasRoom h hw hs12 hk2 (m := 1) (by omega)
      rw [← n_1] at hroom
      have hex : decide ((rwA A (sR (slA A s))).length + 1 ≤ 24) = true ∨ decide ((rwA A (sR (slA A s))).length + 1 ≤ 24) = false := by cases decide ((rwA A (sR (slA A s))).length + 1 ≤ 24) <;> simp
      cases hip : inP y ((vw A s).length + 1)
      · simp only [if_true]
        refine rRes_no (i := 3) (v := 0) h rfl ?_
        rcases hex with z | z <;> (rw [z] at hroom; simp only [f_X5_put_b175, f_X5_put_b147, f_X5_put_b108, f_X5_put_b107, f_X5_put_b89, f_X5_put_b88, f_X5_put_b84, f_X5_put_b60, f_X5_put_b50, f_X5_put_b40, f_X5_put_b25, f_X5_put_b24, f_X5_put, h.1.fs, beq_self_eq_true, gck_t, Option.bind_some, b2i_1, e20, e30, e40, e50, if_true, if_false, r_fails h.1.1, fcd, gb2_s, e2, e3, b2i_t, b2i_f, r_slot1 S hs12, r_isPlace1 hv, hip, hroom]; rfl)
      · simp only [Bool.true_eq_false, if_false]
        cases hth : thOk k m
        · simp only [if_true]
          refine rRes_no (i := 3) (v := 0) h rfl ?_
          rcases hex with z | z <;> (rw [z] at hroom; simp only [f_X5_put_b175, f_X5_put_b147, f_X5_put_b108, f_X5_put_b107, f_X5_put_b89, f_X5_put_b88, f_X5_put_b84, f_X5_put_b60, f_X5_put_b50, f_X5_put_b40, f_X5_put_b25, f_X5_put_b24, f_X5_put, h.1.fs, beq_self_eq_true, gck_t, Option.bind_some, b2i_1, e20, e30, e40, e50, if_true, if_false, r_fails h.1.1, fcd, gb2_s, e2, e3, b2i_t, b2i_f, r_slot1 S hs12, r_isPlace1 hv, hip, r_isThing, hth, hroom]; rfl)
        · simp only [Bool.true_eq_false, if_false]
          by_cases hfull : 24 < (rwA A (sR (slA A s))).length + 1
          · rw [if_pos hfull]
            rw [decide_eq_false (show ¬ (rwA A (sR (slA A s))).length + 1 ≤ 24 by omega)] at hroom
            exact rRes_no (i := 4) (v := 0) h rfl (by simp only [f_X5_put_b175, f_X5_put_b147, f_X5_put_b108, f_X5_put_b107, f_X5_put_b89, f_X5_put_b88, f_X5_put_b84, f_X5_put_b60, f_X5_put_b50, f_X5_put_b40, f_X5_put_b25, f_X5_put_b24, f_X5_put, h.1.fs, beq_self_eq_true, gck_t, Option.bind_some, b2i_1, e20, e30, e40, e50, if_true, if_false, r_fails h.1.1, fcd, gb2_s, e2, e3, b2i_t, b2i_f, r_slot1 S hs12, r_isPlace1 hv, hip, r_isThing, hth, hroom]; rfl)
          · rw [if_neg hfull]
            rw [decide_eq_true (show (rwA A (sR (slA A s))).length + 1 ≤ 24 by omega)] at hroom
            obtain ⟨p, p1, rfl, p2⟩ := inP_i (by omega) hip
            rw [p2]
            have hW : ((vw A s).insertIdx p (0, k, m)).length = (vw A s).length + 1 := len_ins (by omega)
            have g0 : ∀ i, i < p → ((vw A s).insertIdx p (0, k, m)).getD i tz = (vw A s).getD i tz := fun i hi => by rw [gd_ins (by omega), if_pos hi]
            have g1 : ((vw A s).insertIdx p (0, k, m)).getD p tz = (0, k, m) := by rw [gd_ins (by omega), if_neg (by omega), if_pos rfl]
            have g2 : ∀ i, p ≤ i → ((vw A s).insertIdx p (0, k, m)).getD (i + 1) tz = (vw A s).getD i tz := fun i hi => by rw [gd_ins (by omega), if_neg (by omega), if_neg (by omega)]; rfl
            generalize hWW : (vw A s).insertIdx p ((0 : Int32), k, m) = W at *
            obtain ⟨T, ⟨t1, t2, t3⟩, n, t4⟩ := lpG0 (F := fun n T i => f_X5_put_L124 r n T hs (nI s) (nI p) k m i) (fun i T => Rq r dq cap T hs A ∧ rNw T r (W.take (if i ≤ p then i else i + 1)) ∧ gI T r 19 = 0) ((vw A s).length + 1) (fun n T i hi hI => by
              obtain ⟨i1, i2, i3⟩ := hI
              have hvT := i1.see hw hs12 e45
              have q : ((vw A s).length < i) = False := eq_false (by omega)
              have hb : ∀ (T : GS), Rq r dq cap T hs A → rNw T r (W.take (if i < p then i else i + 1)) → gI T r 19 = 0 → ∃ T', (Rq r dq cap T' hs A ∧ rNw T' r (W.take (if i + 1 ≤ p then i + 1 else i + 1 + 1)) ∧ gI T' r 19 = 0) ∧ f_X5_put_b147 (f_X5_put_L124 r n) r T hs (nI s) (nI p) k m (nI i) = f_X5_put_L124 r n T' hs (nI s) (nI p) k m (nI (i + 1)) := by
                intro T j1 j2 j3
                have hvT := j1.see hw hs12 e45
                by_cases hlast : (vw A s).length ≤ i
                · have : i = (vw A s).length := by omega
                  subst this
                  refine ⟨T, ⟨j1, ?_, j3⟩, ?_⟩
                  · rw [if_neg (by omega)] at j2 ⊢
                    rw [List.take_of_length_le (by omega)] at j2 ⊢
                    exact j2
                  · simp only [f_X5_put_b147, f_X5_put_b175, j1.1.1, beq_self_eq_true, gck_t, hvT.2.1, Option.bind_some, Int32.le_refl, if_true, nI_1]
                · have hil : i < (vw A s).length := by omega
                  obtain ⟨b1, b2⟩ := hvT.2.2.2 i hil
                  obtain ⟨T', c1, c2, c3, c4, c5⟩ := r_layV j1 hw hs12 e45 hil j2 (by rw [List.length_take]; split <;> omega) ((vw A s).getD i tz).1
                  refine ⟨T', ⟨c2, ?_, by rw [c4]; exact j3⟩, ?_⟩
                  · rw [tr_eta] at c3
                    by_cases hip2 : i < p
                    · rw [if_pos hip2, ← g0 i hip2, ← take_s (by omega)] at c3
                      rw [if_pos (by omega)]
                      exact c3
                    · rw [if_neg hip2, ← g2 i (by omega), ← take_s (by omega)] at c3
                      rw [if_neg (by omega)]
                      exact c3
                  · have q2 : ((vw A s).length ≤ i) = False := eq_false hlast
                    simp (disch := omega) only [f_X5_put_b147, f_X5_put_b175, j1.1.1, beq_self_eq_true, gck_t, hvT.2.1, Option.bind_some, nI_leI, q2, if_false, b1, b2, c1, nI_1]
              by_cases hpi : i = p
              · subst hpi
                rw [if_pos (Nat.le_refl _)] at i2
                obtain ⟨T1, d1, d2, d3, d4, d5, d6⟩ := r_lays i1 i2 (by rw [List.length_take]; omega) 0 k m
                rw [← g1, ← take_s (by omega)] at d3
                obtain ⟨T', f1, f2⟩ := hb T1 d2 (by rw [if_neg (by omega)]; exact d3) (by rw [d6]; exact i3)
                refine ⟨T', f1, ?_⟩
                rw [← f2]
                simp (disch := omega) only [f_X5_put_L124, i1.1.1, beq_self_eq_true, gck_t, hvT.2.1, Option.bind_some, nI_ltI, q, if_false, if_true, d1]
              · obtain ⟨T', f1, f2⟩ := hb T i1 (by
                  by_cases z : i < p
                  · rw [if_pos (by omega)] at i2; rw [if_pos z]; exact i2
                  · rw [if_neg (by omega)] at i2; rw [if_neg z]; exact i2) i3
                refine ⟨T', f1, ?_⟩
                rw [← f2]
                simp (disch := omega) only [f_X5_put_L124, i1.1.1, beq_self_eq_true, gck_t, hvT.2.1, Option.bind_some, nI_ltI, q, if_false, nI_eq, hpi]) (by omega) (gsI (gsI S r 19 0) r 22 0) ⟨h0.nsz 0, by
                rw [if_pos (by omega), List.take_zero]
                exact rNw_nil (by rw [gI_gsI, if_pos ⟨rfl, rfl⟩]), by rw [gI_gsI, if_neg (by omega), gI_gsI, if_pos ⟨rfl, rfl⟩]⟩
            rw [if_neg (by omega), List.take_of_length_le (by omega)] at t2
            have hin : ∀ t ∈ W, inB t := fun t ht => by
              rw [← hWW] at ht
              rcases mem_ins ht with rfl | z
              · exact thOk_in hth
              · exact inB_row hw hs12 hk2 z
            obtain ⟨S', hs', u1, u2, u3, u4, u5, u6⟩ := r_bec2 t1 hw hs12 hk2 t2 hin (by omega) (by omega)
            refine ⟨dq, cap, S', hs', ?_, u2, by rw [u3]; exact t3, u4⟩
            have hvT := t1.see hw hs12 e45
            have q : ((vw A s).length < (vw A s).length + 1) = True := eq_true (by omega)
            simp only [f_X5_put_b175, f_X5_put_b147, f_X5_put_b108, f_X5_put_b107, f_X5_put_b89, f_X5_put_b88, f_X5_put_b84, f_X5_put_b60, f_X5_put_b50, f_X5_put_b40, f_X5_put_b25, f_X5_put_b24, f_X5_put, h.1.fs, beq_self_eq_true, gck_t, Option.bind_some, b2i_1, e20, e30, e40, e50, if_true, if_false, r_fails h.1.1, fcd, gb2_s, h0.1.fs, e2, e3, b2i_t, b2i_f, r_slot1 S hs12, r_isPlace1 hv, hip, r_isThing, hth, hroom]
            rw [t4]
            simp (disch := omega) only [f_X5_put_L124, t1.1.fs, beq_self_eq_true, gck_t, hvT.2.1, Option.bind_some, nI_ltI, q, if_true, u1, gb2_s, u6, u5, hW]
theorem r_leaves {s p : Nat} (h : Rq r dq cap S hs A) (hw : WF A) (hs12 : s < 12) (hk : sK (slA A s) = 108 ∨ sK (slA A s) = 112) (hp : p < (vw A s).length) (hn : npA A ≤ 512) (h9 : gI S r 19 = 0) :
    ∃ S' hs', f_X5_leaves S hs r (nI s) (nI p) = some (S', hs') ∧ Rq r dq cap S' hs' (chgA A s ((vw A s).eraseIdx p)) ∧ gI S' r 19 = 0 ∧ hs ≤ hs' := by
  have e45 : kA A s ≠ 45 := by
    show sK (slA A s) ≠ 45
    rcases hk with h | h <;> (rw [h]; decide)
  obtain ⟨l1, l2, l3, l4, l5, -⟩ := lst_facts hw hs12 (hk.elim Or.inl (fun h => Or.inr (Or.inl h)))
  have g24 := (hw.1 _ (show sR (slA A s) < 4 by omega)).1
  have h24 := vw_24 hw hs12 e45
  have hW : ((vw A s).eraseIdx p).length = (vw A s).length - 1 := len_era hp
  have g0 : ∀ i, i < p → ((vw A s).eraseIdx p).getD i tz = (vw A s).getD i tz := fun i hi => by rw [gd_era, if_pos hi]
  have g2 : ∀ i, p ≤ i → ((vw A s).eraseIdx p).getD i tz = (vw A s).getD (i + 1) tz := fun i hi => by rw [gd_era, if_neg (by omega)]
  have hin : ∀ t ∈ (vw A s).eraseIdx p, inB t := fun t ht => inB_row hw hs12 hk (List.mem_of_mem_eraseIdx ht)
  generalize hWW : (vw A s).eraseIdx p = W at *
  obtain ⟨T, ⟨t1, t2, t3⟩, n, t4⟩ := lpG0 (F := fun n T i => f_X5_leaves_L7 r n T hs (nI s) (nI p) i) (fun i T => Rq r dq cap T hs A ∧ rNw T r (W.take (if i ≤ p then i else i - 1)) ∧ gI T r 19 = 0) (vw A s).length (fun n T i hi hI => by
      obtain ⟨i1, i2, i3⟩ := hI
      have hvT := i1.see hw hs12 e45
      have q : ((vw A s).length ≤ i) = False := eq_false (by omega)
      by_cases hpi : i = p
      · subst hpi
        refine ⟨T, ⟨i1, ?_, i3⟩, ?_⟩
        · rw [if_pos (Nat.le_refl _)] at i2; rw [if_neg (by omega)]; exact i2
        · simp (disch := omega) only [f_X5_leaves_L7, f_X5_leaves_b37, i1.1.1, beq_self_eq_true, gck_t, hvT.2.1, Option.bind_some, nI_leI, q, if_false, if_true, nI_1]
      · obtain ⟨b1, b2⟩ := hvT.2.2.2 i hi
        obtain ⟨T', c1, c2, c3, c4, c5⟩ := r_layV i1 hw hs12 e45 hi i2 (by rw [List.length_take]; split <;> omega) ((vw A s).getD i tz).1
        refine ⟨T', ⟨c2, ?_, by rw [c4]; exact i3⟩, ?_⟩
        · rw [tr_eta] at c3
          by_cases z : i < p
          · rw [if_pos (by omega), ← g0 i z, ← take_s (by omega)] at c3
            rw [if_pos (by omega)]
            exact c3
          · obtain ⟨j, rfl⟩ : ∃ k, i = k + 1 := ⟨i - 1, by omega⟩
            rw [if_neg (by omega), ← g2 j (by omega), Nat.add_sub_cancel, ← take_s (by omega)] at c3
            rw [if_neg (by omega)]
            exact c3
        · simp (disch := omega) only [f_X5_leaves_L7, f_X5_leaves_b37, i1.1.1, beq_self_eq_true, gck_t, hvT.2.1, Option.bind_some, nI_leI, q, if_false, nI_eq, hpi, b1, b2, c1, nI_1]) (by omega) (gsI S r 22 0) ⟨h.nsz 0, by
        rw [if_pos (by omega), List.take_zero]
        exact rNw_nil (by rw [gI_gsI, if_pos ⟨rfl, rfl⟩]), by rw [gI_gsI, if_neg (by omega)]; exact h9⟩
  rw [if_neg (by omega), List.take_of_length_le (by omega)] at t2
  obtain ⟨S', hs', u1, u2, u3, u4, u5, u6⟩ := r_bec2 t1 hw hs12 hk t2 hin (by omega) (by omega)
  refine ⟨S', hs', ?_, u2, by rw [u3]; exact t3, u4⟩
  have hvT := t1.see hw hs12 e45
  simp only [f_X5_leaves, h.1.fs, Option.bind_some]
  rw [t4]
  simp only [f_X5_leaves_L7, t1.1.fs, beq_self_eq_true, gck_t, hvT.2.1, Option.bind_some, Int32.le_refl, if_true, u1, gb2_s]
theorem r_take (h : Rq r dq cap S hs A) (hw : WF A) (hp : npA A ≤ 511) (x y : Int32) : rRes [1, 2, 3, 4] r hs A (f_X5_take S hs r x y) (m_take A x y) := by
  have h0 := h.thr 0
  unfold m_take
  rcases c3 (A := A) x kLs with e | ⟨s, hs12, rfl, e⟩ | ⟨s, hs12, rfl, e45, e⟩
  · rw [nd_no e]
    exact rRes_no (i := 0) (v := 0) h rfl (by simp only [f_X5_take_b77, f_X5_take_b76, f_X5_take_b57, f_X5_take_b47, f_X5_take_b38, f_X5_take_b23, f_X5_take_b22, f_X5_take, h.1.fs, beq_self_eq_true, gck_t, Option.bind_some, b2i_1, e20, e30, e40, e50, if_true, if_false, r_fails h.1.1, fcd, gb2_s, r_isList_no h e, r_slot0 S e]; rfl)
  · rw [nd_bad hs12 e]
    have e := or_bad (q := kLs) e (by decide)
    have e2 := r_isList h hs12
    rw [e] at e2
    exact rRes_no (i := 1) (v := 0) h rfl (by simp only [f_X5_take_b77, f_X5_take_b76, f_X5_take_b57, f_X5_take_b47, f_X5_take_b38, f_X5_take_b23, f_X5_take_b22, f_X5_take, h.1.fs, beq_self_eq_true, gck_t, Option.bind_some, b2i_1, e20, e30, e40, e50, if_true, if_false, r_fails h.1.1, fcd, gb2_s, e2, b2i_f, r_slot1 S hs12]; rfl)
  · rw [nd_ok hs12 e45 e]
    have e2 := r_isList h hs12
    rw [e] at e2
    have e3 := r_canChange h hw hs12 e45
    have hv := h.see hw hs12 e45
    have hv0 := h0.see hw hs12 e45
    have h24 := hv.2.2.1
    cases ho : sO (slA A s)
    · rw [ho] at e3
      exact rRes_no (i := 2) (v := 0) h rfl (by simp only [f_X5_take_b77, f_X5_take_b76, f_X5_take_b57, f_X5_take_b47, f_X5_take_b38, f_X5_take_b23, f_X5_take_b22, f_X5_take, h.1.fs, beq_self_eq_true, gck_t, Option.bind_some, b2i_1, e20, e30, e40, e50, if_true, if_false, r_fails h.1.1, fcd, gb2_s, e2, e3, b2i_f, b2i_t, r_slot1 S hs12]; rfl)
    · rw [ho] at e3
      simp only [Bool.true_eq_false, if_false]
      have hk2 := kLs_op hw hs12 e ho
      obtain ⟨l1, l2, l3, l4, l5, -⟩ := lst_facts hw hs12 (hk2.elim Or.inl (fun h => Or.inr (Or.inl h)))
      have g24 := (hw.1 _ (show sR (slA A s) < 4 by omega)).1
      cases hip : inP y (vw A s).length
      · simp only [if_true]
        exact rRes_no (i := 3) (v := 0) h rfl (by simp only [f_X5_take_b77, f_X5_take_b76, f_X5_take_b57, f_X5_take_b47, f_X5_take_b38, f_X5_take_b23, f_X5_take_b22, f_X5_take, h.1.fs, beq_self_eq_true, gck_t, Option.bind_some, b2i_1, e20, e30, e40, e50, if_true, if_false, r_fails h.1.1, fcd, gb2_s, e2, e3, b2i_t, b2i_f, r_slot1 S hs12, r_isPlace0 hv, hip]; rfl)
      · simp only [Bool.true_eq_false, if_false]
        obtain ⟨p, p1, rfl, p2⟩ := inP_i (by omega) hip
        rw [p2]
        obtain ⟨S', hs', u1, u2, u3, u4⟩ := r_leaves h0 hw hs12 hk2 p1 (by omega) (by rw [gI_gsI, if_pos ⟨rfl, rfl⟩])
        refine ⟨dq, cap, S', hs', ?_, u2, u3, u4⟩
        simp only [f_X5_take_b77, f_X5_take_b76, f_X5_take_b57, f_X5_take_b47, f_X5_take_b38, f_X5_take_b23, f_X5_take_b22, f_X5_take, h.1.fs, beq_self_eq_true, gck_t, Option.bind_some, b2i_1, e20, e30, e40, e50, if_true, if_false, r_fails h.1.1, fcd, gb2_s, h0.1.fs, e2, e3, b2i_t, b2i_f, r_slot1 S hs12, r_isPlace0 hv, hip, r_hashAt hv0 p1, u1]
theorem r_set (h : Rq r dq cap S hs A) (hw : WF A) (hp : npA A ≤ 511) (x y k m : Int32) : rRes [1, 2, 3, 4] r hs A (rLf hs (f_X5_set S r x y k m)) (m_set A x y k m) := by
  have h0 := h.thr 0
  unfold m_set
  rcases c3 (A := A) x kLs with e | ⟨s, hs12, rfl, e⟩ | ⟨s, hs12, rfl, e45, e⟩
  · rw [nd_no e]
    exact rRes_noP (i := 0) (v := 0) h rfl (by simp only [f_X5_set_b89, f_X5_set_b88, f_X5_set_b84, f_X5_set_b60, f_X5_set_b50, f_X5_set_b40, f_X5_set_b25, f_X5_set_b24, f_X5_set, h.1.fs, beq_self_eq_true, gck_t, Option.bind_some, b2i_1, e20, e30, e40, e50, if_true, if_false, r_fails h.1.1, fcd, gb2_s, r_isList_no h e, r_slot0 S e]; rfl)
  · rw [nd_bad hs12 e]
    have e := or_bad (q := kLs) e (by decide)
    have e2 := r_isList h hs12
    rw [e] at e2
    exact rRes_noP (i := 1) (v := 0) h rfl (by simp only [f_X5_set_b89, f_X5_set_b88, f_X5_set_b84, f_X5_set_b60, f_X5_set_b50, f_X5_set_b40, f_X5_set_b25, f_X5_set_b24, f_X5_set, h.1.fs, beq_self_eq_true, gck_t, Option.bind_some, b2i_1, e20, e30, e40, e50, if_true, if_false, r_fails h.1.1, fcd, gb2_s, e2, b2i_f, r_slot1 S hs12]; rfl)
  · rw [nd_ok hs12 e45 e]
    have e2 := r_isList h hs12
    rw [e] at e2
    have e3 := r_canChange h hw hs12 e45
    have hv := h.see hw hs12 e45
    have hv0 := h0.see hw hs12 e45
    have h24 := hv.2.2.1
    cases ho : sO (slA A s)
    · rw [ho] at e3
      exact rRes_noP (i := 2) (v := 0) h rfl (by simp only [f_X5_set_b89, f_X5_set_b88, f_X5_set_b84, f_X5_set_b60, f_X5_set_b50, f_X5_set_b40, f_X5_set_b25, f_X5_set_b24, f_X5_set, h.1.fs, beq_self_eq_true, gck_t, Option.bind_some, b2i_1, e20, e30, e40, e50, if_true, if_false, r_fails h.1.1, fcd, gb2_s, e2, e3, b2i_f, b2i_t, r_slot1 S hs12]; rfl)
    · rw [ho] at e3
      simp only [Bool.true_eq_false, if_false]
      have hk2 := kLs_op hw hs12 e ho
      obtain ⟨l1, l2, l3, l4, l5, -⟩ := lst_facts hw hs12 (hk2.elim Or.inl (fun h => Or.inr (Or.inl h)))
      have g24 := (hw.1 _ (show sR (slA A s) < 4 by omega)).1
      cases hip : inP y (vw A s).length
      · simp only [if_true]
        exact rRes_noP (i := 3) (v := 0) h rfl (by simp only [f_X5_set_b89, f_X5_set_b88, f_X5_set_b84, f_X5_set_b60, f_X5_set_b50, f_X5_set_b40, f_X5_set_b25, f_X5_set_b24, f_X5_set, h.1.fs, beq_self_eq_true, gck_t, Option.bind_some, b2i_1, e20, e30, e40, e50, if_true, if_false, r_fails h.1.1, fcd, gb2_s, e2, e3, b2i_t, b2i_f, r_slot1 S hs12, r_isPlace0 hv, hip]; rfl)
      · simp only [Bool.true_eq_false, if_false]
        cases hth : thOk k m
        · simp only [if_true]
          exact rRes_noP (i := 3) (v := 0) h rfl (by simp only [f_X5_set_b89, f_X5_set_b88, f_X5_set_b84, f_X5_set_b60, f_X5_set_b50, f_X5_set_b40, f_X5_set_b25, f_X5_set_b24, f_X5_set, h.1.fs, beq_self_eq_true, gck_t, Option.bind_some, b2i_1, e20, e30, e40, e50, if_true, if_false, r_fails h.1.1, fcd, gb2_s, e2, e3, b2i_t, b2i_f, r_slot1 S hs12, r_isPlace0 hv, hip, r_isThing, hth]; rfl)
        · simp only [Bool.true_eq_false, if_false]
          obtain ⟨p, p1, rfl, p2⟩ := inP_i (by omega) hip
          rw [p2, chg_eq (by rw [List.length_set])]
          have hput := r_put1 (n := ((vw A s).getD p tz).1) (k := k) (m := m) (i := p) (rowC_self hw hs12 hk2 h0) hw hs12 hk2 rfl p1
          have hT1 := h0.1.gs (r + (2 + sR (slA A s))) (fsA A (slA A s) + p) k
          obtain ⟨e24, -⟩ := h0.refL hw hs12 hk2
          have e24' : gI (gsI (gsI S r 19 0) (r + (2 + sR (slA A s))) (fsA A (slA A s) + p) k) (r + 24) s = nI (sR (slA A s)) := by rw [gI_gsI, if_neg (by omega)]; exact e24
          have hb := r_begin h0 hw hs12 e45
          have hd2 := (h0.1.2.2.2.2.1 2 (by omega)).2.2.2
          have hb1 := (r_begin_gs (v := k) (k := fsA A (slA A s) + p) (a := r + (2 + sR (slA A s))) h0.1 hs12 (by omega) (by omega)).trans hb
          refine rRes_okP (S' := _) ?_ hput (by rw [gI_gsI, if_neg (by omega), gI_gsI, if_neg (by omega), gI_gsI, if_pos ⟨rfl, rfl⟩])
          simp only [f_X5_set_b89, f_X5_set_b88, f_X5_set_b84, f_X5_set_b60, f_X5_set_b50, f_X5_set_b40, f_X5_set_b25, f_X5_set_b24, f_X5_set, h.1.fs, beq_self_eq_true, gck_t, Option.bind_some, b2i_1, e20, e30, e40, e50, if_true, if_false, r_fails h.1.1, fcd, gb2_s, h0.1.fs, e2, e3, b2i_t, b2i_f, r_slot1 S hs12, r_isPlace0 hv, hip, r_isThing, hth, r_hashAt hv0 p1, h0.1.rs.2.1 s hs12, e24, h0.1.ro.1 _ l1, hb, nI_add, h0.1.wb.1 _ _ k l1 (show fsA A (slA A s) + p < 24 by omega), hT1.fs, hT1.rs.2.1 s hs12, e24', hT1.ro.2.1 _ l1, hb1, hT1.wb.2.1 _ _ m l1 (show fsA A (slA A s) + p < 24 by omega)]
end RMut
