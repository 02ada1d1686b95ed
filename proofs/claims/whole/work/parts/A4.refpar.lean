/-! a part more in the reference -/
section RPart
variable {S S' : GS} {r cap hs hs' : Nat} {dq : Nat → Nat} {A B : AS}
abbrev rAd (S : GS) (r : Nat) (dq : Nat → Nat) (np : Nat) (x : Pt) : GS := gsI (gsI (gsI (gsI (gsI S (dq 0) np (nI (pL x))) (dq 1) np (oI (pA x))) (dq 2) np (nI (pF x))) (dq 3) np (nI (pZ x))) r 12 (nI (np + 1))
theorem Rq.addP {x : Pt} (h : Rq r dq cap S hs A) (hlt : npA A < cap) (hx : pG x = false) : Rq r dq cap (rAd S r dq (npA A) x) hs (aAddP A x) ∧ gI (rAd S r dq (npA A) x) r 19 = gI S r 19 := by
  have hdlt := fun i hi => Rq.dlt (i := i) h hi
  have hdne := fun i hi => Rq.dne (i := i) h hi
  obtain ⟨h1, ⟨h2, h21, h22, h23⟩, h3, h4, h5, h6, h7, h8⟩ := h
  have fr : rFr hs (fun a k => (a = r ∧ k = 12) ∨ ((a = dq 0 ∨ a = dq 1 ∨ a = dq 2 ∨ a = dq 3) ∧ k = npA A)) S (rAd S r dq (npA A) x) := by
    refine ((((rFr.one ?_).tr (rFr.one ?_) (Nat.le_refl _)).tr (rFr.one ?_) (Nat.le_refl _)).tr (rFr.one ?_) (Nat.le_refl _)).tr (rFr.one ?_) (Nat.le_refl _)
    · exact Or.inr ⟨Or.inl rfl, rfl⟩
    · exact Or.inr ⟨Or.inr (Or.inl rfl), rfl⟩
    · exact Or.inr ⟨Or.inr (Or.inr (Or.inl rfl)), rfl⟩
    · exact Or.inr ⟨Or.inr (Or.inr (Or.inr rfl)), rfl⟩
    · exact Or.inl ⟨rfl, rfl⟩
  obtain ⟨e0, e0'⟩ := hdne 0 (by omega)
  obtain ⟨e1, e1'⟩ := hdne 1 (by omega)
  obtain ⟨e2, e2'⟩ := hdne 2 (by omega)
  obtain ⟨e3, e3'⟩ := hdne 3 (by omega)
  obtain ⟨e4, e4'⟩ := hdne 4 (by omega)
  have ne : ∀ i j, i < 5 → j < 5 → i ≠ j → dq i ≠ dq j := fun i j hi hj hij e => hij (h1.2.2.2.2.2.1 i j hi hj e)
  have n01 := ne 0 1 (by omega) (by omega) (by omega)
  have n02 := ne 0 2 (by omega) (by omega) (by omega)
  have n03 := ne 0 3 (by omega) (by omega) (by omega)
  have n12 := ne 1 2 (by omega) (by omega) (by omega)
  have n13 := ne 1 3 (by omega) (by omega) (by omega)
  have n23 := ne 2 3 (by omega) (by omega) (by omega)
  have n04 := ne 0 4 (by omega) (by omega) (by omega)
  have n14 := ne 1 4 (by omega) (by omega) (by omega)
  have n24 := ne 2 4 (by omega) (by omega) (by omega)
  have n34 := ne 3 4 (by omega) (by omega) (by omega)
  have v12 : gI (rAd S r dq (npA A) x) r 12 = nI (npA A + 1) := by
    simp only [gI_gsI]
    rw [if_pos (by simp)]
  have v0 : gI (rAd S r dq (npA A) x) (dq 0) (npA A) = nI (pL x) := by
    simp only [gI_gsI]
    rw [if_neg (fun z => e0 z.1), if_neg (fun z => n03 z.1), if_neg (fun z => n02 z.1), if_neg (fun z => n01 z.1), if_pos (by simp)]
  have v1 : gI (rAd S r dq (npA A) x) (dq 1) (npA A) = oI (pA x) := by
    simp only [gI_gsI]
    rw [if_neg (fun z => e1 z.1), if_neg (fun z => n13 z.1), if_neg (fun z => n12 z.1), if_pos (by simp)]
  have v2 : gI (rAd S r dq (npA A) x) (dq 2) (npA A) = nI (pF x) := by
    simp only [gI_gsI]
    rw [if_neg (fun z => e2 z.1), if_neg (fun z => n23 z.1), if_pos (by simp)]
  have v3 : gI (rAd S r dq (npA A) x) (dq 3) (npA A) = nI (pZ x) := by
    simp only [gI_gsI]
    rw [if_neg (fun z => e3 z.1), if_pos (by simp)]
  have hT : ∀ a, gT (rAd S r dq (npA A) x) a = gT S a := fun _ => rfl
  generalize rAd S r dq (npA A) x = S1 at *
  have d4 : ∀ p, gI S1 (dq 4) p = gI S (dq 4) p := fun p => (fr _ (hdlt 4 (by omega))).2.2.2 p (by
    rintro (⟨z, -⟩ | ⟨z | z | z | z, -⟩)
    · exact e4 z
    · exact n04 z.symm
    · exact n14 z.symm
    · exact n24 z.symm
    · exact n34 z.symm)
  have far : ∀ a, r < a → a ≤ r + 30 → ∀ k, a ≠ dq 0 → a ≠ dq 1 → a ≠ dq 2 → a ≠ dq 3 → gI S1 a k = gI S a k := fun a h1 h2 k y0 y1 y2 y3 => (fr a (by omega)).2.2.2 k (by
    rintro (⟨z, -⟩ | ⟨z | z | z | z, -⟩)
    · omega
    · exact y0 z
    · exact y1 z
    · exact y2 z
    · exact y3 z)
  have far2 : ∀ o, (1 ≤ o ∧ o ≤ 17) ∨ (23 ≤ o ∧ o ≤ 30) → ∀ k, gI S1 (r + o) k = gI S (r + o) k := fun o ho k => far _ (by omega) (by omega) k (by omega) (by omega) (by omega) (by omega)
  refine ⟨⟨h1.fr fr h7 h8, ⟨v12, by show npA A + 1 ≤ cap; omega, h22, fun p w1 w2 => by rw [d4]; exact h23 p (by have : npA A + 1 ≤ p := w1; omega) w2⟩, fun j hj => ?_, fun j hj => ?_, fun s hs => ?_, fun p hp => ?_, fun a ha => by rw [hT]; exact h7 a ha, h8⟩, ?_⟩
  · obtain ⟨m1, m2⟩ := h3 j hj
    exact ⟨(far2 7 (by omega) _).trans m1, fun i hi => ⟨(far2 (2 + j) (by omega) _).trans (m2 i hi).1, (far2 (5 + j) (by omega) _).trans (m2 i hi).2⟩⟩
  · obtain ⟨m1, m2⟩ := h4 j hj
    exact ⟨(far2 17 (by omega) _).trans m1, fun i hi => ⟨(far2 (9 + j) (by omega) _).trans (m2 i hi).1, (far2 (12 + j) (by omega) _).trans (m2 i hi).2.1, (far2 (15 + j) (by omega) _).trans (m2 i hi).2.2⟩⟩
  · have := h5 s hs
    unfold rSl at this ⊢
    rw [far2 23 (by omega), far2 24 (by omega), far2 25 (by omega), far2 26 (by omega), far2 27 (by omega), far2 28 (by omega)]
    exact this
  · have hp : p < npA A + 1 := hp
    rw [pt_add]
    by_cases e : p = npA A
    · rw [if_pos e]
      subst e
      exact ⟨v0, v1, v2, v3, by rw [d4, h23 _ (Nat.le_refl _) hlt, hx]; rfl⟩
    · rw [if_neg e]
      have hh : ∀ i, i < 5 → gI S1 (dq i) p = gI S (dq i) p := fun i hi => (fr _ (hdlt i hi)).2.2.2 p (by
        rintro (⟨z, -⟩ | ⟨-, z⟩)
        · exact (hdne i hi).1 z
        · exact e z)
      have := h6 p (by omega)
      unfold rPt at this ⊢
      rw [hh 0 (by omega), hh 1 (by omega), hh 2 (by omega), hh 3 (by omega), hh 4 (by omega)]
      exact this
  · exact (fr r (by omega)).2.2.2 19 (by
      rintro (⟨-, z⟩ | ⟨z | z | z | z, -⟩)
      · exact absurd z (by decide)
      · exact e0 z.symm
      · exact e1 z.symm
      · exact e2 z.symm
      · exact e3 z.symm)
/-- the part's slot -/
theorem r_part120 {s u : Nat} {f' t' : Nat} {T : GS} (h : Rq r dq cap T hs A) (hw : WF A) (hs12 : s < 12) (hu12 : u < 12) (hk : sK (slA A u) = 108 ∨ sK (slA A u) = 112) (hlt : npA A < cap) (hft : f' ≤ t') (ht : t' ≤ (vw A u).length) (h19 : gI T r 19 = 0) :
    rRes [1, 2, 4] r hs A (f_X5_part_b120 r T hs (nI s) (nI u) (nI f') (nI t')) (.inl (nI t' - nI f', aSetS (aAddP A (sR (slA A u), sP (slA A u), fsA A (slA A u) + f', t' - f', false)) s (112, sR (slA A u), some (npA A), 0, 0, true))) := by
  have e45 : kA A u ≠ 45 := by
    show sK (slA A u) ≠ 45
    rcases hk with h | h <;> (rw [h]; decide)
  have h24 := vw_24 hw hu12 e45
  obtain ⟨l1, l2, l3, l4, l5, -⟩ := lst_facts hw hu12 (hk.elim Or.inl (fun h => Or.inr (Or.inl h)))
  have g24 := (hw.1 _ (show sR (slA A u) < 4 by omega)).1
  have hcap := h.1.2.2.2.2.2.2
  have hdne := fun i hi => Rq.dne (i := i) h hi
  obtain ⟨q24, q25⟩ := h.refL hw hu12 hk
  obtain ⟨z1, z2⟩ := h.addP (x := (sR (slA A u), sP (slA A u), fsA A (slA A u) + f', t' - f', false)) hlt rfl
  have h12 := h.2.1.1
  have hl := z1.slot (s := s) (x := (112, sR (slA A u), some (npA A), 0, 0, true)) (S' := rHl (rAd T r dq (npA A) (sR (slA A u), sP (slA A u), fsA A (slA A u) + f', t' - f', false)) r s 112 (nI (sR (slA A u))) (nI (npA A))) (holds_fr (hs := hs)) ⟨holds_at.1, fun _ => ⟨holds_at.2.2.1, fun z => absurd z (by simp [isC, sK]), fun _ => ⟨by
      rw [holds_at.2.1]
      show nI (sR (slA A u)) = nI (rIx _)
      unfold rIx
      show nI (sR (slA A u)) = nI (if sR (slA A u) < 2 then sR (slA A u) else _)
      rw [if_pos l1], holds_at.2.2.2⟩⟩⟩ (Nat.le_refl _) (fun a ha => z1.2.2.2.2.2.2.1 a ha)
  refine ⟨dq, cap, _, hs, ?_, hl, ?_, Nat.le_refl _⟩
  · have esub : nI t' - nI f' = nI (t' - f') := pk_sub hft
    have w : ∀ (X : GS), rHd X r dq cap → (∀ v, gsaI X (some (dq 0)) 11 (nI (npA A)) v = some (gsI X (dq 0) (npA A) v)) ∧ (∀ v, gsaI X (some (dq 1)) 11 (nI (npA A)) v = some (gsI X (dq 1) (npA A) v)) ∧ (∀ v, gsaI X (some (dq 2)) 11 (nI (npA A)) v = some (gsI X (dq 2) (npA A) v)) ∧ (∀ v, gsaI X (some (dq 3)) 11 (nI (npA A)) v = some (gsI X (dq 3) (npA A) v)) := fun X hX => ⟨fun v => hX.ws.2.2.2.2.2.2.2.2.2.2.1 _ v hlt, fun v => hX.ws.2.2.2.2.2.2.2.2.2.2.2.1 _ v hlt, fun v => hX.ws.2.2.2.2.2.2.2.2.2.2.2.2.1 _ v hlt, fun v => hX.ws.2.2.2.2.2.2.2.2.2.2.2.2.2.1 _ v hlt⟩
    have d0 := h.1
    have d1 := d0.gs (dq 0) (npA A) (nI (sR (slA A u)))
    have d2 := d1.gs (dq 1) (npA A) (oI (sP (slA A u)))
    have d3 := d2.gs (dq 2) (npA A) (nI (fsA A (slA A u) + f'))
    have d4 := d3.gs (dq 3) (npA A) (nI (t' - f'))
    have d5 := d4.gs r 12 (nI (npA A + 1))
    obtain ⟨e0, e0'⟩ := hdne 0 (by omega)
    obtain ⟨e1, e1'⟩ := hdne 1 (by omega)
    obtain ⟨e2, e2'⟩ := hdne 2 (by omega)
    obtain ⟨e3, e3'⟩ := hdne 3 (by omega)
    have n02 : dq 0 ≠ dq 2 := fun e => by have := h.1.2.2.2.2.2.1 0 2 (by omega) (by omega) e; omega
    have n12 : dq 1 ≠ dq 2 := fun e => by have := h.1.2.2.2.2.2.1 1 2 (by omega) (by omega) e; omega
    have c1 : gI (gsI T (dq 0) (npA A) (nI (sR (slA A u)))) r 12 = nI (npA A) := by rw [gI_gsI, if_neg (by omega)]; exact h12
    have c2 : gI (gsI (gsI T (dq 0) (npA A) (nI (sR (slA A u)))) (dq 1) (npA A) (oI (sP (slA A u)))) r 12 = nI (npA A) := by rw [gI_gsI, if_neg (by omega)]; exact c1
    have c3 : gI (gsI (gsI (gsI T (dq 0) (npA A) (nI (sR (slA A u)))) (dq 1) (npA A) (oI (sP (slA A u)))) (dq 2) (npA A) (nI (fsA A (slA A u) + f'))) r 12 = nI (npA A) := by rw [gI_gsI, if_neg (by omega)]; exact c2
    have c4 : gI (gsI (gsI (gsI (gsI T (dq 0) (npA A) (nI (sR (slA A u)))) (dq 1) (npA A) (oI (sP (slA A u)))) (dq 2) (npA A) (nI (fsA A (slA A u) + f'))) (dq 3) (npA A) (nI (t' - f'))) r 12 = nI (npA A) := by rw [gI_gsI, if_neg (by omega)]; exact c3
    have r24 := d0.rs.2.1 u hu12
    rw [q24] at r24
    have r25 := d1.rs.2.2.1 u hu12
    have c25 : gI (gsI T (dq 0) (npA A) (nI (sR (slA A u)))) (r + 25) u = oI (sP (slA A u)) := by rw [gI_gsI, if_neg (by omega)]; exact q25
    rw [c25] at r25
    have hb : f_X5_begin (gsI (gsI T (dq 0) (npA A) (nI (sR (slA A u)))) (dq 1) (npA A) (oI (sP (slA A u)))) r (nI u) = some (nI (fsA A (slA A u))) := by
      rw [r_begin_gs d1 hu12 (by omega) n12, r_begin_gs d0 hu12 (by omega) n02]
      exact r_begin h hw hu12 e45
    have r24' := d5.rs.2.1 u hu12
    have c24 : gI (gsI (gsI (gsI (gsI (gsI T (dq 0) (npA A) (nI (sR (slA A u)))) (dq 1) (npA A) (oI (sP (slA A u)))) (dq 2) (npA A) (nI (fsA A (slA A u) + f'))) (dq 3) (npA A) (nI (t' - f'))) r 12 (nI (npA A + 1))) (r + 24) u = nI (sR (slA A u)) := by
      simp only [gI_gsI]
      rw [if_neg (by omega), if_neg (by omega), if_neg (by omega), if_neg (by omega), if_neg (by omega)]
      exact q24
    rw [c24] at r24'
    have c5 : gI (gsI (gsI (gsI (gsI (gsI T (dq 0) (npA A) (nI (sR (slA A u)))) (dq 1) (npA A) (oI (sP (slA A u)))) (dq 2) (npA A) (nI (fsA A (slA A u) + f'))) (dq 3) (npA A) (nI (t' - f'))) r 12 (nI (npA A + 1))) r 12 = nI (npA A + 1) := by rw [gI_gsI, if_pos ⟨rfl, rfl⟩]
    have hgk : gnr .char (112 : Int32) = true := by decide
    have hh := r_holds (x := nI (sR (slA A u))) (p := nI (npA A)) d5 hs12 hgk
    have em : nI (npA A + 1) - 1 = nI (npA A) := nI_pred ..
    simp only [f_X5_part_b120, d0.fs, h12, Option.bind_some, r24, (w _ d0).1, d1.fs, c1, r25, (w _ d1).2.1, d2.fs, c2, beq_self_eq_true, gck_t, hb, nI_add, (w _ d2).2.2.1, d3.fs, c3, esub, (w _ d3).2.2.2, d4.fs, c4, nI_1, d5.fs, r24', c5, em, hh]
    rfl
  · simp only [rHl, gI_gsI]
    rw [if_neg (by omega), if_neg (by omega), if_neg (by omega), if_neg (by omega)]
    have := z2.trans h19
    simp only [rAd, gI_gsI] at this
    exact this
theorem r_part (h : Rq r dq cap S hs A) (hw : WF A) (hp : npA A ≤ 511) (x y f t : Int32) : rRes [1, 2, 4] r hs A (f_X5_part S hs r x y f t) (m_part A x y f t) := by
  have h0 := h.thr 0
  have u19 : gI (gsI S r 19 0) r 19 = 0 := by rw [gI_gsI, if_pos ⟨rfl, rfl⟩]
  unfold m_part
  rcases pn_c x with e | ⟨s, h4, hs12, rfl, e⟩
  · rw [e]
    exact rRes_no (i := 0) (v := 0) h rfl (by simp only [f_X5_part_b93, f_X5_part_b89, f_X5_part_b64, f_X5_part_b54, f_X5_part_b41, f_X5_part_b40, f_X5_part_b19, f_X5_part_b18, f_X5_part, f_X5_part_b94, h.1.fs, beq_self_eq_true, gck_t, Option.bind_some, b2i_1, e20, e30, e40, e50, if_true, if_false, r_fails h.1.1, fcd, gb2_s, r_pane0 S e]; rfl)
  · rw [e]
    simp only [bndO]
    rcases c3 (A := A) y (fun k => k == 108 || k == 112) with e1 | ⟨u, hu12, rfl, e1⟩ | ⟨u, hu12, rfl, e45, e1⟩
    · rw [nd_no e1]
      exact rRes_no (i := 0) (v := 0) h rfl (by simp only [f_X5_part_b93, f_X5_part_b89, f_X5_part_b64, f_X5_part_b54, f_X5_part_b41, f_X5_part_b40, f_X5_part_b19, f_X5_part_b18, f_X5_part, f_X5_part_b94, h.1.fs, beq_self_eq_true, gck_t, Option.bind_some, b2i_1, e20, e30, e40, e50, if_true, if_false, r_fails h.1.1, fcd, gb2_s, r_pane1 S e, r_slot0 S e1]; rfl)
    · rw [nd_bad hu12 e1]
      have e1 : (kA A u == 108 || kA A u == 112) = false := or_bad (q := fun k => k == 108 || k == 112) e1 (by decide)
      have e2 := r_isOf h.1 hu12 (show 0 < 8 by omega)
      rw [h.kd hu12, tx0, e1] at e2
      exact rRes_no (i := 1) (v := 0) h rfl (by simp only [f_X5_part_b93, f_X5_part_b89, f_X5_part_b64, f_X5_part_b54, f_X5_part_b41, f_X5_part_b40, f_X5_part_b19, f_X5_part_b18, f_X5_part, f_X5_part_b94, h.1.fs, beq_self_eq_true, gck_t, Option.bind_some, b2i_1, e20, e30, e40, e50, if_true, if_false, r_fails h.1.1, fcd, gb2_s, r_pane1 S e, r_slot1 S hu12, e2, b2i_f]; rfl)
    · rw [nd_ok hu12 e45 e1]
      have e1 : (kA A u == 108 || kA A u == 112) = true := e1
      have e2 := r_isOf h.1 hu12 (show 0 < 8 by omega)
      rw [h.kd hu12, tx0, e1] at e2
      have hk : sK (slA A u) = 108 ∨ sK (slA A u) = 112 := by
        simp only [Bool.or_eq_true, beq_iff_eq] at e1
        exact e1
      have hv := h.see hw hu12 e45
      have h24 := hv.2.2.1
      by_cases c1 : f < 0
      · rw [if_pos c1]
        exact rRes_no (i := 2) (v := 0) h rfl (by simp only [f_X5_part_b93, f_X5_part_b89, f_X5_part_b64, f_X5_part_b54, f_X5_part_b41, f_X5_part_b40, f_X5_part_b19, f_X5_part_b18, f_X5_part, f_X5_part_b94, h.1.fs, beq_self_eq_true, gck_t, Option.bind_some, b2i_1, e20, e30, e40, e50, if_true, if_false, r_fails h.1.1, fcd, gb2_s, r_pane1 S e, r_slot1 S hu12, e2, b2i_t, c1]; rfl)
      · rw [if_neg c1]
        by_cases c2 : t < f
        · rw [if_pos c2]
          exact rRes_no (i := 2) (v := 0) h rfl (by simp only [f_X5_part_b93, f_X5_part_b89, f_X5_part_b64, f_X5_part_b54, f_X5_part_b41, f_X5_part_b40, f_X5_part_b19, f_X5_part_b18, f_X5_part, f_X5_part_b94, h.1.fs, beq_self_eq_true, gck_t, Option.bind_some, b2i_1, e20, e30, e40, e50, if_true, if_false, r_fails h.1.1, fcd, gb2_s, r_pane1 S e, r_slot1 S hu12, e2, b2i_t, c1, c2]; rfl)
        · rw [if_neg c2]
          by_cases c3 : t ≤ nI (vw A u).length
          · rw [if_pos c3]
            -- the places are numbers
            have n0 : (0 : Int32).toInt = 0 := by decide
            have hti : t.toInt ≤ 24 := by
              rw [Int32.le_iff_toInt_le, nI_toInt (by omega)] at c3; omega
            have hfi : 0 ≤ f.toInt := by
              rw [Int32.lt_iff_toInt_lt, n0] at c1; omega
            have hft : f.toInt ≤ t.toInt := by
              rw [Int32.lt_iff_toInt_lt] at c2; omega
            have nm : ∀ z : Int32, 0 ≤ z.toInt → z.toInt ≤ 24 → ∃ i, i < 25 ∧ z = nI i ∧ z.toNatClampNeg = i := fun z z1 z2 => by
              rcases inP_c z (n := 25) (by omega) with ⟨-, q | ⟨-, q⟩⟩ | ⟨i, i1, i2, i3, i4⟩
              · rw [Int32.lt_iff_toInt_lt, n0] at q; omega
              · rw [Int32.lt_iff_toInt_lt] at q
                have : (nI 25).toInt = 25 := by decide
                omega
              · exact ⟨i, i1, i2, i4⟩
            obtain ⟨f', ef1, rfl, ef2⟩ := nm f hfi (by omega)
            obtain ⟨t', et1, rfl, et2⟩ := nm t (by omega) hti
            rw [ef2, et2]
            rw [nI_toInt (by omega), nI_toInt (by omega)] at hft
            have c3' := (nI_leI (show t' < 2 ^ 31 by omega) (show (vw A u).length < 2 ^ 31 by omega)).mp c3
            have hf31 : f' ≤ t' ∧ t' ≤ (vw A u).length := ⟨by omega, c3'⟩
            have hgo : f_X5_part S hs r (nI s) (nI u) (nI f') (nI t') = f_X5_part_b94 S hs r (nI s) (nI u) (nI f') (nI t') (some r) 0 0 0 := by
              simp only [f_X5_part_b93, f_X5_part_b89, f_X5_part_b64, f_X5_part_b54, f_X5_part_b41, f_X5_part_b40, f_X5_part_b19, f_X5_part_b18, f_X5_part, h.1.fs, beq_self_eq_true, gck_t, Option.bind_some, b2i_1, e20, e30, e40, e50, if_true, if_false, r_fails h.1.1, fcd, gb2_s, r_pane1 S e, r_slot1 S hu12, e2, b2i_t, c1, c2, hv.2.1, c3]
            rw [hgo]
            have hcap := h0.1.2.2.2.2.2.2
            have hlen : gal (gsI S r 19 0) (some (dq 0)) 11 = some (nI cap) := by
              rw [gal_at (t := 11) ((h0.1.2.2.2.2.1 0 (by omega)).2.1.trans (if_neg (by omega))), (h0.1.2.2.2.2.1 0 (by omega)).2.2.1]
            have hlt := h0.2.1.2.1
            have eeq : (nI (npA A) = nI cap) = (npA A = cap) := n_eq (by omega) (by omega)
            by_cases cg : npA A = cap
            · obtain ⟨S1, g1, g2, g3⟩ := r_grows h0 (by omega) (by have := h0.2.1.2.2.1; omega)
              obtain ⟨dq2, cap2, S3, hs3, y1, y2, y3, y4⟩ := r_part120 (s := s) (u := u) (f' := f') (t' := t') g2 hw hs12 hu12 hk (by have := h0.2.1.2.2.1; omega) hf31.1 hf31.2 ((g3 19).trans u19)
              refine ⟨dq2, cap2, S3, hs3, ?_, y2, y3, by omega⟩
              have h12 := h0.2.1.1
              rw [cg] at h12
              simp only [f_X5_part_b94, h.1.fs, beq_self_eq_true, gck_t, Option.bind_some, b2i_1, e20, e30, e40, e50, if_true, if_false, r_fails h.1.1, fcd, gb2_s, h0.1.fs, h12, hlen, g1, y1]
            · obtain ⟨dq2, cap2, S3, hs3, y1, y2, y3, y4⟩ := r_part120 (s := s) (u := u) (f' := f') (t' := t') h0 hw hs12 hu12 hk (by omega) hf31.1 hf31.2 u19
              refine ⟨dq2, cap2, S3, hs3, ?_, y2, y3, y4⟩
              simp only [f_X5_part_b94, h.1.fs, beq_self_eq_true, gck_t, Option.bind_some, b2i_1, e20, e30, e40, e50, if_true, if_false, r_fails h.1.1, fcd, gb2_s, h0.1.fs, h0.2.1.1, hlen, eeq, cg, y1]
          · rw [if_neg c3]
            exact rRes_no (i := 2) (v := 0) h rfl (by simp only [f_X5_part_b93, f_X5_part_b89, f_X5_part_b64, f_X5_part_b54, f_X5_part_b41, f_X5_part_b40, f_X5_part_b19, f_X5_part_b18, f_X5_part, f_X5_part_b94, h.1.fs, beq_self_eq_true, gck_t, Option.bind_some, b2i_1, e20, e30, e40, e50, if_true, if_false, r_fails h.1.1, fcd, gb2_s, r_pane1 S e, r_slot1 S hu12, e2, b2i_t, c1, c2, hv.2.1, c3]; rfl)
end RPart
