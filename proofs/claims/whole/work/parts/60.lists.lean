/-! more of the class's changes -/
theorem c_done0 {A : AS} {S S1 : GS} {b s a k hs : Nat} {pa ch : Nat → Nat} {V : List Tr} (hw : WF A) (h5 : has A S b s a) (hk : sK (slA A s) = 108 ∨ sK (slA A s) = 112) (hk6 : k < 600) (hn : npA A ≤ k)
    (h1 : Rcp b k pa ch S1 hs (rowC A s V)) (fR : ∀ x i, gR S1 x i = gR S x i) (hV : ∀ t ∈ V, inB t) (hl : V.length = (vw A s).length) : Rc b (k + 1) S1 hs (chgA A s V) ∧ cVw S1 a (kA A s) V := by
  obtain ⟨l1, -⟩ := lst_facts hw h5.1 (by rcases hk with h | h; exact Or.inl h; exact Or.inr (Or.inl h))
  have hwf := WF_chg (V := V) hw h5.1 hk hV (by have := (hw.1 (sR (slA A s)) (by omega)).1; obtain ⟨-, -, -, l4, -⟩ := lst_facts hw h5.1 (by rcases hk with h | h; exact Or.inl h; exact Or.inr (Or.inl h)); omega)
  have e0 : chgA A s V = rowC A s V := by unfold chgA chgP; rw [if_pos hl.symm]
  obtain ⟨e1, e2⟩ := vw_chg (V := V) hw h5.1 hk
  have h1' : Rcp b (k + 1) pa ch S1 hs (chgA A s V) := by rw [e0]; exact h1.mono (by omega) (by omega)
  refine ⟨⟨hwf, ?_, pa, ch, h1'⟩, ?_⟩
  · have : npA (chgA A s V) = npA A := by rw [e0]; rfl
    omega
  · obtain ⟨a', p1, p2, -⟩ := h1'.pane hwf h5.1 (by rw [e1]; exact h5.2.1)
    rw [fR, h5.2.2.1] at p1
    cases p1
    have hv := p2.view
    rw [e1] at hv
    have e3 : vwA (chgA A s V) (slA A s) = V := by
      have := e2
      unfold vw at this
      rw [e1] at this
      exact this
    rw [e3] at hv
    exact hv
theorem mem_set {V : List Tr} {x t : Tr} {i : Nat} (h : t ∈ V.set i x) : t = x ∨ t ∈ V := (List.mem_or_eq_of_mem_set h).symm
theorem thOk_t {A : AS} {t : Tr} (n : Int32) (h : inB t) : inB (n, t.2.1, t.2.2) := h
section CMut2
variable {b k hs : Nat} {S : GS} {A : AS}
theorem c_set (h : Rc b k S hs A) (hk : k < 600) (x1 x2 x3 x4 : Int32) : cRes b k hs (f_X4_set S b x1 x2 x3 x4) (m_set A x1 x2 x3 x4) := by
  unfold f_X4_set m_set
  rcases c_lst (x := x1) h hk (K := fun v3 v7 => gth (f_X4_needPlace S v3 x2) fun _ => gth (f_X4_needThing S x3 x4) fun _ => (gtk S v3 2).bind fun a18 => (f_X1_hashOf S a18 x2).bind fun v22 => (gtk S v3 2).bind fun a23 => (f_X1_first S a23).bind fun v27 => (gtk S v7 4).bind fun a28 => (f_X3_lay S a28 (v27 + x2) x3 x4).bind fun S32 => some (.inl (v22, S32))) with ⟨e, e1, e2⟩ | ⟨s, e1, e2, e3⟩ | ⟨s, a, pa, ch, e1, e2, hr, e5, hk2, l1, l2, hst, hf, l4, l5, h24, e3⟩
  · rw [e1, e2]; rfl
  · rw [e1, e3, e2]; rfl
  · obtain ⟨hw, hn, -⟩ := h
    have hv := e5.view
    rw [e1, e3, e2]
    simp only [Bool.true_eq_false, if_false]
    rw [c_needPlace hv]
    rcases inP_c x2 (n := (vw A s).length) (by omega) with ⟨e, -⟩ | ⟨i, i1, rfl, e, i2⟩
    · rw [e]; rfl
    · rw [e, c_needThing, i2]
      simp only [if_true, gth_l, Bool.true_eq_false, if_false]
      cases ht : thOk x3 x4
      · rfl
      · simp only [if_true, gth_l, Bool.true_eq_false, if_false, gtk_at hv.1, Option.bind_some, f_hashOf hv i1, hf, gtk_at hst.1.1, nI_add]
        obtain ⟨S1, q1, q2, q3⟩ := f_lay (i := fsA A (slA A s) + i) (k := x3) (m := x4) hst (by omega)
        have eg : (rwA A (sR (slA A s))).getD (fsA A (slA A s) + i) tz = (vw A s).getD i tz := by rw [l5, gd_viw i1]
        rw [eg, set_spl l4 i1, ← l5] at q2
        obtain ⟨y1, y2⟩ := c_done0 hw e5 hk2 hk hn (hr.row (by omega) q3 q2) q3.1 (fun t ht' => by
          rcases mem_set ht' with rfl | h9
          · exact thOk_in ht
          · exact inB_row hw e5.1 hk2 h9) (by rw [List.length_set])
        rw [q1]
        exact ⟨S1, rfl, y1⟩
theorem c_take (h : Rc b k S hs A) (hk : k < 600) (x1 x2 : Int32) : cRes b k hs (f_X4_take S b x1 x2) (m_take A x1 x2) := by
  unfold f_X4_take m_take
  rcases c_lst (x := x1) h hk (K := fun v3 v7 => gth (f_X4_needPlace S v3 x2) fun _ => (gtk S v3 2).bind fun a14 => (f_X1_hashOf S a14 x2).bind fun v18 => (gtk S v3 2).bind fun a19 => (f_X1_first S a19).bind fun v23 => (gtk S v7 4).bind fun a24 => (f_X3_remove S a24 (v23 + x2)).bind fun S28 => gck (gT S28 b == 5) ((f_X4_settle S28 b v3 (-1)).bind fun S31 => some (.inl (v18, S31)))) with ⟨e, e1, e2⟩ | ⟨s, e1, e2, e3⟩ | ⟨s, a, pa, ch, e1, e2, hr, e5, hk2, l1, l2, hst, hf, l4, l5, h24, e3⟩
  · rw [e1, e2]; rfl
  · rw [e1, e3, e2]; rfl
  · obtain ⟨hw, hn, -⟩ := h
    have hv := e5.view
    rw [e1, e3, e2]
    simp only [Bool.true_eq_false, if_false]
    rw [c_needPlace hv]
    rcases inP_c x2 (n := (vw A s).length) (by omega) with ⟨e, -⟩ | ⟨i, i1, rfl, e, i2⟩
    · rw [e]; rfl
    · rw [e, i2]
      simp only [if_true, gth_l, Bool.true_eq_false, if_false, gtk_at hv.1, Option.bind_some, f_hashOf hv i1, hf, gtk_at hst.1.1, nI_add]
      obtain ⟨S1, q1, q2, q3⟩ := f_remove (p := fsA A (slA A s) + i) hst (by omega)
      rw [era_spl l4 i1, ← l5] at q2
      have hlen := len_era (V := vw A s) (i := i) i1
      obtain ⟨S2, ch2, y1, y2, y3, y4, y5⟩ := c_done (x2 := -1) hr hw e5 hk2 hk hn (hr.row (by omega) q3 q2) q3.1 q3.2.1 (fun t ht' => inB_row hw e5.1 hk2 (List.mem_of_mem_eraseIdx ht')) (by omega) ⟨fun z => absurd z (by decide), fun z => by omega⟩ (fun n h8 h9 => by rw [hlen]; exact nI_sm (by omega) h8)
      rw [q1]
      simp only [Option.bind_some, show gT S1 b = 5 from (q3.2.1 b).trans hr.1.1.1, beq_self_eq_true, gck_t, y1]
      exact ⟨S2, rfl, y3, by rw [np_chg]; omega, pa, ch2, y2⟩
theorem c_turn (h : Rc b k S hs A) (hk : k < 600) (x1 : Int32) : cRes b k hs (f_X4_turn S b x1) (m_turn A x1) := by
  unfold f_X4_turn m_turn
  rcases c_lst (x := x1) h hk (K := fun v3 v7 => (gtk S v3 2).bind fun a10 => (f_X1_first S a10).bind fun v14 => (gtk S v3 2).bind fun a15 => (f_X1_count S a15).bind fun v19 => (gtk S v7 4).bind fun a20 => (f_X3_reverse S a20 v14 v19).bind fun S24 => (gtk S24 v3 2).bind fun a25 => (f_X1_count S24 a25).bind fun v29 => some (.inl (v29, S24))) with ⟨e, e1, e2⟩ | ⟨s, e1, e2, e3⟩ | ⟨s, a, pa, ch, e1, e2, hr, e5, hk2, l1, l2, hst, hf, l4, l5, h24, e3⟩
  · rw [e1, e2]; rfl
  · rw [e1, e3, e2]; rfl
  · obtain ⟨hw, hn, -⟩ := h
    have hv := e5.view
    rw [e1, e3, e2]
    simp only [Bool.true_eq_false, if_false]
    simp only [gtk_at hv.1, Option.bind_some, hf, hv.2.2.2.1, gtk_at hst.1.1]
    obtain ⟨S1, q1, q2, q3⟩ := f_rev (f := fsA A (slA A s)) (z := (vw A s).length) hst l4
    rw [rvS_spl l4, ← l5] at q2
    obtain ⟨y1, y2⟩ := c_done0 hw e5 hk2 hk hn (hr.row (by omega) q3 q2) q3.1 (fun t ht' => inB_row hw e5.1 hk2 (List.mem_reverse.mp ht')) (by rw [List.length_reverse])
    rw [q1]
    simp only [Option.bind_some, gtk_at y2.1, y2.2.2.2.1, List.length_reverse]
    exact ⟨S1, rfl, y1⟩
theorem mem_swp {V : List Tr} {t : Tr} {i j : Nat} (hi : i < V.length) (hj : j < V.length) (h : t ∈ swp V i j) : t ∈ V := by
  unfold swp at h
  rcases mem_set h with rfl | h
  · exact gd_mem hi
  · rcases mem_set h with rfl | h
    · exact gd_mem hj
    · exact h
theorem swp_spl {L : List Tr} {f z i j : Nat} (h : f + z ≤ L.length) (hi : i < z) (hj : j < z) : swp L (f + i) (f + j) = spl L f z (swp (viw L f z) i j) := by
  have hV := viw_len h
  unfold swp
  rw [set_spl h hi]
  have l1 : ((viw L f z).set i (L.getD (f + j) tz)).length = z := by rw [List.length_set]; exact hV
  have l2 := spl_len (M := (viw L f z).set i (L.getD (f + j) tz)) h
  have e := set_spl (L := spl L f z ((viw L f z).set i (L.getD (f + j) tz))) (f := f) (z := z) (i := j) (x := L.getD (f + i) tz) (by omega) hj
  rw [e]
  have e2 : viw (spl L f z ((viw L f z).set i (L.getD (f + j) tz))) f z = (viw L f z).set i (L.getD (f + j) tz) := by
    have := spl_viw (L := L) (M := (viw L f z).set i (L.getD (f + j) tz)) h
    rw [l1] at this
    exact this
  have e3 := spl_spl (L := L) (M := (viw L f z).set i (L.getD (f + j) tz)) (N := ((viw L f z).set i (L.getD (f + j) tz)).set j (L.getD (f + i) tz)) h
  rw [l1] at e3
  rw [e2, e3, gd_viw hi, gd_viw hj]
theorem c_swap (h : Rc b k S hs A) (hk : k < 600) (x1 x2 x3 : Int32) : cRes b k hs (f_X4_swap S b x1 x2 x3) (m_swap A x1 x2 x3) := by
  unfold f_X4_swap m_swap
  rcases c_lst (x := x1) h hk (K := fun v3 v7 => gth (f_X4_needPlace S v3 x2) fun _ => gth (f_X4_needPlace S v3 x3) fun _ => (gtk S v3 2).bind fun a18 => (f_X1_first S a18).bind fun v22 => (gtk S v3 2).bind fun a23 => (f_X1_first S a23).bind fun v27 => (gtk S v7 4).bind fun a28 => (f_X3_exchange S a28 (v22 + x2) (v27 + x3)).bind fun S32 => (gtk S32 v3 2).bind fun a33 => (f_X1_count S32 a33).bind fun v37 => some (.inl (v37, S32))) with ⟨e, e1, e2⟩ | ⟨s, e1, e2, e3⟩ | ⟨s, a, pa, ch, e1, e2, hr, e5, hk2, l1, l2, hst, hf, l4, l5, h24, e3⟩
  · rw [e1, e2]; rfl
  · rw [e1, e3, e2]; rfl
  · obtain ⟨hw, hn, -⟩ := h
    have hv := e5.view
    rw [e1, e3, e2]
    simp only [Bool.true_eq_false, if_false]
    rw [c_needPlace hv, c_needPlace hv]
    rcases inP_c x2 (n := (vw A s).length) (by omega) with ⟨e, -⟩ | ⟨i, i1, rfl, e, i2⟩
    · rw [e]; rfl
    · rw [e, i2]
      simp only [if_true, gth_l, Bool.true_eq_false, if_false]
      rcases inP_c x3 (n := (vw A s).length) (by omega) with ⟨e', -⟩ | ⟨j, j1, rfl, e', j2⟩
      · rw [e']; rfl
      · rw [e', j2]
        simp only [if_true, gth_l, Bool.true_eq_false, if_false, gtk_at hv.1, Option.bind_some, hf, gtk_at hst.1.1, nI_add]
        obtain ⟨q1, q2⟩ := f_exch (i := fsA A (slA A s) + i) (j := fsA A (slA A s) + j) hst (by omega) (by omega)
        have q3 := xc_fr (S := S) (st := stB b (sR (slA A s))) (i := fsA A (slA A s) + i) (j := fsA A (slA A s) + j)
        rw [swp_spl l4 i1 j1, ← l5] at q2
        obtain ⟨y1, y2⟩ := c_done0 hw e5 hk2 hk hn (hr.row (by omega) q3 q2) q3.1 (fun t ht' => inB_row hw e5.1 hk2 (mem_swp i1 j1 ht')) swp_len
        rw [q1]
        simp only [Option.bind_some, gtk_at y2.1, y2.2.2.2.1, swp_len]
        exact ⟨_, rfl, y1⟩
theorem c_rotate (h : Rc b k S hs A) (hk : k < 600) (x1 x2 : Int32) : cRes b k hs (f_X4_rotate S b x1 x2) (m_rotate A x1 x2) := by
  unfold f_X4_rotate m_rotate
  rcases c_lst (x := x1) h hk (K := fun v3 v7 => (if x2 < (-100) then some (.inr 4) else (if x2 ≤ 100 then (gtk S v3 2).bind fun a12 => (f_X1_first S a12).bind fun v16 => (gtk S v3 2).bind fun a17 => (f_X1_count S a17).bind fun v21 => (gtk S v7 4).bind fun a22 => (f_X3_moveRound S a22 v16 v21 x2).bind fun S26 => (gtk S26 v3 2).bind fun a27 => (f_X1_count S26 a27).bind fun v31 => some (.inl (v31, S26)) else some (.inr 4)))) with ⟨e, e1, e2⟩ | ⟨s, e1, e2, e3⟩ | ⟨s, a, pa, ch, e1, e2, hr, e5, hk2, l1, l2, hst, hf, l4, l5, h24, e3⟩
  · rw [e1, e2]; rfl
  · rw [e1, e3, e2]; rfl
  · obtain ⟨hw, hn, -⟩ := h
    have hv := e5.view
    rw [e1, e3, e2]
    simp only [Bool.true_eq_false, if_false]
    by_cases r1 : x2 < -100
    · rw [if_pos r1, if_pos r1]; rfl
    · rw [if_neg r1, if_neg r1]
      by_cases r2 : x2 ≤ 100
      · rw [if_pos r2, if_pos r2]
        simp only [gtk_at hv.1, Option.bind_some, hf, hv.2.2.2.1, gtk_at hst.1.1]
        obtain ⟨S1, q1, q2, q3⟩ := f_round (f := fsA A (slA A s)) (z := (vw A s).length) (x := x2) hst l4 r1 (Int32.not_lt.mpr r2)
        rw [← l5] at q2
        have hlen : (roL (vw A s) (rot x2 (vw A s).length)).length = (vw A s).length := by
          by_cases z : (vw A s).length = 0
          · rw [List.length_eq_zero_iff.mp z]; simp [roL]
          · exact roL_len (Nat.le_of_lt (rot_lt (by omega)))
        obtain ⟨y1, y2⟩ := c_done0 hw e5 hk2 hk hn (hr.row (by omega) q3 q2) q3.1 (fun t ht' => inB_row hw e5.1 hk2 (by
          unfold roL at ht'
          rcases List.mem_append.mp ht' with h | h
          · exact List.mem_of_mem_drop h
          · exact List.mem_of_mem_take h)) hlen
        rw [q1]
        simp only [Option.bind_some, gtk_at y2.1, y2.2.2.2.1, hlen]
        exact ⟨S1, rfl, y1⟩
      · rw [if_neg r2, if_neg r2]; rfl
end CMut2
