/-! every house is sound -/
section CSnd
variable {b k hs s a : Nat} {pa ch : Nat → Nat} {S : GS} {A : AS}
theorem cck.rf (h : Rcp b k pa ch S hs A) : ∃ L, cck b S S L := by
  obtain ⟨L, hL⟩ := h.2.2.1.2
  exact ⟨L, cFr.rf, hL⟩
theorem cck.tr {T U : GS} {L M : List Tr} (h : cck b S T L) (g : cck b T U M) : cck b S U M := ⟨h.1.tr g.1, g.2⟩
theorem c_paneSound (h : Rcp b k pa ch S hs A) (hw : WF A) (h5 : has A S b s a) : ∃ T L, f_X0_isPaneSound S (b + 27) (some a) = some (1, T) ∧ cck b S T L := by
  have hv := h5.view
  obtain ⟨k1, -⟩ := h.1.2.2.2.1
  cases hk : kLs (kA A s)
  · obtain ⟨L, hL⟩ := cck.rf h
    refine ⟨S, L, ?_, hL⟩
    simp only [f_X0_isPaneSound, gtk_at hv.1, Option.bind_some, f_isList hv.1 hv.2.1, hk, b2i_f, if_true, k1, beq_self_eq_true, gck_t, c_numsSound (b + 27) h hw h5 hk, gnb1]
  · obtain ⟨T1, L1, a1, f1⟩ := c_sortSound h hw h5 107
    have h1 := f1.rcp h
    obtain ⟨T2, L2, a2, f2⟩ := c_sortSound h1 hw (f1.has h hw h5) 75
    have g2 := f1.tr f2
    have h2 := g2.rcp h
    obtain ⟨T3, L3, a3, f3⟩ := c_sortSound h2 hw (g2.has h hw h5) 109
    have g3 := g2.tr f3
    have h3 := g3.rcp h
    obtain ⟨T4, L4, a4, f4⟩ := c_sortSound h3 hw (g3.has h hw h5) 77
    have g4 := g3.tr f4
    have h4 := g4.rcp h
    obtain ⟨T5, L5, a5, f5⟩ := c_turnSound h4 hw (g4.has h hw h5)
    have g5 := g4.tr f5
    have h5' := g5.rcp h
    obtain ⟨T6, L6, a6, f6⟩ := c_rotateSound h5' hw (g5.has h hw h5)
    have g6 := g5.tr f6
    have h6 := g6.rcp h
    obtain ⟨T7, L7, a7, f7⟩ := c_searchSound h6 hw (g6.has h hw h5)
    have g7 := g6.tr f7
    refine ⟨T7, L7, ?_, g7⟩
    simp only [f_X0_isPaneSound, gtk_at hv.1, Option.bind_some, f_isList hv.1 hv.2.1, hk, b2i_t, e1z, if_false, k1, beq_self_eq_true, gck_t, a1, gb2_s, (f1.hd h).1, a2, (g2.hd h).1, a3, (g3.hd h).1, a4, (g4.hd h).1, a5, (g5.hd h).1, a6, (g6.hd h).1, a7]
theorem c_pairsL {T : GS} {L : List Tr} {i : Nat} {v4 : Option Nat} {k2 : GS → Int32 → Option (Int32 × GS)} (h : Rcp b k pa ch S hs A) (hw : WF A) (f : cck b S T L) (hi : i < 12) (hv4 : v4 = gR S (b + 1) i) : f_X4_isSound_L46 k2 b gN T (nI i) v4 0 = k2 T (nI (i + 1)) := by
  have hT := f.rcp h
  obtain ⟨⟨p1, p2, p3, p4, p5⟩, ⟨p6, p7⟩, -⟩ := id hT.1
  have aj : ∀ j, j < 12 → gaR T (some (b + 1)) 14 (nI j) = some (gR T (b + 1) j) := fun j hj => aR p6 (by rw [p7]; omega) (by rw [p7]; omega)
  obtain ⟨-, -, n, u2⟩ := lpG0 (F := fun n (_ : Unit) q => f_X4_isSound_L46 k2 b n T (nI i) v4 q) (fun q c => True) i (fun n c q hq hI => by
    have q0 : (i ≤ q) = False := eq_false (by omega)
    refine ⟨(), trivial, ?_⟩
    show f_X4_isSound_L46 k2 b (n + 1) T (nI i) v4 (nI q) = _
    rcases c_slot h hw hi with ⟨-, e⟩ | ⟨e1, a, h5, e2⟩
    · rw [e] at hv4
      subst hv4
      simp (disch := omega) only [f_X4_isSound_L46, f_X4_isSound_b83, nI_leI, q0, if_false, if_true, nI_1]
    · rw [e2] at hv4
      subst hv4
      rcases c_slot hT hw (show q < 12 by omega) with ⟨-, e⟩ | ⟨e3, a', h6, e4⟩
      · simp (disch := omega) only [f_X4_isSound_L46, f_X4_isSound_b83, nI_leI, q0, if_false, reduceCtorEq, gfR_at p1, p2, Option.bind_some, aj q (by omega), e, if_true, nI_1]
      · have hp := c_pairSound (c0 := b + 27) (f.hd h).1 hT hw (f.has h hw h5) h6
        simp (disch := omega) only [f_X4_isSound_L46, f_X4_isSound_b83, nI_leI, q0, if_false, reduceCtorEq, gfR_at p1, p2, p5, Option.bind_some, aj q (by omega), e4, gtk_at (f.hd h).1, hp, e1z, nI_1]) (by omega) () trivial
  rw [u2]
  simp only [f_X4_isSound_L46, Int32.le_refl, if_true, nI_1]
theorem c_isSound (h : Rc b k S hs A) : ∃ S', f_X4_isSound S b = some (1, S') ∧ Rc b k S' hs A := by
  obtain ⟨hw, hn, pa, ch, hr⟩ := h
  obtain ⟨T, ⟨L, u1⟩, n, u2⟩ := lpG0 (F := fun n T i => f_X4_isSound_L2 b n T i) (fun i T => ∃ L, cck b S T L) 12 (fun n T i hi hI => by
    obtain ⟨L, f⟩ := hI
    have hT := f.rcp hr
    obtain ⟨⟨p1, p2, p3, p4, p5⟩, ⟨p6, p7⟩, -⟩ := id hT.1
    have ai : gaR T (some (b + 1)) 14 (nI i) = some (gR T (b + 1) i) := aR p6 (by rw [p7]; exact hi) (by rw [p7]; decide)
    have q : ((12 : Int32) ≤ nI i) = False := by rw [n_12, n_le (by omega) (by omega)]; exact eq_false (by omega)
    rcases c_slot hT hw hi with ⟨-, e⟩ | ⟨e1, a, h5, e2⟩
    · refine ⟨T, ⟨L, f⟩, ?_⟩
      simp only [f_X4_isSound_L2, f_X4_isSound_b44, q, if_false, gfR_at p1, p2, Option.bind_some, ai, e, if_true]
      exact c_pairsL hr hw f hi (e ▸ f.1.1 (b + 1) i)
    · obtain ⟨U, M, a1, f1⟩ := c_paneSound hT hw h5
      have g1 := f.tr f1
      have hU := g1.rcp hr
      have h5U := f1.has hT hw h5
      have hb := c_bottom hU hw h5U
      have hl := c_looks hU hw h5U
      refine ⟨U, ⟨M, g1⟩, ?_⟩
      simp only [f_X4_isSound_L2, f_X4_isSound_b44, q, if_false, gfR_at p1, p2, p5, Option.bind_some, ai, e2, reduceCtorEq, gtk_at (f.hd hr).1, a1, gb2_s, e1z, hU.1.1.1, beq_self_eq_true, gck_t, hb, gtk_at h5U.view.1, hl]
      exact c_pairsL hr hw g1 hi (e2 ▸ f.1.1 (b + 1) i)) (by omega) S (cck.rf hr)
  refine ⟨T, ?_, hw, hn, pa, ch, u1.rcp hr⟩
  have q : ((12 : Int32) ≤ nI 12) = True := by decide
  unfold f_X4_isSound
  rw [u2]
  simp only [f_X4_isSound_L2, q, if_true]
end CSnd
