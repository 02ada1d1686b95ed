theorem snk_base {rk : Tr → Int32} {f : Nat} {L : List Tr} : snk rk f f L = L := by
  cases f with
  | zero => rfl
  | succ f => rw [snk, if_neg (by omega)]
theorem snk_spl {rk : Tr → Int32} {f z : Nat} : ∀ (j : Nat) (L : List Tr), f + z ≤ L.length → j < z → snk rk f (f + j) L = spl L f z (snk rk 0 j (viw L f z)) := by
  intro j
  induction j with
  | zero =>
    intro L h hj
    show snk rk f f L = spl L f z (viw L f z)
    rw [snk_base]
    exact (tl_ext (by rw [spl_len h, viw_len h]; omega) fun k hk => by
      rw [gd_spl h, viw_len h]
      by_cases a : k < f
      · rw [if_pos a]
      · rw [if_neg a]
        by_cases b : k < f + z
        · rw [if_pos b, gd_viw (by omega)]; exact congrArg (fun q => L.getD q tz) (by omega)
        · rw [if_neg b]; exact congrArg (fun q => L.getD q tz) (by omega))
  | succ j ih =>
    intro L h hj
    have hV := viw_len h
    have e1 : L.getD (f + j + 1) tz = (viw L f z).getD (j + 1) tz := by rw [gd_viw hj]; rfl
    have e2 : L.getD (f + j) tz = (viw L f z).getD j tz := by rw [gd_viw (by omega)]
    show snk rk f (f + j + 1) L = _
    rw [snk, snk, e1, e2]
    by_cases c : rk ((viw L f z).getD (j + 1) tz) < rk ((viw L f z).getD j tz)
    · rw [if_pos ⟨by omega, c⟩, if_pos ⟨by omega, c⟩]
      have l1 : (swp (viw L f z) j (j + 1)).length = z := by rw [swp_len]; exact hV
      have e3 : swp L (f + j) (f + j + 1) = spl L f z (swp (viw L f z) j (j + 1)) := swp_spl (j := j + 1) h (by omega) hj
      rw [e3, ih _ (by rw [spl_len h, l1]; omega) (by omega)]
      have e4 := spl_viw (L := L) (M := swp (viw L f z) j (j + 1)) h
      rw [l1] at e4
      have e5 := spl_spl (L := L) (M := swp (viw L f z) j (j + 1)) (N := snk rk 0 j (swp (viw L f z) j (j + 1))) h
      rw [l1] at e5
      rw [e4, e5]
    · rw [if_neg (fun q => c q.2), if_neg (fun q => c q.2)]
      exact (snk_base (rk := rk) (f := f) (L := L)).symm.trans (by
        have := ih
        clear this
        exact (tl_ext (by rw [snk_base, spl_len h, hV]; omega) fun k hk => by
          rw [snk_base, gd_spl h, hV]
          by_cases a : k < f
          · rw [if_pos a]
          · rw [if_neg a]
            by_cases b : k < f + z
            · rw [if_pos b, gd_viw (by omega)]; exact congrArg (fun q => L.getD q tz) (by omega)
            · rw [if_neg b]; exact congrArg (fun q => L.getD q tz) (by omega)))
theorem ord_spl {rk : Tr → Int32} {f z : Nat} : ∀ (d i : Nat) (L : List Tr), f + z ≤ L.length → i + d ≤ z → ord rk f d (f + i) L = spl L f z (ord rk 0 d i (viw L f z)) := by
  intro d
  induction d with
  | zero =>
    intro i L h hi
    have := snk_spl (rk := rk) (f := f) (z := z)
    show L = spl L f z (viw L f z)
    exact (tl_ext (by rw [spl_len h, viw_len h]; omega) fun k hk => by
      rw [gd_spl h, viw_len h]
      by_cases a : k < f
      · rw [if_pos a]
      · rw [if_neg a]
        by_cases b : k < f + z
        · rw [if_pos b, gd_viw (by omega)]; exact congrArg (fun q => L.getD q tz) (by omega)
        · rw [if_neg b]; exact congrArg (fun q => L.getD q tz) (by omega))
  | succ d ih =>
    intro i L h hi
    have l1 : (snk rk 0 i (viw L f z)).length = z := by rw [snk_len]; exact viw_len h
    show ord rk f d (f + (i + 1)) (snk rk f (f + i) L) = spl L f z (ord rk 0 d (i + 1) (snk rk 0 i (viw L f z)))
    rw [snk_spl i L h (by omega), ih (i + 1) _ (by rw [spl_len h, l1]; omega) (by omega)]
    have e4 := spl_viw (L := L) (M := snk rk 0 i (viw L f z)) h
    rw [l1] at e4
    have e5 := spl_spl (L := L) (M := snk rk 0 i (viw L f z)) (N := ord rk 0 d (i + 1) (snk rk 0 i (viw L f z))) h
    rw [l1] at e5
    rw [e4, e5]
theorem snk_mem {rk : Tr → Int32} {t : Tr} {f : Nat} : ∀ (j : Nat) (L : List Tr), j < L.length → t ∈ snk rk f j L → t ∈ L := by
  intro j
  induction j with
  | zero => intro L _ h; exact h
  | succ j ih =>
    intro L hj h
    rw [snk] at h
    by_cases c : f < j + 1 ∧ rk (L.getD (j + 1) tz) < rk (L.getD j tz)
    · rw [if_pos c] at h
      exact mem_swp (by omega) hj (ih _ (by rw [swp_len]; omega) h)
    · rw [if_neg c] at h; exact h
theorem ord_mem {rk : Tr → Int32} {t : Tr} {f : Nat} : ∀ (d i : Nat) (L : List Tr), i + d ≤ L.length → t ∈ ord rk f d i L → t ∈ L := by
  intro d
  induction d with
  | zero => intro i L _ h; exact h
  | succ d ih =>
    intro i L hi h
    rw [ord] at h
    exact snk_mem i L (by omega) (ih (i + 1) _ (by rw [snk_len]; omega) h)
theorem vw_srt {A : AS} {s : Nat} {V : List Tr} (hw : WF A) (hs : s < 12) (hk : sK (slA A s) = 108 ∨ sK (slA A s) = 112) (hl : V.length = (vw A s).length) : slA (srtA A s V) s = slA A s ∧ vw (srtA A s V) s = V := by
  obtain ⟨l1, l2, l3, l4, l5, l6, l7, l8⟩ := lst_facts hw hs (by rcases hk with h | h; exact Or.inl h; exact Or.inr (Or.inl h))
  have e0 : chgA A s V = rowC A s V := by unfold chgA chgP; rw [if_pos hl.symm]
  obtain ⟨-, v2⟩ := vw_chg (V := V) hw hs hk
  rw [e0] at v2
  have e1 : slA (srtA A s V) s = slA A s := by
    show slA (aLet (rowC A s V) (sR (slA A s)) (sP (slA A s))) s = _
    rw [let_s, if_neg]
    · rfl
    · have : goS (rowC A s V) (sR (slA A s)) (sP (slA A s)) s = false := by
        unfold goS
        show ((decide (4 ≤ s) && decide (sK (slA A s) ≠ 45)) && match sP (slA A s) with | none => false | some p => goP _ _ _ p) = false
        cases hp : sP (slA A s) with
        | none => simp
        | some p =>
          obtain ⟨g1, g2, g3⟩ := l3 p hp
          have : goP (rowC A s V) (sR (slA A s)) (some p) p = false := by
            refine goP_f.mpr ⟨g2, fun _ => ?_⟩
            have : chA (rowC A s V) (some p) = chA A (some p) := chA_row
            rw [this]
            rw [hp] at l3
            exact (chA_in (p := p) hw.wC l3).2.2 rfl
          simp [this]
      rw [this]
      exact Bool.false_ne_true
  refine ⟨e1, ?_⟩
  have : vw (srtA A s V) s = vw (rowC A s V) s := by
    unfold vw
    rw [e1]
    rfl
  rw [this]
  exact v2
section CSort
variable {b k hs : Nat} {S : GS} {A : AS}
theorem c_srt1 {a : Nat} {pa ch : Nat → Nat} {s : Nat} {x2 : Int32} (hr : Rcp b k pa ch S hs A) (hw : WF A) (hn : npA A ≤ k) (hk : k < 600) (e5 : has A S b s a) (hk2 : sK (slA A s) = 108 ∨ sK (slA A s) = 112) :
    ∃ S', f_X4_sort_b44 S b x2 (some a) (some (stB b (sR (slA A s)))) = some (.inl (nI (vw A s).length, S')) ∧ Rc b (k + 1) S' hs (srtA A s (ord (rkw x2) 0 ((vw A s).length - 1) 1 (vw A s))) := by
  obtain ⟨l1, l2, l3, l4, l5, l6, l7, l8⟩ := lst_facts hw e5.1 (by rcases hk2 with h | h; exact Or.inl h; exact Or.inr (Or.inl h))
  have hst := (hr.2.1 (sR (slA A s)) (by omega)).1
  have hv := e5.view
  have hf := e5.2.2.2.1.first
  obtain ⟨g1, g2, g3⟩ := e5.keep hr
  rw [l2] at g2
  obtain ⟨S1, q1, q2, q3⟩ := f_order (f := fsA A (slA A s)) (z := (vw A s).length) (w := x2) hst l4
  have hlen : (ord (rkw x2) 0 ((vw A s).length - 1) 1 (vw A s)).length = (vw A s).length := ord_len _ _ _
  have eo : ord (rkw x2) (fsA A (slA A s)) ((vw A s).length - 1) (fsA A (slA A s) + 1) (rwA A (sR (slA A s))) = spl (rwA A (sR (slA A s))) (fsA A (slA A s)) (vw A s).length (ord (rkw x2) 0 ((vw A s).length - 1) 1 (vw A s)) := by
    by_cases z0 : (vw A s).length = 0
    · have hnil := List.length_eq_zero_iff.mp z0
      rw [hnil]
      simp [ord, spl]
    · have := ord_spl (rk := rkw x2) (f := fsA A (slA A s)) (z := (vw A s).length) ((vw A s).length - 1) 1 (rwA A (sR (slA A s))) l4 (by omega)
      rw [← l5] at this
      exact this
  rw [eo] at q2
  have hV : ∀ t ∈ ord (rkw x2) 0 ((vw A s).length - 1) 1 (vw A s), inB t := fun t ht => by
    by_cases z0 : (vw A s).length = 0
    · rw [List.length_eq_zero_iff.mp z0] at ht; cases ht
    · exact inB_row hw e5.1 hk2 (ord_mem ((vw A s).length - 1) 1 _ (by omega) ht)
  have h1 : Rcp b k pa ch S1 hs (rowC A s (ord (rkw x2) 0 ((vw A s).length - 1) 1 (vw A s))) := hr.row (by omega) q3 q2
  have hwf := WF_srt hw e5.1 hk2 hV hlen
  obtain ⟨S2, y1, y2, y3, y4, y5⟩ := c_letGo (a := a) (o := sP (slA A s)) h1 hw.wC hw.wS hk (show sR (slA A s) < 4 by omega) l3 ((q3.2.1 a).trans g1) ((q3.1 a 3).trans g3) (show npA A ≤ 600 by omega)
  have y2 : Rcp b (k + 1) pa _ S2 hs (srtA A s (ord (rkw x2) 0 ((vw A s).length - 1) 1 (vw A s))) := y2
  obtain ⟨e1, e2⟩ := vw_srt hw e5.1 hk2 hlen
  obtain ⟨a', p1, p2, -⟩ := y2.pane hwf e5.1 (by rw [e1]; exact e5.2.1)
  have : a' = a := by
    rcases y5 s with z | z
    · rw [z, q3.1, e5.2.2.1] at p1; cases p1; rfl
    · rw [z] at p1; cases p1
  subst this
  have hv2 := p2.view
  have e3 : vwA (srtA A s (ord (rkw x2) 0 ((vw A s).length - 1) 1 (vw A s))) (slA (srtA A s (ord (rkw x2) 0 ((vw A s).length - 1) 1 (vw A s))) s) = ord (rkw x2) 0 ((vw A s).length - 1) 1 (vw A s) := e2
  rw [e3] at hv2
  refine ⟨S2, ?_, hwf, (show npA A ≤ k + 1 by omega), pa, _, y2⟩
  simp only [f_X4_sort_b44, gtk_at hv.1, Option.bind_some, hf, hv.2.2.2.1, gtk_at hst.1.1, q1, show gT S1 b = 5 from (q3.2.1 b).trans hr.1.1.1, beq_self_eq_true, gck_t, y1, gtk_at hv2.1, hv2.2.2.2.1, hlen]
theorem c_sort (h : Rc b k S hs A) (hk : k < 600) (x1 x2 : Int32) : cRes b k hs (f_X4_sort S b x1 x2) (m_sort A x1 x2) := by
  unfold f_X4_sort m_sort
  rcases c_lst (x := x1) h hk (K := fun v3 v7 => (if x2 = 107 then f_X4_sort_b44 S b x2 v3 v7 else (if x2 = 75 then f_X4_sort_b44 S b x2 v3 v7 else (if x2 = 109 then f_X4_sort_b44 S b x2 v3 v7 else (if x2 = 77 then f_X4_sort_b44 S b x2 v3 v7 else some (.inr 4)))))) with ⟨e, e1, e2⟩ | ⟨s, e1, e2, e3⟩ | ⟨s, a, pa, ch, e1, e2, hr, e5, hk2, l1, l2, hst, hf, l4, l5, h24, e3⟩
  · rw [e1, e2]; rfl
  · rw [e1, e3, e2]; rfl
  · obtain ⟨hw, hn, -⟩ := h
    have hv := e5.view
    rw [e1, e3, e2]
    simp only [Bool.true_eq_false, if_false]
    obtain ⟨S', y1, y2⟩ := c_srt1 (x2 := x2) hr hw hn hk e5 hk2
    rw [y1]
    by_cases w1 : x2 = 107
    · rw [if_pos w1, if_pos (Or.inl w1)]; exact ⟨S', rfl, y2⟩
    · rw [if_neg w1]
      by_cases w2 : x2 = 75
      · rw [if_pos w2, if_pos (Or.inr (Or.inl w2))]; exact ⟨S', rfl, y2⟩
      · rw [if_neg w2]
        by_cases w3 : x2 = 109
        · rw [if_pos w3, if_pos (Or.inr (Or.inr (Or.inl w3)))]; exact ⟨S', rfl, y2⟩
        · rw [if_neg w3]
          by_cases w4 : x2 = 77
          · rw [if_pos w4, if_pos (Or.inr (Or.inr (Or.inr w4)))]; exact ⟨S', rfl, y2⟩
          · rw [if_neg w4, if_neg (fun q => q.elim w1 (fun q => q.elim w2 (fun q => q.elim w3 w4)))]; rfl
end CSort
