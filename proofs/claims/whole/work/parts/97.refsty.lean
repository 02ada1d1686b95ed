/-! what stays, in the reference -/
/-- a row of marks at sa: what stays of V -/
def rStk (T : GS) (sa : Nat) (V : List Tr) (q : Tr → Bool) : Prop := gT T sa = 12 ∧ gZ T sa = 24 ∧ ∀ i, i < V.length → gI T sa i = b2i (!q (V.getD i tz))
section RSty
variable {S S' : GS} {r cap hs hs' : Nat} {dq : Nat → Nat} {A B : AS}
theorem rStk.fr {W : Nat → Nat → Prop} {sa : Nat} {V : List Tr} {q : Tr → Bool} (h : rStk S sa V q) (f : rFr hs W S S') (hl : sa < hs) (hw : ∀ k, ¬ W sa k) : rStk S' sa V q := by
  obtain ⟨h1, h2, h3⟩ := h
  obtain ⟨f1, f2, f3, f4⟩ := f sa hl
  exact ⟨f1.trans h1, f2.trans h2, fun i hi => (f4 i (hw i)).trans (h3 i hi)⟩
theorem rStk.at {sa i : Nat} {V : List Tr} {q : Tr → Bool} (h : rStk S sa V q) (hi : i < V.length) (h24 : V.length ≤ 24) : gaI S (some sa) 12 (nI i) = some (b2i (!q (V.getD i tz))) := by
  rw [aI h.1 (by rw [h.2.1]; omega) (by rw [h.2.1]; omega), h.2.2 i hi]
theorem filt_len {V : List Tr} {q : Tr → Bool} : (V.filter fun t => !q t).length + V.countP q = V.length := by
  rw [← List.countP_eq_length_filter, List.length_eq_countP_add_countP q (l := V), Nat.add_comm]
  refine congrArg (fun z => V.countP q + z) ?_
  refine List.countP_congr fun t _ => ?_
  cases q t <;> simp
theorem r_staysL {s sa : Nat} {q : Tr → Bool} {T0 : GS} (h : Rq r dq cap T0 hs A) (hw : WF A) (hs12 : s < 12) (hk : sK (slA A s) = 108 ∨ sK (slA A s) = 112) (hp : npA A ≤ 512) (hsa : sa < hs) (hsr : r + 30 < sa) (hst : rStk T0 sa (vw A s) q) (h19 : gI T0 r 19 = 0) :
    ∃ S' hs', f_X5_stays T0 hs r (nI s) (some sa) = some (nI ((vw A s).countP q), S', hs') ∧ Rq r dq cap S' hs' (chgA A s ((vw A s).filter fun t => !q t)) ∧ gI S' r 19 = 0 ∧ hs ≤ hs' := by
  have e45 : kA A s ≠ 45 := by
    show sK (slA A s) ≠ 45
    rcases hk with h | h <;> (rw [h]; decide)
  obtain ⟨l1, l2, l3, l4, l5, -⟩ := lst_facts hw hs12 (hk.elim Or.inl (fun h => Or.inr (Or.inl h)))
  have g24 := (hw.1 _ (show sR (slA A s) < 4 by omega)).1
  have h24 := vw_24 hw hs12 e45
  have hv := h.see hw hs12 e45
  have hfl := filt_len (V := vw A s) (q := q)
  have ft : ∀ i, i < (vw A s).length → ((vw A s).take (i + 1)).filter (fun t => !q t) = ((vw A s).take i).filter (fun t => !q t) ++ (if (!q ((vw A s).getD i tz)) = true then [(vw A s).getD i tz] else []) := fun i hi => by
    rw [take_s hi, List.filter_append]
    refine congrArg _ ?_
    cases h9 : q ((vw A s).getD i tz) <;> simp only [List.filter_cons, List.filter_nil, h9, Bool.not_true, Bool.not_false, if_true, Bool.false_eq_true, if_false]
  have fl : ∀ i, (((vw A s).take i).filter (fun t => !q t)).length ≤ 24 := fun i => by
    have h1 := List.length_filter_le (fun t => !q t) ((vw A s).take i)
    have h2 : ((vw A s).take i).length ≤ (vw A s).length := by rw [List.length_take]; omega
    omega
  obtain ⟨T, ⟨t1, t2, t3, t5⟩, n, t4⟩ := lpG0 (F := fun n T i => f_X5_stays_L79 r n T hs (nI s) (some sa) (nI (vw A s).length) i) (fun i T => Rq r dq cap T hs A ∧ rNw T r (((vw A s).take i).filter (fun t => !q t)) ∧ gI T r 19 = 0 ∧ rStk T sa (vw A s) q) (vw A s).length (fun n T i hi hI => by
    obtain ⟨i1, i2, i3, i4⟩ := hI
    have hvT := i1.see hw hs12 e45
    have q1 : ((vw A s).length ≤ i) = False := eq_false (by omega)
    obtain ⟨b1, b2⟩ := hvT.2.2.2 i hi
    have hst := i4.at hi h24
    have hft := ft i hi
    cases hq : q ((vw A s).getD i tz)
    · rw [hq] at hst hft
      obtain ⟨T', d1, d2, d3, d4, d5, d6⟩ := r_lays i1 i2 (by have := fl i; omega) ((vw A s).getD i tz).1 ((vw A s).getD i tz).2.1 ((vw A s).getD i tz).2.2
      rw [tr_eta] at d3
      refine ⟨T', ⟨d2, by rw [hft]; exact d3, by rw [d6]; exact i3, i4.fr d4 hsa (fun k => by unfold wSc; omega)⟩, ?_⟩
      have b9 : b2i (!false) = 1 := rfl
      simp (disch := omega) only [f_X5_stays_L79, f_X5_stays_b110, i1.1.1, beq_self_eq_true, gck_t, Option.bind_some, nI_leI, q1, if_false, hst, b9, b2i_1, b1, b2, d1, nI_1]
    · rw [hq] at hst hft
      refine ⟨T, ⟨i1, ?_, i3, i4⟩, ?_⟩
      · rw [hft]
        simp only [Bool.not_true, Bool.false_eq_true, if_false, List.append_nil]
        exact i2
      · have b9 : b2i (!true) = 0 := rfl
        simp (disch := omega) only [f_X5_stays_L79, f_X5_stays_b110, Option.bind_some, nI_leI, q1, if_false, hst, b9, if_true, nI_1]) (by omega) (gsI T0 r 22 0) ⟨h.nsz 0, by
      rw [List.take_zero]
      exact rNw_nil (by rw [gI_gsI, if_pos ⟨rfl, rfl⟩]), by rw [gI_gsI, if_neg (by omega)]; exact h19, hst.fr (rFr.one (W := fun a _ => a = r) rfl) hsa (fun k => by omega)⟩
  rw [List.take_length] at t2
  obtain ⟨S', hs', u1, u2, u3, u4, u5, u6⟩ := r_bec2 t1 hw hs12 hk t2 (fun t ht => inB_row hw hs12 hk ((List.mem_filter.mp ht).1)) (by omega) (by omega)
  refine ⟨S', hs', ?_, u2, by rw [u3]; exact t3, u4⟩
  have k1 : kA A s ≠ 118 := by
    show sK (slA A s) ≠ 118
    rcases hk with h | h <;> (rw [h]; decide)
  have k2 : kA A s ≠ 107 := by
    show sK (slA A s) ≠ 107
    rcases hk with h | h <;> (rw [h]; decide)
  have e22 : gI S' r 22 = nI ((vw A s).filter fun t => !q t).length := (u3 22).trans t2.1
  have esub : nI (vw A s).length - nI ((vw A s).filter fun t => !q t).length = nI ((vw A s).countP q) := by
    rw [pk_sub (by omega)]
    exact congrArg nI (by omega)
  simp only [f_X5_stays, h.1.fs, beq_self_eq_true, gck_t, hv.2.1, Option.bind_some, h.1.rs.1 s hs12, h.kd hs12, k1, k2, if_false]
  rw [t4]
  simp only [f_X5_stays_L79, t1.1.fs, beq_self_eq_true, gck_t, Option.bind_some, Int32.le_refl, if_true, u1, gb2_s, u2.1.fs, e22, esub]
theorem r_staysM {s sa j : Nat} {q : Tr → Bool} {z : Int32} (hw : WF A) (hs12 : s < 12) (hk : kA A s = 107 ∨ kA A s = 118) (hj : j < 2) (hjr : sR (slA A s) = 2 + j) (hsa : sa < hs) (hsr : r + 30 < sa) :
    ∀ (i : Nat) (M : List Tr) (T : GS) (n : Nat), Rq r dq cap T hs (aSetR A (2 + j) M) → rStk T sa (vw A s) q → (vw A s).length ≤ 24 → M.length ≤ 24 → i ≤ M.length → i ≤ (vw A s).length → i < n →
      ∃ T' n', f_X5_stays_L33 r n T hs (nI s) (some sa) z (nI i - 1) = f_X5_stays_L33 r (n' + 1) T' hs (nI s) (some sa) z (nI 0 - 1) ∧ Rq r dq cap T' hs (aSetR A (2 + j) (rmV (fun i => q ((vw A s).getD i tz)) i M)) ∧ gI T' r 19 = gI T r 19 := by
  have hm : sK (slA A s) = 109 ∨ sK (slA A s) = 70 ∨ sK (slA A s) = 107 ∨ sK (slA A s) = 118 := hk.elim (fun z => Or.inr (Or.inr (Or.inl z))) (fun z => Or.inr (Or.inr (Or.inr z)))
  obtain ⟨l1, l2, l3, l4, l5, l6⟩ := map_facts hw hs12 hm
  have e45 : sK (slA A s) ≠ 45 := by rcases hm with h | h | h | h <;> (rw [h]; decide)
  intro i
  induction i with
  | zero =>
    intro M T n h1 h2 h3 h4 h5 h6 h7
    obtain ⟨n, rfl⟩ : ∃ k, n = k + 1 := ⟨n - 1, by omega⟩
    exact ⟨T, n, rfl, h1, rfl⟩
  | succ i ih =>
    intro M T n h1 h2 h3 h4 h5 h6 h7
    obtain ⟨n, rfl⟩ : ∃ k, n = k + 1 := ⟨n - 1, by omega⟩
    have q0 : (nI i < 0) = False := by rw [← nI_pred, m1_lt (by omega)]; exact eq_false (by omega)
    have hst := h2.at (show i < (vw A s).length by omega) h3
    have href : gI T (r + 24) s = nI j := by
      obtain ⟨-, -, y3⟩ := (h1.2.2.2.2.1 s hs12).2 e45
      have := (y3 l3).1
      rw [this]
      show nI (rIx (slA A s)) = nI j
      unfold rIx
      rw [if_neg (by omega)]
      exact congrArg nI (by omega)
    cases hq : q ((vw A s).getD i tz)
    · rw [hq] at hst
      obtain ⟨T', n', g1, g2, g3⟩ := ih M T n h1 h2 h3 h4 (by omega) (by omega) (by omega)
      have b9 : b2i (!false) = 1 := rfl
      refine ⟨T', n', ?_, ?_, g3⟩
      · refine Eq.trans ?_ g1
        rw [f_X5_stays_L33]
        simp only [q0, if_false, nI_pred, hst, Option.bind_some, b9, b2i_1, f_X5_stays_b57, sub1]
      · rw [rmV, hq]; exact g2
    · rw [hq] at hst
      have e0 : rwA (aSetR A (2 + j) M) (2 + j) = M := if_pos rfl
      obtain ⟨T1, s1, s2, s3, s4, s5⟩ := r_strikes (p := i) h1 hj (by rw [e0]; omega) (by rw [e0]; exact h4)
      rw [e0] at s2
      have hel : (M.eraseIdx i).length = M.length - 1 := len_era (by omega)
      have hst1 : rStk T1 sa (vw A s) q := ⟨by rw [(s4 sa).1]; exact h2.1, by rw [(s4 sa).2]; exact h2.2.1, fun k hk9 => by rw [s5 sa k hsr]; exact h2.2.2 k hk9⟩
      obtain ⟨T', n', g1, g2, g3⟩ := ih (M.eraseIdx i) T1 n s2.mset hst1 h3 (by omega) (by omega) (by omega) (by omega)
      have b9 : b2i (!true) = 0 := rfl
      refine ⟨T', n', ?_, ?_, g3.trans (s3 19)⟩
      · refine Eq.trans ?_ g1
        rw [f_X5_stays_L33]
        simp only [q0, if_false, nI_pred, hst, Option.bind_some, b9, if_true, h1.1.fs, h1.1.rs.2.1 s hs12, href, beq_self_eq_true, gck_t, s1, f_X5_stays_b57, sub1]
      · rw [rmV, hq]; exact g2
end RSty
