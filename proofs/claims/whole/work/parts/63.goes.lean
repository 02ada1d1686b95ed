/-! what goes: marks, then removals from the last one on -/
def gGo (b : Nat) (S S' : GS) : Prop := (∀ a k, gR S' a k = gR S a k) ∧ (∀ a, gT S' a = gT S a) ∧ (∀ a, gZ S' a = gZ S a) ∧ ∀ a k, a ≠ b + 26 → gI S' a k = gI S a k
theorem gGo.rf {b : Nat} {S : GS} : gGo b S S := ⟨fun _ _ => rfl, fun _ => rfl, fun _ => rfl, fun _ _ _ => rfl⟩
theorem gGo.tr {b : Nat} {S S' S'' : GS} (h : gGo b S S') (g : gGo b S' S'') : gGo b S S'' := ⟨fun a k => (g.1 a k).trans (h.1 a k), fun a => (g.2.1 a).trans (h.2.1 a), fun a => (g.2.2.1 a).trans (h.2.2.1 a), fun a k q => (g.2.2.2 a k q).trans (h.2.2.2 a k q)⟩
theorem gGo.one {b i : Nat} {S : GS} {v : Int32} : gGo b S (gsI S (b + 26) i v) := ⟨fun _ _ => rfl, fun _ => rfl, fun _ => rfl, fun a k q => by rw [gI_gsI, if_neg (fun z => q z.1)]⟩
theorem gGo.st {b st : Nat} {S S' : GS} {L : List Tr} (g : gGo b S S') (h : cSt S st L) (ht : gT S (b + 26) = 12) : cSt S' st L := by
  obtain ⟨g1, g2, g3, g4⟩ := g
  obtain ⟨⟨k1, k2, k3, k4, k5, k6, k7, k8, k9, k10⟩, h2, h3, h4⟩ := h
  have nx : ∀ x, gT S x = 4 ∨ gT S x = 11 → x ≠ b + 26 := fun x hx e => by rw [e] at hx; omega
  refine ⟨⟨by rw [g2]; exact k1, by rw [g1]; exact k2, by rw [g1]; exact k3, by rw [g1]; exact k4, by rw [g2]; exact k5, by rw [g2]; exact k6, by rw [g2]; exact k7, by rw [g3]; exact k8, by rw [g3]; exact k9, by rw [g3]; exact k10⟩, by rw [g4 _ _ (nx _ (Or.inl k1))]; exact h2, h3, fun i hi => ?_⟩
  rw [← h4 i hi]
  unfold trw
  rw [g4 _ _ (nx _ (Or.inr k5)), g4 _ _ (nx _ (Or.inr k6)), g4 _ _ (nx _ (Or.inr k7))]
theorem gGo.rcp {b k hs : Nat} {pa ch : Nat → Nat} {S S' : GS} {A : AS} (g : gGo b S S') (h : Rcp b k pa ch S hs A) : Rcp b k pa ch S' hs A := by
  obtain ⟨r1, r2, ⟨⟨L1, r3⟩, L2, r3'⟩, r4, r5, r6, r7⟩ := h
  have hg : gT S (b + 26) = 12 := r1.2.2.1.1
  obtain ⟨g1, g2, g3, g4⟩ := id g
  have ho : ∀ a k, gT S a ≠ 12 → gI S' a k = gI S a k := fun a k ha => g4 a k (fun e => ha (by rw [e]; exact hg))
  refine ⟨?_, fun j hj => ?_, ⟨⟨L1, g.st r3 hg⟩, L2, g.st r3' hg⟩, fun s hs => ?_, fun p hp hg => ?_, r6, ⟨fun a ha => by rw [g2]; exact r7.1 a ha, r7.2⟩⟩
  · obtain ⟨⟨p1, p2, p3, p4, p5⟩, ⟨p6, p7⟩, ⟨p8, p9⟩, ⟨p10, p11, p12⟩, p13, p14, p15, p16⟩ := r1
    refine ⟨⟨?_, ?_, ?_, ?_, ?_⟩, ⟨?_, ?_⟩, ⟨?_, ?_⟩, ⟨?_, ?_, ?_⟩, ?_, ?_, ?_, ?_⟩ <;> first | (rw [g1]; assumption) | (rw [g2]; assumption) | (rw [g3]; assumption) | (rw [ho _ _ (by omega)]; assumption)
  · obtain ⟨f1, f2, f3, f4⟩ := r2 j hj
    have := f1.1.1
    exact ⟨g.st f1 hg, by rw [ho _ _ (by omega)]; exact f2, by rw [ho _ _ (by omega)]; exact f3, f4⟩
  · obtain ⟨c1, c2⟩ := r4 s hs
    refine ⟨fun e => by rw [g1]; exact c1 e, fun e => ?_⟩
    obtain ⟨a, d1, d2, d3, d4, d5, d6, d7⟩ := c2 e
    exact ⟨a, by rw [g1]; exact d1, by rw [g2]; exact d2, by rw [ho _ _ (by omega)]; exact d3, by rw [ho _ _ (by omega)]; exact d4, by rw [g1]; exact d5, by rw [g1]; exact d6, fun e => by rw [ho _ _ (by omega), ho _ _ (by omega), ho _ _ (by omega)]; exact d7 e⟩
  · obtain ⟨d1, d2, d3, d4, c, d5, d6⟩ := r5 p hp hg
    exact ⟨by rw [g2]; exact d1, by rw [g1]; exact d2, by rw [ho _ _ (by omega)]; exact d3, by rw [ho _ _ (by omega)]; exact d4, c, d5, by rw [ho _ _ (by omega)]; exact d6⟩
theorem gGo.pn {b a f : Nat} {S S' : GS} {kd : Int32} {L : List Tr} {u : Option Nat} (g : gGo b S S') (ht : gT S (b + 26) = 12) (h : cPn S a kd L u f) : cPn S' a kd L u f := by
  obtain ⟨h1, h2, h3, h4, h5⟩ := h
  obtain ⟨g1, g2, g3, g4⟩ := id g
  have ho : ∀ a k, gT S a ≠ 12 → gI S' a k = gI S a k := fun a k ha => g4 a k (fun e => ha (by rw [e]; exact ht))
  refine ⟨by rw [g2]; exact h1, by rw [ho _ _ (by omega)]; exact h2, by rw [g1]; exact h3, fun e => ?_, fun st e => ?_⟩
  · rw [g1, ho _ _ (by omega), ho _ _ (by omega), ho _ _ (by omega)]; exact h4 e
  · obtain ⟨R, q1, q2, q3, q4⟩ := h5 st e
    refine ⟨R, g.st q1 ht, q2, q3, ?_⟩
    rw [g1]
    rcases q4 with q | ⟨q, w1, w2, w3, w4⟩
    · exact Or.inl q
    · exact Or.inr ⟨q, w1, by rw [g2]; exact w2, by rw [ho _ _ (by omega)]; exact w3, by rw [ho _ _ (by omega)]; exact w4⟩
theorem c_mark {b i : Nat} {S : GS} {v : Int32} (h : cHd S b) (hi : i < 24) (hv : gnr .boolean v = true) : f_X4_markGoing S b (nI i) v = some (gsI S (b + 26) i v) := by
  obtain ⟨⟨p1, p2, p3, p4, p5⟩, -, ⟨p8, p9⟩, -⟩ := h
  have q : (24 ≤ i) = False := eq_false (by omega)
  unfold f_X4_markGoing
  simp (disch := first | assumption | omega) only [n_lt0, if_false, gfR_at p1, p4, Option.bind_some, gal_at p8, p9, nI_leI, q, hv, gck_t, saI]
/-- those that are told to go have gone -/
def rmV (g : Nat → Bool) : Nat → List Tr → List Tr
  | 0, V => V
  | i + 1, V => rmV g i (if g i = true then V.eraseIdx i else V)
def cnG (g : Nat → Bool) : Nat → Nat
  | 0 => 0
  | i + 1 => (if g i = true then 1 else 0) + cnG g i
theorem rmV_len {g : Nat → Bool} : ∀ (i : Nat) (V : List Tr), i ≤ V.length → (rmV g i V).length + cnG g i = V.length := by
  intro i
  induction i with
  | zero => intro V _; rfl
  | succ i ih =>
    intro V h
    rw [rmV, cnG]
    cases hg : g i
    · have := ih V (by omega)
      simp only [Bool.false_eq_true, if_false]
      omega
    · have l1 := len_era (V := V) (i := i) (by omega)
      have := ih (V.eraseIdx i) (by omega)
      simp only [if_true]
      omega
theorem rmV_tail {g : Nat → Bool} {q : Tr → Bool} : ∀ (i : Nat) (V : List Tr), i ≤ V.length → (∀ j, j < i → g j = q (V.getD j tz)) → rmV g i V = (V.take i).filter (fun t => !q t) ++ V.drop i ∧ cnG g i = (V.take i).countP q := by
  intro i
  induction i with
  | zero => intro V _ _; exact ⟨by simp [rmV], by simp [cnG]⟩
  | succ i ih =>
    intro V h hg
    have hgi := hg i (by omega)
    have et : V.take (i + 1) = V.take i ++ [V.getD i tz] := by
      rw [List.take_succ, gd_eq, List.getElem?_eq_getElem (by omega)]; rfl
    have ed : V.drop i = V.getD i tz :: V.drop (i + 1) := by
      rw [List.drop_eq_getElem_cons (by omega), gd_eq, List.getElem?_eq_getElem (by omega)]
      rfl
    rw [rmV, cnG, et, List.filter_append, List.countP_append]
    cases hq : q (V.getD i tz)
    · rw [hq] at hgi
      obtain ⟨i1, i2⟩ := ih V (by omega) (fun j hj => hg j (by omega))
      rw [hgi]
      refine ⟨?_, ?_⟩
      · simp only [Bool.false_eq_true, if_false, i1, ed]
        rw [List.filter_cons_of_pos (by rw [hq]; rfl)]
        simp
      · simp only [Bool.false_eq_true, if_false, i2]
        rw [List.countP_cons_of_neg (by rw [hq]; exact Bool.false_ne_true)]
        simp
    · rw [hq] at hgi
      have e1 : (V.eraseIdx i).take i = V.take i := by
        refine tl_ext (by rw [List.length_take, List.length_take, len_era (by omega)]; omega) fun k hk => ?_
        rw [List.length_take] at hk
        rw [gd_take (by omega), gd_take (by omega), gd_era, if_pos (by omega)]
      have e2 : (V.eraseIdx i).drop i = V.drop (i + 1) := by
        refine tl_ext (by rw [List.length_drop, List.length_drop, len_era (by omega)]; omega) fun k hk => ?_
        rw [gd_drop, gd_drop, gd_era, if_neg (by omega)]
        exact congrArg (fun q => V.getD q tz) (by omega)
      obtain ⟨i1, i2⟩ := ih (V.eraseIdx i) (by rw [len_era (by omega)]; omega) (fun j hj => by rw [gd_era, if_pos hj]; exact hg j (by omega))
      rw [e1, e2] at i1
      rw [e1] at i2
      rw [hgi]
      refine ⟨?_, ?_⟩
      · simp only [if_true, i1]
        rw [List.filter_cons_of_neg (by rw [hq]; exact Bool.false_ne_true)]
        simp
      · simp only [if_true, i2]
        rw [List.countP_cons_of_pos hq]
        simp
        omega
theorem rmV_all {g : Nat → Bool} {q : Tr → Bool} {V : List Tr} (h : ∀ j, j < V.length → g j = q (V.getD j tz)) : rmV g V.length V = V.filter (fun t => !q t) ∧ cnG g V.length = V.countP q := by
  obtain ⟨h1, h2⟩ := rmV_tail V.length V (Nat.le_refl _) h
  rw [List.take_length] at h1 h2
  exact ⟨by rw [h1, List.drop_length, List.append_nil], h2⟩
theorem sub1 (x : Int32) : x + (-1) = x - 1 := by rw [Int32.sub_eq_add_neg]
theorem m1_lt {i : Nat} (h : i < 2 ^ 31) : (nI i - 1 < 0) = (i = 0) := by
  cases i with
  | zero => exact eq_true (by decide) |>.trans (eq_true rfl).symm
  | succ i => rw [nI_pred, n_lt0 (by omega)]; exact (eq_false (by omega)).symm
theorem first_kept {S S' : GS} {a st f : Nat} (hk : cSk S st) (hr : cFr st S S') (ha : gT S a = 2) (hp : gR S a 3 = none ∨ ∃ q, gR S a 3 = some q ∧ gT S q = 3) (h : f_X1_first S a = some (nI f)) : f_X1_first S' a = some (nI f) := by
  have ho := fun a k h4 h11 => hr.out (a := a) (k := k) hk h4 h11
  unfold f_X1_first at h ⊢
  rw [gfR_at (by rw [hr.2.1]; exact ha), hr.1]
  rw [gfR_at ha] at h
  rcases hp with hp | ⟨q, hp, hq⟩
  · rw [hp] at h ⊢; exact h
  · rw [hp] at h ⊢
    simp only [Option.bind_some, reduceCtorEq, if_false] at h ⊢
    rw [gfI_at (by rw [hr.2.1]; exact hq), ho _ _ (by omega) (by omega)]
    rw [gfI_at hq] at h
    exact h
section CGo
variable {b k hs : Nat} {S : GS} {A : AS}
theorem c_rmL {a st f z : Nat} {R : List Tr} {g : Nat → Bool} (hz : f + z ≤ R.length) : ∀ (i : Nat) (S : GS) (V : List Tr) (n c : Nat), cHd S b → gT S a = 2 → (gR S a 3 = none ∨ ∃ q, gR S a 3 = some q ∧ gT S q = 3) → f_X1_first S a = some (nI f) → cSt S st (spl R f z V) → (st + 3 < b + 26 ∨ b + 26 < st) → i ≤ V.length → i < 24 + 1 → (∀ j, j < i → gI S (b + 26) j = b2i (g j)) → i < n →
    ∃ S', f_X4_removeGoing_L18 b n S (some a) (some st) (nI c) (nI i - 1) = (f_X4_settle S' b (some a) (-(nI (c + cnG g i)))).bind (fun S13 => some (nI (c + cnG g i), S13)) ∧ cFr st S S' ∧ cSt S' st (spl R f z (rmV g i V)) := by
  intro i
  induction i with
  | zero =>
    intro S V n c hH ha hp hf hst hsep h1 h2 h3 hn
    obtain ⟨n, rfl⟩ : ∃ k, n = k + 1 := ⟨n - 1, by omega⟩
    refine ⟨S, ?_, cFr.rf, hst⟩
    have q : (nI 0 - 1 < 0) = True := by decide
    rw [f_X4_removeGoing_L18]
    simp only [q, if_true, hH.1.1, beq_self_eq_true, gck_t, cnG, Nat.add_zero]
  | succ i ih =>
    intro S V n c hH ha hp hf hst hsep h1 h2 h3 hn
    obtain ⟨n, rfl⟩ : ∃ k, n = k + 1 := ⟨n - 1, by omega⟩
    obtain ⟨⟨p1, p2, p3, p4, p5⟩, -, ⟨p8, p9⟩, -⟩ := id hH
    have hlen := spl_len (M := V) hz
    have hgi := h3 i (by omega)
    rw [f_X4_removeGoing_L18, nI_pred]
    simp (disch := first | assumption | omega) only [n_lt0, if_false, gfR_at p1, p4, Option.bind_some, aI, hgi, b2i_0, f_X4_removeGoing_b47, sub1]
    rw [rmV, cnG]
    cases hg : g i
    · simp only [if_true, Bool.false_eq_true, if_false, Nat.zero_add]
      exact ih S V n c hH ha hp hf hst hsep (by omega) (by omega) (fun j hj => h3 j (by omega)) (by omega)
    · simp only [Bool.true_eq_false, if_false, if_true, gtk_at ha, Option.bind_some, hf, gtk_at hst.1.1, nI_add]
      obtain ⟨S1, q1, q2, q3⟩ := f_remove (p := f + i) hst (by omega)
      have e0 : f + V.length ≤ (spl R f z V).length := by omega
      have e1 := era_spl (L := spl R f z V) (f := f) (z := V.length) (i := i) e0 (by omega)
      rw [spl_viw hz, spl_spl hz] at e1
      rw [e1] at q2
      have hk := hst.1
      have hH' : cHd S1 b := by
        obtain ⟨⟨p1, p2, p3, p4, p5⟩, ⟨p6, p7⟩, ⟨p8, p9⟩, ⟨p10, p11, p12⟩, p13, p14, p15, p16⟩ := hH
        refine ⟨⟨?_, ?_, ?_, ?_, ?_⟩, ⟨?_, ?_⟩, ⟨?_, ?_⟩, ⟨?_, ?_, ?_⟩, ?_, ?_, ?_, ?_⟩ <;> first | (rw [q3.1]; assumption) | (rw [q3.2.1]; assumption) | (rw [q3.2.2.1]; assumption) | (rw [q3.out hk (by omega) (by omega)]; assumption)
      obtain ⟨S2, y1, y2, y3⟩ := ih S1 (V.eraseIdx i) n (c + 1) hH' (by rw [q3.2.1]; exact ha) (hp.elim (fun e => Or.inl (by rw [q3.1]; exact e)) (fun ⟨q, w1, w2⟩ => Or.inr ⟨q, by rw [q3.1]; exact w1, by rw [q3.2.1]; exact w2⟩)) (first_kept hk q3 ha hp hf) q2 hsep (by rw [len_era (by omega)]; omega) (by omega) (fun j hj => by rw [q3.2.2.2.1 _ _ (by omega)]; exact h3 j (by omega)) (by omega)
      refine ⟨S2, ?_, q3.tr y2, y3⟩
      rw [q1]
      simp only [Option.bind_some, nI_1]
      rw [show c + (1 + cnG g i) = c + 1 + cnG g i by omega]
      exact y1
theorem nI_neg {g n z : Nat} (h1 : g ≤ z) (h2 : z ≤ n) : nI n + (-(nI g)) = nI (n + (z - g) - z) := by
  rw [← Int32.sub_eq_add_neg, pk_sub (by omega)]
  exact congrArg nI (by omega)
theorem neg0 {g : Nat} (h : g < 2 ^ 31) : -(nI g) = 0 ↔ g = 0 := by
  constructor
  · intro e
    have : nI g = nI 0 := by
      have e2 := congrArg (fun x => -x) e
      simp only [Int32.neg_neg] at e2
      rw [e2]; decide
    exact (nI_eq h (by omega)).mp this
  · rintro rfl; decide
/-- an open slot on a row of the class -/
def opn (A : AS) (s : Nat) : Prop := sK (slA A s) = 108 ∨ sK (slA A s) = 112 ∨ sK (slA A s) = 109 ∨ sK (slA A s) = 107 ∨ sK (slA A s) = 118
theorem opn_facts {s : Nat} (hw : WF A) (hs : s < 12) (hk : opn A s) : sR (slA A s) < 4 ∧ isC (slA A s) = false ∧ okP A (sR (slA A s)) (sP (slA A s)) ∧ fsA A (slA A s) + (vw A s).length ≤ (rwA A (sR (slA A s))).length ∧ vw A s = viw (rwA A (sR (slA A s))) (fsA A (slA A s)) (vw A s).length ∧
    (∀ q ∈ chA A (sP (slA A s)), (vw A s).length ≤ pZ (ptA A q)) ∧ (∀ t ∈ vw A s, inB t) := by
  by_cases hl : sK (slA A s) = 108 ∨ sK (slA A s) = 112
  · obtain ⟨l1, l2, l3, l4, l5, l6, l7, l8⟩ := lst_facts hw hs (hl.elim Or.inl (fun h => Or.inr (Or.inl h)))
    exact ⟨by omega, l2, l3, l4, l5, fun q hq => (l8 q hq).1, fun t ht => inB_row hw hs hl ht⟩
  · have hm : sK (slA A s) = 109 ∨ sK (slA A s) = 70 ∨ sK (slA A s) = 107 ∨ sK (slA A s) = 118 := by
      rcases hk with h | h | h | h | h
      · exact absurd (Or.inl h) hl
      · exact absurd (Or.inr h) hl
      · exact Or.inl h
      · exact Or.inr (Or.inr (Or.inl h))
      · exact Or.inr (Or.inr (Or.inr h))
    obtain ⟨l1, l2, l3, l4, l5, l6⟩ := map_facts hw hs hm
    refine ⟨l2, l3, (fun p hp => by rw [l4] at hp; cases hp), (by rw [l5, l6]; simp), by rw [l5, l6]; exact viw_all.symm, fun q hq => ?_, fun t ht => ?_⟩
    · rw [l4] at hq
      unfold chA at hq
      cases hn : npA A <;> rw [hn] at hq <;> cases hq
    · rw [l6] at ht; exact (hw.1 _ l2).2 t ht
theorem WF_sub {s : Nat} {V : List Tr} (hw : WF A) (hs : s < 12) (hk : opn A s) (hV : V.Sublist (vw A s)) : WF (chgA A s V) := by
  obtain ⟨l1, l2, l3, l4, l5, l6, l7⟩ := opn_facts hw hs hk
  have h24 := (hw.1 _ l1).1
  have hl := hV.length_le
  by_cases hl' : sK (slA A s) = 108 ∨ sK (slA A s) = 112
  · exact WF_chg hw hs hl' (fun t ht => l7 t (hV.subset ht)) (by omega)
  · have hm : sK (slA A s) = 109 ∨ sK (slA A s) = 70 ∨ sK (slA A s) = 107 ∨ sK (slA A s) = 118 := by
      rcases hk with h | h | h | h | h
      · exact absurd (Or.inl h) hl'
      · exact absurd (Or.inr h) hl'
      · exact Or.inl h
      · exact Or.inr (Or.inr (Or.inl h))
      · exact Or.inr (Or.inr (Or.inr h))
    obtain ⟨m1, m2, m3, m4, m5, m6⟩ := map_facts hw hs hm
    rw [m6] at hV
    refine WF_chgM hw hs hm (fun t ht => (hw.1 _ l1).2 t (hV.subset ht)) (by omega) ((hV.map _).nodup (hw.2.2.2.2.2.2.1 _ m1 m2)) (fun e => ?_)
    rw [e] at hV
    exact hw.2.2.2.2.2.2.2.sublist (hV.map _)
theorem c_doneX {S S1 : GS} {s a : Nat} {pa ch ch1 : Nat → Nat} {V : List Tr} {x2 : Int32} (hr : Rcp b k pa ch S hs A) (hw : WF A) (h5 : has A S b s a) (hk : opn A s) (hk6 : k < 600) (hn : npA A ≤ k)
    (h1 : Rcp b k pa ch1 S1 hs (rowC A s V)) (fR : ∀ x i, gR S1 x i = gR S x i) (fT : ∀ x, gT S1 x = gT S x) (hwf : WF (chgA A s V))
    (hx : x2 = 0 ↔ (vw A s).length = V.length) (hx2 : ∀ n, (vw A s).length ≤ n → n ≤ 24 → nI n + x2 = nI (n + V.length - (vw A s).length)) :
    ∃ S', f_X4_settle S1 b (some a) x2 = some S' ∧ Rc b (k + 1) S' hs (chgA A s V) ∧ gT S' b = 5 := by
  obtain ⟨l1, l2, l3, l4, l5, l6, l7⟩ := opn_facts hw h5.1 hk
  obtain ⟨g1, g2, g3⟩ := h5.keep hr
  rw [l2] at g2
  obtain ⟨S', ch', y1, y2, y3, y4, y5⟩ := c_settle (za := (vw A s).length) (zc := V.length) (x2 := x2) h1 (show wC (rowC A s V) from hw.wC) (show wS (rowC A s V) from hw.wS) hk6 l1 (show okP (rowC A s V) (sR (slA A s)) (sP (slA A s)) from l3) (by rw [fT]; exact g1) (by rw [fR]; exact g2) (by rw [fR]; exact g3) (show npA A ≤ 600 by omega) hx (fun q hq => by
    have hm : q ∈ chA A (sP (slA A s)) := by
      have : chA (rowC A s V) (sP (slA A s)) = chA A (sP (slA A s)) := chA_row
      rw [← this]; exact hq
    obtain ⟨c1, -, -⟩ := chA_in (p := 0) hw.wC l3
    obtain ⟨w1, w2, w3⟩ := c1 q hm
    have := (hw.2.2.2.2.2.1 q w1 w2).2.1
    have := (hw.1 _ (show pL (ptA A q) < 4 by omega)).1
    exact hx2 _ (l6 q hm) (by show pZ (ptA A q) ≤ 24; omega))
  exact ⟨S', y1, ⟨hwf, by rw [np_chg]; omega, pa, ch', y2⟩, by rw [y4, fT]; exact hr.1.1.1⟩
/-- what is marked goes -/
theorem c_remG {s a : Nat} {pa ch : Nat → Nat} {q : Tr → Bool} (hr : Rcp b k pa ch S hs A) (hw : WF A) (h5 : has A S b s a) (hk : opn A s) (hk6 : k < 600) (hn : npA A ≤ k) (hg : ∀ j, j < (vw A s).length → gI S (b + 26) j = b2i (q ((vw A s).getD j tz))) :
    ∃ S', f_X4_removeGoing S b (some a) (some (stB b (sR (slA A s)))) = some (nI ((vw A s).countP q), S') ∧ Rc b (k + 1) S' hs (chgA A s ((vw A s).filter fun t => !q t)) := by
  obtain ⟨l1, l2, l3, l4, l5, l6, l7⟩ := opn_facts hw h5.1 hk
  obtain ⟨g1, g2, g3⟩ := h5.keep hr
  have hv := h5.view
  have h24 := hv.2.2.1
  have hst := (hr.2.1 _ l1).1
  have hf := h5.2.2.2.1.first
  obtain ⟨⟨p1, p2, p3, p4, p5⟩, -, ⟨p8, p9⟩, -⟩ := id hr.1
  have hsp : rwA A (sR (slA A s)) = spl (rwA A (sR (slA A s))) (fsA A (slA A s)) (vw A s).length (vw A s) := by
    refine tl_ext (by rw [spl_len l4]; omega) fun i hi => ?_
    rw [gd_spl l4]
    by_cases a : i < fsA A (slA A s)
    · rw [if_pos a]
    · rw [if_neg a]
      by_cases c : i < fsA A (slA A s) + (vw A s).length
      · rw [if_pos c]
        have : (vw A s).getD (i - fsA A (slA A s)) tz = (viw (rwA A (sR (slA A s))) (fsA A (slA A s)) (vw A s).length).getD (i - fsA A (slA A s)) tz := congrArg (fun L : List Tr => L.getD (i - fsA A (slA A s)) tz) l5
        rw [this, gd_viw (by omega)]
        exact congrArg (fun q => (rwA A (sR (slA A s))).getD q tz) (by omega)
      · rw [if_neg c]; exact congrArg (fun q => (rwA A (sR (slA A s))).getD q tz) (by omega)
  have hst' := hst
  rw [hsp] at hst'
  obtain ⟨S1, y1, y2, y3⟩ := c_rmL (b := b) (a := a) (g := fun j => q ((vw A s).getD j tz)) l4 (vw A s).length S (vw A s) gN 0 hr.1 g1 (by
      rw [g3]
      cases hp : sP (slA A s) with
      | none => exact Or.inl rfl
      | some p => obtain ⟨o1, o2, -⟩ := l3 p hp; exact Or.inr ⟨pa p, rfl, (hr.2.2.2.2.1 p o1 o2).1⟩) hf hst' (by unfold stB; omega) (Nat.le_refl _) (by omega) hg (by simp only [gN]; omega)
  obtain ⟨r1, r2⟩ := rmV_all (g := fun j => q ((vw A s).getD j tz)) (q := q) (V := vw A s) (fun _ _ => rfl)
  have rl := rmV_len (g := fun j => q ((vw A s).getD j tz)) (vw A s).length (vw A s) (Nat.le_refl _)
  rw [r1, r2] at rl
  rw [r1] at y3
  rw [r2, Nat.zero_add] at y1
  have h1 : Rcp b k pa ch S1 hs (rowC A s ((vw A s).filter fun t => !q t)) := hr.row l1 y2 y3
  have hwf := WF_sub (V := (vw A s).filter fun t => !q t) hw h5.1 hk List.filter_sublist
  obtain ⟨S2, z1, z2, z3⟩ := c_doneX (x2 := -(nI ((vw A s).countP q))) hr hw h5 hk hk6 hn h1 y2.1 y2.2.1 hwf ((neg0 (by omega)).trans ⟨fun e => by omega, fun e => by omega⟩) (fun n h8 h9 => by rw [nI_neg (z := (vw A s).length) (by omega) h8]; exact congrArg nI (by omega))
  refine ⟨S2, ?_, z2⟩
  unfold f_X4_removeGoing
  have e1 : gmin (nI (vw A s).length) (nI 24) = nI (vw A s).length := by
    unfold gmin
    rw [if_neg (nI_nlt (by omega) (by omega))]
  simp only [gtk_at hv.1, hv.2.2.2.1, Option.bind_some, gfR_at p1, p4, gal_at p8, p9, e1]
  rw [n_0, y1, z1]
  rfl
end CGo
