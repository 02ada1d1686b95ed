/-! changes that put each thing's follower in its place; maps -/
theorem cSt.uniq {S : GS} {st : Nat} {L M : List Tr} (h : cSt S st L) (g : cSt S st M) : L = M := by
  obtain ⟨-, h2, h3, h4⟩ := h
  obtain ⟨-, g2, g3, g4⟩ := g
  have hl : L.length = M.length := (nI_eq (by omega) (by omega)).mp (h2.symm.trans g2)
  exact tl_ext hl fun i hi => (h4 i hi).symm.trans (g4 i (by omega))
theorem cPn.row {S : GS} {a st f : Nat} {kd : Int32} {V R : List Tr} (h : cPn S a kd V (some st) f) (hR : cSt S st R) : f + V.length ≤ R.length ∧ V = viw R f V.length := by
  obtain ⟨-, -, -, -, h5⟩ := h
  obtain ⟨R', g1, g2, g3, -⟩ := h5 st rfl
  have := g1.uniq hR
  subst this
  exact ⟨g2, g3⟩
theorem cPn.upd {S S' : GS} {a st f : Nat} {kd : Int32} {V W R : List Tr} (h : cPn S a kd V (some st) f) (hR : cSt S st R) (hr : cFr st S S') (hR' : cSt S' st (spl R f V.length W)) (hl : W.length = V.length) : cPn S' a kd W (some st) f := by
  obtain ⟨r1, r2⟩ := h.row hR
  obtain ⟨h1, h2, h3, h4, h5⟩ := h
  obtain ⟨R', g1, g2, g3, g4⟩ := h5 st rfl
  have := g1.uniq hR
  subst this
  have ho := fun a k h4 h11 => hr.out (a := a) (k := k) hR.1 h4 h11
  have hlen := spl_len (M := W) g2
  refine ⟨by rw [hr.2.1]; exact h1, by rw [ho _ _ (by omega) (by omega)]; exact h2, by rw [hr.1]; exact h3, (fun e => by cases e), fun st' e => ?_⟩
  cases e
  refine ⟨_, hR', by omega, ?_, ?_⟩
  · exact (spl_viw (L := R') (M := W) g2).symm
  · rcases g4 with ⟨q1, q2, q3⟩ | ⟨q, q1, q2, q3, q4⟩
    · exact Or.inl ⟨by rw [hr.1]; exact q1, q2, by omega⟩
    · exact Or.inr ⟨q, by rw [hr.1]; exact q1, by rw [hr.2.1]; exact q2, by rw [ho _ _ (by omega) (by omega)]; exact q3, by rw [ho _ _ (by omega) (by omega), hl]; exact q4⟩
def mpL (g : Tr → Tr) : Nat → Nat → List Tr → List Tr
  | 0, _, V => V
  | d + 1, i, V => mpL g d (i + 1) (V.set i (g (V.getD i tz)))
theorem mpL_len {g : Tr → Tr} : ∀ (d i : Nat) (V : List Tr), (mpL g d i V).length = V.length := by
  intro d
  induction d with
  | zero => intro i V; rfl
  | succ d ih => intro i V; rw [mpL, ih, List.length_set]
theorem gd_mpL {g : Tr → Tr} : ∀ (d i k : Nat) (V : List Tr), i + d ≤ V.length → (mpL g d i V).getD k tz = if i ≤ k ∧ k < i + d then g (V.getD k tz) else V.getD k tz := by
  intro d
  induction d with
  | zero => intro i k V h; rw [mpL, if_neg (by omega)]
  | succ d ih =>
    intro i k V h
    rw [mpL, ih _ _ _ (by rw [List.length_set]; omega), gd_set (by omega)]
    by_cases e : k = i
    · rw [if_neg (by omega), if_pos e, if_pos (by omega), e]
    · rw [if_neg e]
      by_cases c : i + 1 ≤ k ∧ k < i + 1 + d
      · rw [if_pos c, if_pos (by omega)]
      · rw [if_neg c, if_neg (by omega)]
theorem mpL_map {g : Tr → Tr} {V : List Tr} : mpL g V.length 0 V = V.map g := by
  refine tl_ext (by rw [mpL_len, List.length_map]) fun k hk => ?_
  rw [mpL_len] at hk
  rw [gd_mpL _ _ _ _ (by omega), if_pos (by omega), gd_eq, gd_eq, List.getElem?_map, List.getElem?_eq_getElem hk]
  rfl
theorem WF.ext {A B : AS} (h : WF A) (e1 : ∀ j, j < 4 → rwA B j = rwA A j) (e2 : ∀ s, s < 12 → slA B s = slA A s) (e3 : npA B = npA A) (e4 : ∀ p, p < npA A → ptA B p = ptA A p) : WF B := by
  obtain ⟨w1, w2, w3, w4, w5, w6, w7, w8⟩ := h
  refine ⟨fun j hj => by rw [e1 j hj]; exact w1 j hj, fun s hs hk => ?_, fun s hs => by rw [e2 s hs]; exact w3 s hs, by rw [e2 0 (by omega), e2 1 (by omega), e2 2 (by omega), e2 3 (by omega)]; exact w4, fun s h1 h2 => by rw [e2 s h2]; exact w5 s h1 h2, fun p hp hg => ?_, fun j h1 h2 => by rw [e1 j h2]; exact w7 j h1 h2, by rw [e1 3 (by omega)]; exact w8⟩
  · rw [e2 s hs] at hk ⊢
    obtain ⟨v1, v2, v3⟩ := w2 s hs hk
    refine ⟨v1, fun hc => ⟨(v2 hc).1, fun p hp => ?_⟩, v3⟩
    obtain ⟨x1, x2, x3⟩ := (v2 hc).2 p hp
    rw [e3, e4 p x1]
    exact ⟨x1, x2, x3⟩
  · rw [e3] at hp
    rw [e4 p hp] at hg ⊢
    obtain ⟨x1, x2, x3⟩ := w6 p hp hg
    refine ⟨x1, by rw [e1 _ (by omega)]; exact x2, fun q hq => ?_⟩
    obtain ⟨y1, y2⟩ := x3 q hq
    rw [e4 q (by omega)]
    exact ⟨y1, y2⟩
/-- facts of a slot that looks on a map -/
theorem map_facts {A : AS} {s : Nat} (hw : WF A) (hs : s < 12) (hk : sK (slA A s) = 109 ∨ sK (slA A s) = 70 ∨ sK (slA A s) = 107 ∨ sK (slA A s) = 118) :
    2 ≤ sR (slA A s) ∧ sR (slA A s) < 4 ∧ isC (slA A s) = false ∧ sP (slA A s) = none ∧ fsA A (slA A s) = 0 ∧ vw A s = rwA A (sR (slA A s)) := by
  have hk45 : sK (slA A s) ≠ 45 := by rcases hk with h | h | h | h <;> (rw [h]; decide)
  have hC : isC (slA A s) = false := by
    unfold isC
    rcases hk with h | h | h | h <;> (rw [h]; decide)
  obtain ⟨v1, v2, v3, v4, v5, -⟩ := hw.2.1 s hs hk45
  obtain ⟨w1, w2⟩ := v5 hk
  have e1 : fsA A (slA A s) = 0 := by unfold fsA; rw [w2]
  have e2 : szA A (slA A s) = (rwA A (sR (slA A s))).length := by unfold szA; rw [w2]
  refine ⟨w1, (v2 hC).1, hC, w2, e1, ?_⟩
  unfold vw vwA
  rw [hC, e1, e2]
  exact viw_all
theorem chgM_ext {A : AS} {s : Nat} {V : List Tr} (hw : WF A) (hs : s < 12) (hk : sK (slA A s) = 109 ∨ sK (slA A s) = 70 ∨ sK (slA A s) = 107 ∨ sK (slA A s) = 118) :
    (∀ j, rwA (chgA A s V) j = if j = sR (slA A s) then V else rwA A j) ∧ (∀ s', s' < 12 → slA (chgA A s V) s' = slA A s') ∧ npA (chgA A s V) = npA A ∧ ∀ p, p < npA A → ptA (chgA A s V) p = ptA A p := by
  obtain ⟨l1, l2, l3, l4, l5, l6⟩ := map_facts hw hs hk
  have er : ∀ j, rwA (rowC A s V) j = if j = sR (slA A s) then V else rwA A j := fun j => by
    show (if j = sR (slA A s) then spl _ _ _ V else rwA A j) = _
    rw [l5, l6, spl_all]
  unfold chgA chgP
  by_cases h : (vw A s).length = V.length
  · rw [if_pos h]
    exact ⟨er, fun _ _ => rfl, rfl, fun _ _ => rfl⟩
  · rw [if_neg h, l4]
    have hz : ∀ p, ptA (aSzs (rowC A s V) none (vw A s).length V.length) p = ptA A p := fun p => by
      show (if p ∈ chA (rowC A s V) none then _ else ptA A p) = _
      rw [if_neg]
      unfold chA
      cases npA (rowC A s V) <;> exact List.not_mem_nil
    have hg : ∀ p, p < npA A → goP (aSzs (rowC A s V) none (vw A s).length V.length) (sR (slA A s)) none p = pG (ptA A p) := fun p hp => by
      unfold goP
      rw [hz]
      cases hgp : pG (ptA A p)
      · have := (hw.2.2.2.2.2.1 p hp hgp).1
        rw [decide_eq_false (show ¬ pL (ptA A p) = sR (slA A s) by omega)]
        rfl
      · rfl
    refine ⟨er, fun s' hs' => ?_, rfl, fun p hp => ?_⟩
    · rw [let_s, if_neg]
      · rfl
      · unfold goS
        show ¬ ((decide (4 ≤ s') && decide (sK (slA A s') ≠ 45)) && match sP (slA A s') with | none => false | some p => goP _ _ _ p) = true
        by_cases hk' : sK (slA A s') = 45
        · simp [hk']
        · cases hp : sP (slA A s') with
          | none => simp
          | some p =>
            obtain ⟨x1, x2, -⟩ := hw.wS s' hs' hk' p hp
            simp [hg p x1, x2]
    · rw [let_p, hz, hg p hp]
      rfl
theorem WF_chgM {A : AS} {s : Nat} {V : List Tr} (hw : WF A) (hs : s < 12) (hk : sK (slA A s) = 109 ∨ sK (slA A s) = 70 ∨ sK (slA A s) = 107 ∨ sK (slA A s) = 118) (hV : ∀ t ∈ V, inB t) (hl : V.length ≤ 24)
    (hnd : (V.map fun t => t.1).Nodup) (hso : sR (slA A s) = 3 → (V.map fun t => t.1.toInt).Pairwise (· < ·)) : WF (chgA A s V) := by
  obtain ⟨l1, l2, l3, l4, l5, l6⟩ := map_facts hw hs hk
  obtain ⟨e1, e2, e3, e4⟩ := chgM_ext (V := V) hw hs hk
  have key : WF (aSetR A (sR (slA A s)) V) := by
    obtain ⟨w1, w2, w3, w4, w5, w6, w7, w8⟩ := hw
    refine ⟨fun j hj => ?_, w2, w3, w4, w5, fun p hp hg => ?_, fun j h1 h2 => ?_, ?_⟩
    · rw [rw_set]
      by_cases e : j = sR (slA A s)
      · rw [if_pos e]; exact ⟨hl, hV⟩
      · rw [if_neg e]; exact w1 j hj
    · obtain ⟨x1, x2, x3⟩ := w6 p hp hg
      exact ⟨x1, by rw [rw_set, if_neg (show ¬ pL (ptA (aSetR A (sR (slA A s)) V) p) = sR (slA A s) from fun e => by have : pL (ptA A p) = sR (slA A s) := e; omega)]; exact x2, x3⟩
    · rw [rw_set]
      by_cases e : j = sR (slA A s)
      · rw [if_pos e]; exact hnd
      · rw [if_neg e]; exact w7 j h1 h2
    · rw [rw_set]
      by_cases e : 3 = sR (slA A s)
      · rw [if_pos e]; exact hso e.symm
      · rw [if_neg e]; exact w8
  exact key.ext (fun j _ => e1 j) e2 e3 e4
section CMap
variable {b k hs : Nat} {S : GS} {A : AS}
theorem c_fillL {a st f : Nat} {kd k0 m0 : Int32} : ∀ (d i : Nat) (S : GS) (V R : List Tr) (n : Nat), cPn S a kd V (some st) f → cSt S st R → i + d = V.length → d < n →
    ∃ S', f_X4_fill_L22 b n S k0 m0 (some a) (some st) (nI i) = some (.inl (nI V.length, S')) ∧ cFr st S S' ∧ cSt S' st (spl R f V.length (mpL (fun t => (t.1, k0, m0)) d i V)) := by
  intro d
  induction d with
  | zero =>
    intro i S V R n h hR hi hn
    obtain ⟨n, rfl⟩ : ∃ k, n = k + 1 := ⟨n - 1, by omega⟩
    have hv := h.view
    have h3 := hv.2.2.1
    obtain ⟨r1, r2⟩ := h.row hR
    have q : (V.length ≤ i) = True := eq_true (by omega)
    refine ⟨S, ?_, cFr.rf, ?_⟩
    · rw [f_X4_fill_L22]
      simp (disch := omega) only [gtk_at hv.1, hv.2.2.2.1, Option.bind_some, nI_leI, q, if_true]
    · have : spl R f V.length (mpL (fun t => (t.1, k0, m0)) 0 i V) = R := by
        refine tl_ext (by rw [spl_len r1, mpL_len]; omega) fun k hk => ?_
        rw [gd_spl r1, mpL_len]
        by_cases a : k < f
        · rw [if_pos a]
        · rw [if_neg a]
          by_cases b : k < f + V.length
          · rw [if_pos b, mpL, r2, gd_viw (by omega)]; exact congrArg (fun q => R.getD q tz) (by omega)
          · rw [if_neg b]; exact congrArg (fun q => R.getD q tz) (by omega)
      rw [this]
      exact hR
  | succ d ih =>
    intro i S V R n h hR hi hn
    obtain ⟨n, rfl⟩ : ∃ k, n = k + 1 := ⟨n - 1, by omega⟩
    have hv := h.view
    have h3 := hv.2.2.1
    obtain ⟨r1, r2⟩ := h.row hR
    have q : (V.length ≤ i) = False := eq_false (by omega)
    obtain ⟨S1, q1, q2, q3⟩ := f_lay (i := f + i) (k := k0) (m := m0) hR (by omega)
    have eg : R.getD (f + i) tz = V.getD i tz := by rw [r2, gd_viw (by omega)]
    rw [eg, set_spl r1 (by omega), ← r2] at q2
    have hl : (V.set i ((V.getD i tz).1, k0, m0)).length = V.length := List.length_set
    have h' := h.upd hR q3 q2 hl
    obtain ⟨S2, y1, y2, y3⟩ := ih (i + 1) S1 _ _ n h' q2 (by rw [hl]; omega) (by omega)
    rw [hl] at y1 y3
    have e5 := spl_spl (L := R) (f := f) (z := V.length) (M := V.set i ((V.getD i tz).1, k0, m0)) (N := mpL (fun t => (t.1, k0, m0)) d (i + 1) (V.set i ((V.getD i tz).1, k0, m0))) r1
    rw [hl] at e5
    rw [e5] at y3
    refine ⟨S2, ?_, q3.tr y2, y3⟩
    rw [f_X4_fill_L22]
    simp (disch := omega) only [gtk_at hv.1, hv.2.2.2.1, Option.bind_some, nI_leI, q, if_false, h.first, gtk_at hR.1.1, nI_add, q1, nI_1]
    exact y1
theorem c_raiseL {a st f : Nat} {kd y : Int32} : ∀ (d i : Nat) (S : GS) (V R : List Tr) (n : Nat), cPn S a kd V (some st) f → cSt S st R → i + d = V.length → d < n →
    ∃ S', f_X4_raise_L96 b n S y (some a) (some st) (nI i) = some (.inl (nI V.length, S')) ∧ cFr st S S' ∧ cSt S' st (spl R f V.length (mpL (fun t => (t.1, t.2.1 + y, t.2.2)) d i V)) := by
  intro d
  induction d with
  | zero =>
    intro i S V R n h hR hi hn
    obtain ⟨n, rfl⟩ : ∃ k, n = k + 1 := ⟨n - 1, by omega⟩
    have hv := h.view
    have h3 := hv.2.2.1
    obtain ⟨r1, r2⟩ := h.row hR
    have q : (V.length ≤ i) = True := eq_true (by omega)
    refine ⟨S, ?_, cFr.rf, ?_⟩
    · rw [f_X4_raise_L96]
      simp (disch := omega) only [gtk_at hv.1, hv.2.2.2.1, Option.bind_some, nI_leI, q, if_true]
    · have : spl R f V.length (mpL (fun t => (t.1, t.2.1 + y, t.2.2)) 0 i V) = R := by
        refine tl_ext (by rw [spl_len r1, mpL_len]; omega) fun k hk => ?_
        rw [gd_spl r1, mpL_len]
        by_cases a : k < f
        · rw [if_pos a]
        · rw [if_neg a]
          by_cases b : k < f + V.length
          · rw [if_pos b, mpL, r2, gd_viw (by omega)]; exact congrArg (fun q => R.getD q tz) (by omega)
          · rw [if_neg b]; exact congrArg (fun q => R.getD q tz) (by omega)
      rw [this]
      exact hR
  | succ d ih =>
    intro i S V R n h hR hi hn
    obtain ⟨n, rfl⟩ : ∃ k, n = k + 1 := ⟨n - 1, by omega⟩
    have hv := h.view
    have h3 := hv.2.2.1
    obtain ⟨r1, r2⟩ := h.row hR
    have q : (V.length ≤ i) = False := eq_false (by omega)
    obtain ⟨b1, b2, -⟩ := hv.2.2.2.2 i (by omega)
    obtain ⟨S1, q1, q2, q3⟩ := f_lay (i := f + i) (k := (V.getD i tz).2.1 + y) (m := (V.getD i tz).2.2) hR (by omega)
    have eg : R.getD (f + i) tz = V.getD i tz := by rw [r2, gd_viw (by omega)]
    rw [eg, set_spl r1 (by omega), ← r2] at q2
    have hl : (V.set i ((V.getD i tz).1, (V.getD i tz).2.1 + y, (V.getD i tz).2.2)).length = V.length := List.length_set
    have h' := h.upd hR q3 q2 hl
    obtain ⟨S2, y1, y2, y3⟩ := ih (i + 1) S1 _ _ n h' q2 (by rw [hl]; omega) (by omega)
    rw [hl] at y1 y3
    have e5 := spl_spl (L := R) (f := f) (z := V.length) (M := V.set i ((V.getD i tz).1, (V.getD i tz).2.1 + y, (V.getD i tz).2.2)) (N := mpL (fun t => (t.1, t.2.1 + y, t.2.2)) d (i + 1) (V.set i ((V.getD i tz).1, (V.getD i tz).2.1 + y, (V.getD i tz).2.2))) r1
    rw [hl] at e5
    rw [e5] at y3
    refine ⟨S2, ?_, q3.tr y2, y3⟩
    rw [f_X4_raise_L96]
    simp (disch := omega) only [gtk_at hv.1, hv.2.2.2.1, Option.bind_some, nI_leI, q, if_false, h.first, b1, b2, gtk_at hR.1.1, nI_add, q1, nI_1]
    exact y1
theorem c_raiseC {a st : Nat} {kd y : Int32} {V : List Tr} (hv : cVw S a kd V) : ∀ (l : List Tr) (i n : Nat), V.drop i = l → l.length < n → i ≤ V.length → f_X4_raise_L61 S b n y (some a) (some st) (nI i) = if (l.all fun t => thOk (t.2.1 + y) t.2.2) = true then f_X4_raise_L96 b gN S y (some a) (some st) (nI 0) else some (.inr 4) := by
  have g3 := hv.2.2.1
  intro l
  induction l with
  | nil =>
    intro i n h1 h2 h4
    obtain ⟨n, rfl⟩ : ∃ k, n = k + 1 := ⟨n - 1, by omega⟩
    have q : (V.length ≤ i) = True := eq_true (gd_nil h1)
    rw [f_X4_raise_L61]
    simp (disch := omega) only [gtk_at hv.1, hv.2.2.2.1, Option.bind_some, nI_leI, q, if_true, List.all_nil, nI_0]
  | cons t l ih =>
    intro i n h1 h2 h4
    obtain ⟨n, rfl⟩ : ∃ k, n = k + 1 := ⟨n - 1, by omega⟩
    obtain ⟨a1, a2, a3⟩ := gd_cons h1
    obtain ⟨b1, b2, b3⟩ := hv.2.2.2.2 i a1
    rw [a2] at b1 b2
    have q : (V.length ≤ i) = False := eq_false (by omega)
    rw [f_X4_raise_L61]
    simp (disch := omega) only [gtk_at hv.1, hv.2.2.2.1, Option.bind_some, nI_leI, q, if_false, b1, b2, c_needThing, nI_1, List.all_cons]
    by_cases e : thOk (t.2.1 + y) t.2.2 = true
    rotate_left
    · have e := Bool.eq_false_iff.mpr e
      simp only [e, Bool.false_eq_true, if_false, gth_r, Bool.false_and]
    · simp only [e, if_true, gth_l, Bool.true_and]
      exact ih (i + 1) n a3 (by simp only [List.length_cons] at h2; omega) (by omega)
end CMap
