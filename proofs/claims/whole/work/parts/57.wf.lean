/-! what holds of the state holds behind a change -/
theorem isC2_cl {A : AS} : ∀ (l : List Nat) (o : Option Nat), isC2 A o l → ∀ q ∈ l, ∀ r, pA (ptA A q) = some r → r ∈ l := by
  intro l
  induction l with
  | nil => intro o _ q hq; cases hq
  | cons p l ih =>
    intro o h q hq r hr
    obtain ⟨-, h2⟩ := h
    rcases List.mem_cons.mp hq with rfl | hq
    · rw [hr] at h2
      cases l with
      | nil => cases h2
      | cons x l => obtain ⟨e, -⟩ := h2; cases e; exact List.mem_cons_of_mem _ List.mem_cons_self
    · exact List.mem_cons_of_mem _ (ih _ h2 q hq r hr)
theorem isC2_hd {A : AS} {l : List Nat} {p : Nat} (h : isC2 A (some p) l) : p ∈ l := by
  cases l with
  | nil => cases h
  | cons x l => obtain ⟨e, -⟩ := h; cases e; exact List.mem_cons_self
theorem chA_in {A : AS} {j p : Nat} {o : Option Nat} (hC : wC A) (ho : okP A j o) : (∀ q ∈ chA A o, q < npA A ∧ pG (ptA A q) = false ∧ pL (ptA A q) = j) ∧ (∀ q ∈ chA A o, ∀ r, pA (ptA A q) = some r → r ∈ chA A o) ∧ (o = some p → p ∈ chA A o) := by
  obtain ⟨i1, i2, i3, i4⟩ := chn_is hC (npA A) o ho (fun p hp => (ho p hp).1)
  exact ⟨fun q hq => (i2 q hq).2, isC2_cl _ _ i1, fun e => by subst e; exact isC2_hd i1⟩
theorem let_p {A : AS} {j p : Nat} {o : Option Nat} : ptA (aLet A j o) p = (pL (ptA A p), pA (ptA A p), pF (ptA A p), pZ (ptA A p), goP A j o p) := rfl
theorem let_s {A : AS} {j s : Nat} {o : Option Nat} : slA (aLet A j o) s = if goS A j o s = true then nil0 else slA A s := rfl
theorem goP_f {A : AS} {j p : Nat} {o : Option Nat} : goP A j o p = false ↔ pG (ptA A p) = false ∧ (pL (ptA A p) = j → p ∈ chA A o) := by
  unfold goP
  simp only [Bool.or_eq_false_iff, Bool.and_eq_false_iff, decide_eq_false_iff_not, Classical.not_not]
  refine and_congr_right fun _ => ⟨fun h e => h.elim (fun n => absurd e n) id, fun h => ?_⟩
  by_cases e : pL (ptA A p) = j
  · exact Or.inr (h e)
  · exact Or.inl e
theorem WF_let {B : AS} {j : Nat} {o : Option Nat} (hj : j < 2) (hC : wC B) (ho : okP B j o)
    (h1 : ∀ j, j < 4 → (rwA B j).length ≤ 24 ∧ ∀ t ∈ rwA B j, inB t) (h2 : ∀ s, s < 12 → sK (slA B s) ≠ 45 → wSl B (slA B s)) (h3 : ∀ s, s < 12 → isC (slA B s) = true → sK (slA B s) ≠ 101 → inB (0, sY (slA B s), sM (slA B s)))
    (h4 : slA B 0 = (108, 0, none, 0, 0, true) ∧ slA B 1 = (108, 1, none, 0, 0, true) ∧ slA B 2 = (109, 2, none, 0, 0, true) ∧ slA B 3 = (109, 3, none, 0, 0, true)) (h5 : ∀ s, 4 ≤ s → s < 12 → sK (slA B s) ≠ 108 ∧ sK (slA B s) ≠ 109)
    (h6 : ∀ p, p < npA B → (pL (ptA B p) = j → p ∈ chA B o) → wPt B p) (h7 : ∀ j, 2 ≤ j → j < 4 → ((rwA B j).map fun t => t.1).Nodup) (h8 : ((rwA B 3).map fun t => t.1.toInt).Pairwise (· < ·)) : WF (aLet B j o) := by
  obtain ⟨i1, i2, i3⟩ := chA_in (p := 0) hC ho
  have hsl : ∀ s, s < 12 → slA (aLet B j o) s = nil0 ∨ (slA (aLet B j o) s = slA B s ∧ (4 ≤ s → sK (slA B s) ≠ 45 → ∀ p, sP (slA B s) = some p → goP B j o p = false)) := fun s _ => by
    rw [let_s]
    by_cases g : goS B j o s = true
    · exact Or.inl (if_pos g)
    · refine Or.inr ⟨if_neg g, fun h4 hk p hp => ?_⟩
      unfold goS at g
      rw [hp] at g
      simpa [h4, hk] using g
  have hs4 : ∀ s, s < 4 → slA (aLet B j o) s = slA B s := fun s hs => by
    rw [let_s, if_neg]
    unfold goS
    simp only [Bool.and_eq_true, decide_eq_true_eq]
    intro g
    omega
  refine ⟨h1, fun s hs hk => ?_, fun s hs hc hk => ?_, ⟨by rw [hs4 0 (by omega)]; exact h4.1, by rw [hs4 1 (by omega)]; exact h4.2.1, by rw [hs4 2 (by omega)]; exact h4.2.2.1, by rw [hs4 3 (by omega)]; exact h4.2.2.2⟩, fun s hs hs2 => ?_, fun p hp hg => ?_, h7, h8⟩
  · rcases hsl s hs with e | ⟨e, g⟩
    · rw [e] at hk; exact absurd rfl hk
    · rw [e] at hk ⊢
      obtain ⟨v1, v2, v3, v4, v5, v6, v7, v8, v9⟩ := h2 s hs hk
      refine ⟨v1, fun hc => ⟨(v2 hc).1, fun p hp => ?_⟩, v3, v4, v5, v6, v7, v8, v9⟩
      obtain ⟨w1, w2, w3, w4⟩ := (v2 hc).2 p hp
      refine ⟨w1, ?_, w3, w4⟩
      by_cases h4' : 4 ≤ s
      · exact g h4' hk p hp
      · exfalso
        have : s = 0 ∨ s = 1 ∨ s = 2 ∨ s = 3 := by omega
        rcases this with rfl | rfl | rfl | rfl
        · rw [h4.1] at hp; cases hp
        · rw [h4.2.1] at hp; cases hp
        · rw [h4.2.2.1] at hp; cases hp
        · rw [h4.2.2.2] at hp; cases hp
  · rcases hsl s hs with e | ⟨e, g⟩
    · rw [e] at hc; exact absurd hc (by decide)
    · rw [e] at hc hk ⊢; exact h3 s hs hc hk
  · rcases hsl s hs2 with e | ⟨e, g⟩
    · rw [e]; decide
    · rw [e]; exact h5 s hs hs2
  · have hg : goP B j o p = false := hg
    obtain ⟨g1, g2⟩ := goP_f.mp hg
    obtain ⟨w1, w2, w3⟩ := h6 p hp g2 g1
    refine ⟨w1, w2, fun q hq => ?_⟩
    obtain ⟨x1, x2, x3, x4, x5⟩ := w3 q hq
    refine ⟨x1, goP_f.mpr ⟨x2, fun e => ?_⟩, x3, x4, x5⟩
    have hpj : pL (ptA B p) = j := by omega
    exact i2 p (g2 hpj) q hq
/-- a list's or part's things become others -/
def rowC (A : AS) (s : Nat) (V : List Tr) : AS := aSetR A (sR (slA A s)) (spl (rwA A (sR (slA A s))) (fsA A (slA A s)) (vw A s).length V)
def chgA (A : AS) (s : Nat) (V : List Tr) : AS := chgP (rowC A s V) (sR (slA A s)) (sP (slA A s)) (vw A s).length V.length
/-- facts of a slot that holds a list or a part of one -/
theorem lst_facts {A : AS} {s : Nat} (hw : WF A) (hs : s < 12) (hk : sK (slA A s) = 108 ∨ sK (slA A s) = 112 ∨ sK (slA A s) = 102) :
    sR (slA A s) < 2 ∧ isC (slA A s) = false ∧ okP A (sR (slA A s)) (sP (slA A s)) ∧ fsA A (slA A s) + (vw A s).length ≤ (rwA A (sR (slA A s))).length ∧ vw A s = viw (rwA A (sR (slA A s))) (fsA A (slA A s)) (vw A s).length ∧
    (∀ p, sP (slA A s) = some p → fsA A (slA A s) = pF (ptA A p) ∧ (vw A s).length = pZ (ptA A p)) ∧ (sP (slA A s) = none → fsA A (slA A s) = 0 ∧ vw A s = rwA A (sR (slA A s))) ∧
    (∀ q ∈ chA A (sP (slA A s)), (vw A s).length ≤ pZ (ptA A q) ∧ pF (ptA A q) ≤ fsA A (slA A s) ∧ fsA A (slA A s) + (vw A s).length ≤ pF (ptA A q) + pZ (ptA A q)) := by
  have hk45 : sK (slA A s) ≠ 45 := by rcases hk with h | h | h <;> (rw [h]; decide)
  have hC : isC (slA A s) = false := isC_no (by rcases hk with h | h | h <;> simp [h])
  obtain ⟨v1, v2, v3, v4, -⟩ := hw.2.1 s hs hk45
  have hj := v4 hk
  have ho : okP A (sR (slA A s)) (sP (slA A s)) := fun p hp => by obtain ⟨g1, g2, g3, -⟩ := (v2 hC).2 p hp; exact ⟨g1, g2, g3⟩
  have hz : fsA A (slA A s) + szA A (slA A s) ≤ (rwA A (sR (slA A s))).length := by
    unfold fsA szA
    cases hp : sP (slA A s) with
    | none => simp
    | some p =>
      obtain ⟨g1, g2, g3⟩ := ho p hp
      have := (hw.2.2.2.2.2.1 p g1 g2).2.1
      rw [g3] at this
      exact this
  have hv : vw A s = viw (rwA A (sR (slA A s))) (fsA A (slA A s)) (szA A (slA A s)) := by unfold vw vwA; rw [hC]; rfl
  have hl : (vw A s).length = szA A (slA A s) := by rw [hv, viw_len hz]
  have hP : ∀ p, sP (slA A s) = some p → fsA A (slA A s) = pF (ptA A p) ∧ (vw A s).length = pZ (ptA A p) := fun p hp => by
    rw [hl]
    unfold fsA szA
    rw [hp]
    exact ⟨rfl, rfl⟩
  refine ⟨hj, hC, ho, by rw [hl]; exact hz, by rw [hl]; exact hv, hP, fun hp => ?_, fun q hq => ?_⟩
  · have e1 : fsA A (slA A s) = 0 := by unfold fsA; rw [hp]
    have e2 : szA A (slA A s) = (rwA A (sR (slA A s))).length := by unfold szA; rw [hp]
    exact ⟨e1, by rw [hv, e1, e2, viw_all]⟩
  · cases hp : sP (slA A s) with
    | none => rw [hp] at hq; unfold chA at hq; cases hn : npA A <;> rw [hn] at hq <;> cases hq
    | some p =>
      obtain ⟨e1, e2⟩ := hP p hp
      obtain ⟨g1, g2, g3⟩ := ho p hp
      rw [hp] at hq
      obtain ⟨y1, y2, y3, y4, y5, y6, -⟩ := (chn_facts hw.2.2.2.2.2.1 (npA A) p g1 g2 g1).1 q hq
      omega
theorem chA_row {A : AS} {j : Nat} {L : List Tr} {o : Option Nat} : chA (aSetR A j L) o = chA A o := chn_same (A := A) (B := aSetR A j L) (fun _ => rfl) _ _
theorem chA_szs {A : AS} {za zc : Nat} {o o' : Option Nat} : chA (aSzs A o za zc) o' = chA A o' := chn_same (A := A) (B := aSzs A o za zc) (fun _ => szs_p.2.1) _ _
theorem mem_spl {L M : List Tr} {f z : Nat} {t : Tr} (h : t ∈ spl L f z M) : t ∈ L ∨ t ∈ M := by
  unfold spl at h
  simp only [List.mem_append] at h
  rcases h with (h | h) | h
  · exact Or.inl (List.mem_of_mem_take h)
  · exact Or.inr h
  · exact Or.inl (List.mem_of_mem_drop h)
/-- behind 'sort' -/
def srtA (A : AS) (s : Nat) (V : List Tr) : AS := aLet (rowC A s V) (sR (slA A s)) (sP (slA A s))
theorem WF_row {A : AS} {s : Nat} {V : List Tr} (hw : WF A) (hs : s < 12) (hk : sK (slA A s) = 108 ∨ sK (slA A s) = 112) (hV : ∀ t ∈ V, inB t) (hl : (rwA A (sR (slA A s))).length - (vw A s).length + V.length ≤ 24) :
    (∀ j, j < 4 → (rwA (rowC A s V) j).length ≤ 24 ∧ ∀ t ∈ rwA (rowC A s V) j, inB t) ∧ (∀ j, 2 ≤ j → j < 4 → ((rwA (rowC A s V) j).map fun t => t.1).Nodup) ∧ ((rwA (rowC A s V) 3).map fun t => t.1.toInt).Pairwise (· < ·) ∧ (rwA (rowC A s V) (sR (slA A s))).length = (rwA A (sR (slA A s))).length - (vw A s).length + V.length ∧ ∀ j, j ≠ sR (slA A s) → rwA (rowC A s V) j = rwA A j := by
  obtain ⟨l1, l2, l3, l4, l5, l6, l7, l8⟩ := lst_facts hw hs (by rcases hk with h | h; exact Or.inl h; exact Or.inr (Or.inl h))
  have e0 : ∀ j, rwA (rowC A s V) j = if j = sR (slA A s) then spl (rwA A (sR (slA A s))) (fsA A (slA A s)) (vw A s).length V else rwA A j := fun j => rfl
  have ne : ∀ j, j ≠ sR (slA A s) → rwA (rowC A s V) j = rwA A j := fun j hj => by rw [e0, if_neg hj]
  have eq : rwA (rowC A s V) (sR (slA A s)) = spl (rwA A (sR (slA A s))) (fsA A (slA A s)) (vw A s).length V := by rw [e0, if_pos rfl]
  refine ⟨fun j hj => ?_, fun j h1 h2 => by rw [ne j (by omega)]; exact hw.2.2.2.2.2.2.1 j h1 h2, by rw [ne 3 (by omega)]; exact hw.2.2.2.2.2.2.2, by rw [eq, spl_len l4], ne⟩
  by_cases e : j = sR (slA A s)
  · subst e
    rw [eq, spl_len l4]
    refine ⟨hl, fun t ht => ?_⟩
    rcases mem_spl ht with h | h
    · exact (hw.1 _ hj).2 t h
    · exact hV t h
  · rw [ne j e]; exact hw.1 j hj
theorem WF_srt {A : AS} {s : Nat} {V : List Tr} (hw : WF A) (hs : s < 12) (hk : sK (slA A s) = 108 ∨ sK (slA A s) = 112) (hV : ∀ t ∈ V, inB t) (hl : V.length = (vw A s).length) : WF (srtA A s V) := by
  obtain ⟨l1, l2, l3, l4, l5, l6, l7, l8⟩ := lst_facts hw hs (by rcases hk with h | h; exact Or.inl h; exact Or.inr (Or.inl h))
  obtain ⟨r1, r2, r3, r4, r5⟩ := WF_row (V := V) hw hs hk hV (by have := (hw.1 _ (show sR (slA A s) < 4 by omega)).1; omega)
  refine WF_let l1 hw.wC l3 r1 hw.2.1 hw.2.2.1 hw.2.2.2.1 hw.2.2.2.2.1 (fun p hp _ hg => ?_) r2 r3
  obtain ⟨w1, w2, w3⟩ := hw.2.2.2.2.2.1 p hp hg
  refine ⟨w1, ?_, w3⟩
  show pF (ptA A p) + pZ (ptA A p) ≤ (rwA (rowC A s V) (pL (ptA A p))).length
  by_cases e : pL (ptA A p) = sR (slA A s)
  · rw [e] at w2 ⊢; rw [r4]; omega
  · rw [r5 _ e]; exact w2
theorem WF_chg {A : AS} {s : Nat} {V : List Tr} (hw : WF A) (hs : s < 12) (hk : sK (slA A s) = 108 ∨ sK (slA A s) = 112) (hV : ∀ t ∈ V, inB t) (hl : (rwA A (sR (slA A s))).length - (vw A s).length + V.length ≤ 24) : WF (chgA A s V) := by
  obtain ⟨l1, l2, l3, l4, l5, l6, l7, l8⟩ := lst_facts hw hs (by rcases hk with h | h; exact Or.inl h; exact Or.inr (Or.inl h))
  obtain ⟨r1, r2, r3, r4, r5⟩ := WF_row (V := V) hw hs hk hV hl
  unfold chgA chgP
  by_cases hz : (vw A s).length = V.length
  · rw [if_pos hz]
    refine ⟨r1, hw.2.1, hw.2.2.1, hw.2.2.2.1, hw.2.2.2.2.1, fun p hp hg => ?_, r2, r3⟩
    obtain ⟨w1, w2, w3⟩ := hw.2.2.2.2.2.1 p hp hg
    refine ⟨w1, ?_, w3⟩
    show pF (ptA A p) + pZ (ptA A p) ≤ (rwA (rowC A s V) (pL (ptA A p))).length
    by_cases e : pL (ptA A p) = sR (slA A s)
    · rw [e] at w2 ⊢; rw [r4]; omega
    · rw [r5 _ e]; exact w2
  · rw [if_neg hz]
    have hC : wC (aSzs (rowC A s V) (sP (slA A s)) (vw A s).length V.length) := fun p hp hg q hq => by
      obtain ⟨e1, e2, e3, e4, -⟩ := szs_p (A := rowC A s V) (o := sP (slA A s)) (za := (vw A s).length) (zc := V.length) (p := p)
      rw [e2] at hq
      rw [e4] at hg
      obtain ⟨f1, -, -, f4, -⟩ := szs_p (A := rowC A s V) (o := sP (slA A s)) (za := (vw A s).length) (zc := V.length) (p := q)
      rw [f4, f1, e1]
      exact hw.wC p hp hg q hq
    have ho : okP (aSzs (rowC A s V) (sP (slA A s)) (vw A s).length V.length) (sR (slA A s)) (sP (slA A s)) := fun p hp => by
      obtain ⟨e1, e2, e3, e4, -⟩ := szs_p (A := rowC A s V) (o := sP (slA A s)) (za := (vw A s).length) (zc := V.length) (p := p)
      rw [e4, e1]
      exact l3 p hp
    refine WF_let l1 hC ho r1 (fun s' hs' hk' => ?_) hw.2.2.1 hw.2.2.2.1 hw.2.2.2.2.1 (fun p hp hst hg => ?_) r2 r3
    · obtain ⟨v1, v2, v3⟩ := hw.2.1 s' hs' hk'
      refine ⟨v1, fun hc => ⟨(v2 hc).1, fun p hp => ?_⟩, v3⟩
      obtain ⟨e1, e2, e3, e4, -⟩ := szs_p (A := rowC A s V) (o := sP (slA A s)) (za := (vw A s).length) (zc := V.length) (p := p)
      rw [e1, e4]
      exact (v2 hc).2 p hp
    · obtain ⟨e1, e2, e3, e4, e5⟩ := szs_p (A := rowC A s V) (o := sP (slA A s)) (za := (vw A s).length) (zc := V.length) (p := p)
      rw [e4] at hg
      have hg : pG (ptA A p) = false := hg
      rw [chA_szs, e1] at hst
      have hchr : chA (rowC A s V) (sP (slA A s)) = chA A (sP (slA A s)) := chA_row
      rw [hchr] at hst e5
      obtain ⟨w1, w2, w3⟩ := hw.2.2.2.2.2.1 p hp hg
      obtain ⟨c1, c2, -⟩ := chA_in (p := 0) hw.wC l3
      rw [e1, e3, e2, e5]
      refine ⟨w1, ?_, fun q hq => ?_⟩
      · show pF (ptA A p) + _ ≤ (rwA (rowC A s V) (pL (ptA A p))).length
        by_cases e : pL (ptA A p) = sR (slA A s)
        · have hm := hst e
          rw [if_pos hm]
          obtain ⟨x1, x2, x3⟩ := l8 p hm
          rw [e] at w2 ⊢
          rw [r4]
          show pF (ptA A p) + (pZ (ptA A p) + V.length - (vw A s).length) ≤ _
          omega
        · rw [if_neg (fun hm => e (c1 p hm).2.2), r5 _ e]; exact w2
      · obtain ⟨y1, y2, y3, y4, y5⟩ := w3 q hq
        obtain ⟨f1, f2, f3, f4, f5⟩ := szs_p (A := rowC A s V) (o := sP (slA A s)) (za := (vw A s).length) (zc := V.length) (p := q)
        rw [hchr] at f5
        rw [f4, f1, f3, f5]
        refine ⟨y1, y2, y3, y4, ?_⟩
        show pF (ptA A p) + _ ≤ pF (ptA A q) + _
        by_cases e : pL (ptA A p) = sR (slA A s)
        · have hm := hst e
          have hmq := c2 p hm q hq
          rw [if_pos hm, if_pos hmq]
          obtain ⟨x1, x2, x3⟩ := l8 p hm
          obtain ⟨z1, z2, z3⟩ := l8 q hmq
          show pF (ptA A p) + (pZ (ptA A p) + V.length - (vw A s).length) ≤ pF (ptA A q) + (pZ (ptA A q) + V.length - (vw A s).length)
          omega
        · rw [if_neg (fun hm => e (c1 p hm).2.2), if_neg (fun hm => e (by have := (c1 q hm).2.2; omega))]
          exact y5
/-- the changed one is seen as it should be -/
theorem vw_chg {A : AS} {s : Nat} {V : List Tr} (hw : WF A) (hs : s < 12) (hk : sK (slA A s) = 108 ∨ sK (slA A s) = 112) : slA (chgA A s V) s = slA A s ∧ vw (chgA A s V) s = V := by
  obtain ⟨l1, l2, l3, l4, l5, l6, l7, l8⟩ := lst_facts hw hs (by rcases hk with h | h; exact Or.inl h; exact Or.inr (Or.inl h))
  have eq : rwA (rowC A s V) (sR (slA A s)) = spl (rwA A (sR (slA A s))) (fsA A (slA A s)) (vw A s).length V := by
    show (if sR (slA A s) = sR (slA A s) then _ else _) = _
    rw [if_pos rfl]
  have key : ∀ B : AS, slA B s = slA A s → rwA B (sR (slA A s)) = rwA (rowC A s V) (sR (slA A s)) → (∀ p, sP (slA A s) = some p → pF (ptA B p) = pF (ptA A p) ∧ pZ (ptA B p) = V.length) → vw B s = V := by
    intro B b1 b2 b3
    unfold vw vwA
    rw [b1, l2]
    simp only [Bool.false_eq_true, if_false]
    rw [b2, eq]
    cases hp : sP (slA A s) with
    | none =>
      obtain ⟨e1, e2⟩ := l7 hp
      have f1 : fsA B (slA A s) = 0 := by unfold fsA; rw [hp]
      have f2 : szA B (slA A s) = (rwA B (sR (slA A s))).length := by unfold szA; rw [hp]
      have hrow : spl (rwA A (sR (slA A s))) (fsA A (slA A s)) (vw A s).length V = V := by rw [e1, e2]; exact spl_all
      rw [f1, f2, b2, eq, hrow]
      exact viw_all
    | some p =>
      obtain ⟨e1, e2⟩ := l6 p hp
      obtain ⟨g1, g2⟩ := b3 p hp
      have f1 : fsA B (slA A s) = fsA A (slA A s) := by rw [e1, ← g1]; unfold fsA; rw [hp]
      have f2 : szA B (slA A s) = V.length := by rw [← g2]; unfold szA; rw [hp]
      rw [f1, f2]
      exact spl_viw l4
  unfold chgA chgP
  by_cases hz : (vw A s).length = V.length
  · rw [if_pos hz]
    exact ⟨rfl, key _ rfl rfl (fun p hp => ⟨rfl, by rw [← hz]; exact ((l6 p hp).2).symm⟩)⟩
  · rw [if_neg hz]
    have hgo : goS (aSzs (rowC A s V) (sP (slA A s)) (vw A s).length V.length) (sR (slA A s)) (sP (slA A s)) s = false := by
      unfold goS
      show ((decide (4 ≤ s) && decide (sK (slA A s) ≠ 45)) && match sP (slA A s) with | none => false | some p => goP _ _ _ p) = false
      cases hp : sP (slA A s) with
      | none => simp
      | some p =>
        obtain ⟨g1, g2, g3⟩ := l3 p hp
        have : goP (aSzs (rowC A s V) (some p) (vw A s).length V.length) (sR (slA A s)) (some p) p = false := by
          refine goP_f.mpr ⟨?_, fun _ => ?_⟩
          · rw [szs_p.2.2.2.1]; exact g2
          · rw [chA_szs]
            show p ∈ chA (rowC A s V) (some p)
            have : chA (rowC A s V) (some p) = chA A (some p) := chA_row
            rw [this]
            rw [hp] at l3
            exact (chA_in (p := p) hw.wC l3).2.2 rfl
        simp [this]
    have e1 : slA (aLet (aSzs (rowC A s V) (sP (slA A s)) (vw A s).length V.length) (sR (slA A s)) (sP (slA A s))) s = slA A s := by
      rw [let_s, hgo]
      rfl
    refine ⟨e1, key _ e1 rfl fun p hp => ?_⟩
    have hin : p ∈ chA (rowC A s V) (sP (slA A s)) := by
      have : chA (rowC A s V) (sP (slA A s)) = chA A (sP (slA A s)) := chA_row
      rw [this]
      exact (chA_in (p := p) hw.wC l3).2.2 hp
    obtain ⟨f1, f2, f3, f4, f5⟩ := szs_p (A := rowC A s V) (o := sP (slA A s)) (za := (vw A s).length) (zc := V.length) (p := p)
    rw [if_pos hin] at f5
    have hz2 : pZ (ptA A p) = (vw A s).length := ((l6 p hp).2).symm
    refine ⟨f3, f5.trans ?_⟩
    show pZ (ptA A p) + V.length - (vw A s).length = V.length
    omega
