/-! the checker: numbers, bottoms, pairs -/
theorem pw_gd {α : Type} {R : α → α → Prop} {f : Tr → α} {V : List Tr} (h : (V.map f).Pairwise R) {i j : Nat} (hij : i < j) (hj : j < V.length) : R (f (V.getD i tz)) (f (V.getD j tz)) := by
  rw [List.pairwise_map, List.pairwise_iff_getElem] at h
  have := h i j (by omega) hj hij
  rw [gd_eq, gd_eq, List.getElem?_eq_getElem (by omega), List.getElem?_eq_getElem hj]
  exact this
theorem alk_iff : ∀ (L M : List Tr), alk L M = true ↔ M.length ≤ L.length ∧ ∀ i, i < M.length → isT (M.getD i tz).2.1 (M.getD i tz).2.2 (L.getD i tz) = true := by
  intro L
  induction L with
  | nil =>
    intro M
    cases M with
    | nil => exact ⟨fun _ => ⟨Nat.le_refl _, fun i hi => by have : i < 0 := hi; omega⟩, fun _ => rfl⟩
    | cons u M => exact ⟨fun h => (by cases h), fun h => absurd h.1 (by simp)⟩
  | cons t L ih =>
    intro M
    cases M with
    | nil => exact ⟨fun _ => ⟨Nat.zero_le _, fun i hi => by have : i < 0 := hi; omega⟩, fun _ => rfl⟩
    | cons u M =>
      unfold alk
      by_cases e : isT u.2.1 u.2.2 t = true
      · rw [if_pos e, ih]
        refine ⟨fun ⟨h1, h2⟩ => ⟨by simpa using h1, fun i hi => ?_⟩, fun ⟨h1, h2⟩ => ⟨by simpa using h1, fun i hi => h2 (i + 1) (by simpa using hi)⟩⟩
        cases i with
        | zero => exact e
        | succ i => exact h2 i (by simpa using hi)
      · rw [if_neg e]
        exact ⟨fun h => (by cases h), fun ⟨h1, h2⟩ => absurd (h2 0 (by simp)) e⟩
theorem alk_hash : ∀ (L M : List Tr) (c : Int32), L.length = M.length → alk L M = true → L.foldl hL c = M.foldl hL c := by
  intro L
  induction L with
  | nil =>
    intro M c h _
    cases M with
    | nil => rfl
    | cons u M => simp at h
  | cons t L ih =>
    intro M c h h2
    cases M with
    | nil => simp at h
    | cons u M =>
      unfold alk at h2
      by_cases e : isT u.2.1 u.2.2 t = true
      · rw [if_pos e] at h2
        have he : t.2.1 = u.2.1 ∧ t.2.2 = u.2.2 := by
          unfold isT at e
          simp only [Bool.and_eq_true, beq_iff_eq] at e
          exact e
        have hh : hL c t = hL c u := by unfold hL hsh; rw [he.1, he.2]
        rw [List.foldl_cons, List.foldl_cons, hh]
        exact ih M _ (by simpa using h) h2
      · rw [if_neg e] at h2; cases h2
theorem mL1_mem {W : List Tr} (hn : (W.map fun t => t.1).Nodup) {t : Tr} : mL1 W t = true ↔ t ∈ W := by
  unfold mL1
  constructor
  · intro h
    cases hf : W.find? (fun u => u.1 == t.1) with
    | none => rw [hf] at h; cases h
    | some u =>
      rw [hf] at h
      have h1 := List.find?_some hf
      have h2 := List.mem_of_find?_eq_some hf
      have h3 : u.1 = t.1 := beq_iff_eq.mp h1
      have h : isT u.2.1 u.2.2 t = true := h
      unfold isT at h
      simp only [Bool.and_eq_true, beq_iff_eq] at h
      have : t = u := Prod.ext h3.symm (Prod.ext h.1 h.2)
      rw [this]; exact h2
  · intro h
    cases hf : W.find? (fun u => u.1 == t.1) with
    | none =>
      have := List.find?_eq_none.mp hf t h
      simp at this
    | some u =>
      have h0 := List.find?_some hf
      have h1 : u.1 = t.1 := beq_iff_eq.mp h0
      have h2 := List.mem_of_find?_eq_some hf
      have : u = t := by
        obtain ⟨i, hi, rfl⟩ := List.mem_iff_getElem.mp h2
        obtain ⟨j, hj, rfl⟩ := List.mem_iff_getElem.mp h
        have e : ∀ k (hk : k < W.length), W.getD k tz = W[k] := fun k hk => by rw [gd_eq, List.getElem?_eq_getElem hk]; rfl
        rcases Nat.lt_trichotomy i j with c | c | c
        · have := pw_gd (f := fun t : Tr => t.1) hn c hj
          rw [e i hi, e j hj] at this
          exact absurd h1 this
        · subst c; rfl
        · have := pw_gd (f := fun t : Tr => t.1) hn c hi
          rw [e i hi, e j hj] at this
          exact absurd h1.symm this
      rw [this]
      exact isT_self t
theorem mLk_mem {V W : List Tr} (hn : (W.map fun t => t.1).Nodup) : mLk W V = true ↔ ∀ t ∈ V, t ∈ W := by
  unfold mLk
  rw [List.all_eq_true]
  exact ⟨fun h t ht => (mL1_mem hn).mp (h t ht), fun h t ht => (mL1_mem hn).mpr (h t ht)⟩
theorem sub_perm : ∀ (V W : List Tr), V.Nodup → (∀ t ∈ V, t ∈ W) → V.length = W.length → V.Perm W := by
  intro V
  induction V with
  | nil =>
    intro W _ _ h
    cases W with
    | nil => exact List.Perm.refl _
    | cons u W => simp at h
  | cons t V ih =>
    intro W hn hs hl
    obtain ⟨h1, h2⟩ := List.nodup_cons.mp hn
    have ht := hs t List.mem_cons_self
    have hp := List.perm_cons_erase ht
    refine (List.Perm.cons t (ih (W.erase t) h2 (fun u hu => ?_) ?_)).trans hp.symm
    · have hne : u ≠ t := fun e => h1 (e ▸ hu)
      exact (List.mem_erase_of_ne hne).mpr (hs u (List.mem_cons_of_mem _ hu))
    · rw [List.length_erase_of_mem ht, ← hl]; simp
theorem nodup_of {V : List Tr} (h : (V.map fun t => t.1).Nodup) : V.Nodup := by
  have h : (V.map fun t : Tr => t.1).Pairwise (· ≠ ·) := h
  rw [List.pairwise_map] at h
  exact h.imp (fun {a c} h e => h (by rw [e]))
theorem hM_comm {z : Int32} (x y : Tr) : hM (hM z x) y = hM (hM z y) x := by
  unfold hM
  rw [Int32.add_assoc, Int32.add_assoc, Int32.add_comm (x.1 ^^^ hsh x)]
theorem hM_perm {V W : List Tr} (h : V.Perm W) : ∀ c, V.foldl hM c = W.foldl hM c := by
  induction h with
  | nil => intro c; rfl
  | cons x _ ih => intro c; exact ih _
  | swap x y l => intro c; rw [List.foldl_cons, List.foldl_cons, List.foldl_cons, List.foldl_cons, hM_comm]
  | trans _ _ ih1 ih2 => intro c; exact (ih1 c).trans (ih2 c)
/-- maps alike: both ways, and one digest -/
theorem map_sym {V W : List Tr} (hV : (V.map fun t => t.1).Nodup) (hW : (W.map fun t => t.1).Nodup) : (mLk W V && decide (V.length = W.length)) = (mLk V W && decide (W.length = V.length)) ∧ ((mLk W V && decide (V.length = W.length)) = true → V.foldl hM 0 = W.foldl hM 0) := by
  have key : ∀ {V W : List Tr}, (V.map fun t => t.1).Nodup → (W.map fun t => t.1).Nodup → (mLk W V && decide (V.length = W.length)) = true → V.Perm W := fun {V W} hV hW h => by
    rw [Bool.and_eq_true, decide_eq_true_eq] at h
    exact sub_perm V W (nodup_of hV) ((mLk_mem hW).mp h.1) h.2
  refine ⟨?_, fun h => hM_perm (key hV hW h) 0⟩
  rw [Bool.eq_iff_iff]
  constructor
  · intro h
    have hp := key hV hW h
    rw [Bool.and_eq_true, decide_eq_true_eq]
    exact ⟨(mLk_mem hV).mpr (fun t ht => hp.mem_iff.mpr ht), hp.length_eq.symm⟩
  · intro h
    have hp := key hW hV h
    rw [Bool.and_eq_true, decide_eq_true_eq]
    exact ⟨(mLk_mem hW).mpr (fun t ht => hp.mem_iff.mpr ht), hp.length_eq.symm⟩
section CChk2
variable {b k hs s a : Nat} {pa ch : Nat → Nat} {S : GS} {A : AS}
theorem c_numsSound (c0 : Nat) (h : Rcp b k pa ch S hs A) (hw : WF A) (h5 : has A S b s a) (hk : kLs (kA A s) = false) : f_X0_areNumbersSound S c0 (some a) = some 1 := by
  have hv := h5.view
  have h24 := hv.2.2.1
  have hm : sK (slA A s) = 109 ∨ sK (slA A s) = 70 ∨ sK (slA A s) = 107 ∨ sK (slA A s) = 118 := by
    obtain ⟨v1, v2, v3, -⟩ := hw.2.1 s h5.1 h5.2.1
    have hk : kLs (sK (slA A s)) = false := hk
    rcases v3 with e | e | e | e | e | e | e | e | e | e
    · rw [e] at hk; cases hk
    · rw [e] at hk; cases hk
    · rw [e] at hk; cases hk
    · exact Or.inl e
    · exact Or.inr (Or.inl e)
    · exact Or.inr (Or.inr (Or.inl e))
    · exact Or.inr (Or.inr (Or.inr e))
    · rw [e] at hk; cases hk
    · rw [e] at hk; cases hk
    · rw [e] at hk; cases hk
  obtain ⟨m1, m2, m3, m4, m5, m6⟩ := map_facts hw h5.1 hm
  obtain ⟨g1, g2, g3⟩ := h5.keep h
  rw [m3] at g2
  have g2 : gR S a 2 = some (stB b (sR (slA A s))) := g2
  have hst := h.2.1 _ m2
  have hp : cPn S a (kA A s) (vw A s) (some (stB b (sR (slA A s)))) 0 := by
    have := h5.2.2.2.1
    rw [m3, m5] at this
    exact this
  have hnd : ((vw A s).map fun t => t.1).Nodup := by rw [m6]; exact hw.2.2.2.2.2.2.1 _ m1 m2
  obtain ⟨-, -, n, u2⟩ := lpG0 (F := fun n (_ : Unit) i => f_X0_areNumbersSound_L2 S c0 n (some a) i) (fun i c => True) (vw A s).length (fun n c i hi hI => by
    have q : ((vw A s).length ≤ i) = False := eq_false (by omega)
    obtain ⟨-, -, b3⟩ := hv.2.2.2.2 i hi
    have hf := hp.find (x := ((vw A s).getD i tz).1) (h5.2.2.2.2.2 m4)
    have he : fIdx (fun t => t.1 == ((vw A s).getD i tz).1) (vw A s) 0 = nI i := fIdx_eq (vw A s) 0 i rfl (by omega) hi (beq_self_eq_true _) (fun k _ hk => by
      have := pw_gd (f := fun t : Tr => t.1) hnd hk hi
      exact beq_eq_false_iff_ne.mpr this)
    rw [he] at hf
    refine ⟨(), trivial, ?_⟩
    show f_X0_areNumbersSound_L2 S c0 (n + 1) (some a) (nI i) = _
    by_cases c0 : i = 0
    · subst c0
      have c1 : (nI 0 ≤ 0) = True := by decide
      simp (disch := omega) only [f_X0_areNumbersSound_L2, f_X0_areNumbersSound_b63, gtk_at hv.1, hv.2.2.2.1, Option.bind_some, nI_leI, q, if_false, b3, hv.1, beq_self_eq_true, gck_t, hf, if_true, c1, nI_1]
    · have c1 : (nI i ≤ 0) = False := eq_false (fun z => by
        have := (nI_leI (show i < 2 ^ 31 by omega) (show 0 < 2 ^ 31 by omega)).mp z
        omega)
      by_cases cj : sR (slA A s) = 3
      · have e3 : gI S (stB b (sR (slA A s))) 3 = 1 := by rw [hst.2.1, if_pos cj]
        have em : nI i - 1 = nI (i - 1) := by
          obtain ⟨i, rfl⟩ : ∃ q, i = q + 1 := ⟨i - 1, by omega⟩
          rw [nI_pred]; rfl
        obtain ⟨-, -, b4⟩ := hv.2.2.2.2 (i - 1) (by omega)
        have hlt : ((vw A s).getD (i - 1) tz).1 < ((vw A s).getD i tz).1 := by
          have hpw : ((vw A s).map fun t => t.1.toInt).Pairwise (· < ·) := by rw [m6, cj]; exact hw.2.2.2.2.2.2.2
          have := pw_gd (f := fun t : Tr => t.1.toInt) hpw (show i - 1 < i by omega) hi
          exact Int32.lt_iff_toInt_lt.mpr this
        simp (disch := omega) only [f_X0_areNumbersSound_L2, f_X0_areNumbersSound_b63, gtk_at hv.1, hv.2.2.2.1, Option.bind_some, nI_leI, q, if_false, b3, hv.1, beq_self_eq_true, gck_t, hf, if_true, c1, gfR_at hv.1, g2, reduceCtorEq, gfI_at hst.1.1.1, e3, e1z, em, b4, hlt, nI_1]
      · have e3 : gI S (stB b (sR (slA A s))) 3 = 0 := by rw [hst.2.1, if_neg cj]
        simp (disch := omega) only [f_X0_areNumbersSound_L2, f_X0_areNumbersSound_b63, gtk_at hv.1, hv.2.2.2.1, Option.bind_some, nI_leI, q, if_false, b3, hv.1, beq_self_eq_true, gck_t, hf, if_true, c1, gfR_at hv.1, g2, reduceCtorEq, gfI_at hst.1.1.1, e3, nI_1]) (by omega) () trivial
  unfold f_X0_areNumbersSound
  rw [u2]
  simp only [f_X0_areNumbersSound_L2, gtk_at hv.1, hv.2.2.2.1, Option.bind_some, Int32.le_refl, if_true]
/-- the four that are there from the start -/
theorem four (h : Rcp b k pa ch S hs A) (hw : WF A) {j : Nat} (hj : j < 4) : ∃ c, has A S b j c ∧ gR S (b + 1) j = some c ∧ gR S c 2 = some (stB b j) ∧ vw A j = rwA A j ∧ gT S c = 2 := by
  have hsl : (sK (slA A j) = 108 ∨ sK (slA A j) = 109) ∧ sR (slA A j) = j ∧ sP (slA A j) = none ∧ isC (slA A j) = false := by
    obtain ⟨e0, e1, e2, e3⟩ := hw.2.2.2.1
    have : j = 0 ∨ j = 1 ∨ j = 2 ∨ j = 3 := by omega
    rcases this with rfl | rfl | rfl | rfl
    · rw [e0]; exact ⟨Or.inl rfl, rfl, rfl, rfl⟩
    · rw [e1]; exact ⟨Or.inl rfl, rfl, rfl, rfl⟩
    · rw [e2]; exact ⟨Or.inr rfl, rfl, rfl, rfl⟩
    · rw [e3]; exact ⟨Or.inr rfl, rfl, rfl, rfl⟩
  obtain ⟨q1, q2, q3, q4⟩ := hsl
  rcases c_slot h hw (show j < 12 by omega) with ⟨e, -⟩ | ⟨-, c, g1, g2⟩
  · have e : sK (slA A j) = 45 := e
    rcases q1 with z | z <;> (rw [z] at e; exact absurd e (by decide))
  · obtain ⟨x1, x2, x3⟩ := g1.keep h
    rw [q4, q2] at x2
    refine ⟨c, g1, g2, x2, ?_, x1⟩
    show vwA A (slA A j) = _
    unfold vwA fsA szA
    rw [q4, q2, q3, if_neg (by decide)]
    exact viw_all
theorem c_bottom (h : Rcp b k pa ch S hs A) (hw : WF A) (h5 : has A S b s a) : f_X4_bottomOf S b (some a) = some (if isC (slA A s) = true then none else gR S (b + 1) (sR (slA A s))) := by
  obtain ⟨⟨p1, p2, -⟩, ⟨p6, p7⟩, -⟩ := id h.1
  obtain ⟨g1, g2, g3⟩ := h5.keep h
  have aj : ∀ j, j < 4 → gaR S (some (b + 1)) 14 (nI j) = some (gR S (b + 1) j) := fun j hj => aR p6 (by rw [p7]; omega) (by rw [p7]; omega)
  have len : ∀ L, L ≤ 4 → (∀ j, j < L → gR S a 2 ≠ some (stB b j)) → ∃ n, f_X4_bottomOf_L2 S b gN (some a) 0 = f_X4_bottomOf_L2 S b (n + 1) (some a) (nI L) := fun L hL hne => by
    obtain ⟨-, -, n, u2⟩ := lpG0 (F := fun n (_ : Unit) i => f_X4_bottomOf_L2 S b n (some a) i) (fun i c => True) L (fun n c i hi hI => by
      obtain ⟨c, c1, c2, c3, c4, c5⟩ := four h hw (j := i) (by omega)
      have q : ((4 : Int32) ≤ nI i) = False := by rw [n_4, n_le (by omega) (by omega)]; exact eq_false (by omega)
      have hn : (some (stB b i) = gR S a 2) = False := eq_false (fun z => hne i hi z.symm)
      refine ⟨(), trivial, ?_⟩
      show f_X4_bottomOf_L2 S b (n + 1) (some a) (nI i) = _
      simp (disch := omega) only [f_X4_bottomOf_L2, f_X4_bottomOf_b39, q, if_false, gfR_at p1, p2, Option.bind_some, aj i (by omega), c2, reduceCtorEq, gfR_at c5, c3, gfR_at g1, hn, nI_1]) (by omega) () trivial
    exact ⟨n, u2⟩
  unfold f_X4_bottomOf
  cases hC : isC (slA A s)
  · rw [hC] at g2
    have g2 : gR S a 2 = some (stB b (sR (slA A s))) := g2
    have hr4 := ((hw.2.1 s h5.1 h5.2.1).2.1 hC).1
    obtain ⟨n, u⟩ := len (sR (slA A s)) (by omega) (fun j hj e => by rw [g2] at e; have := Option.some.inj e; unfold stB at this; omega)
    obtain ⟨c, c1, c2, c3, c4, c5⟩ := four h hw (j := sR (slA A s)) hr4
    have q : ((4 : Int32) ≤ nI (sR (slA A s))) = False := by rw [n_4, n_le (by omega) (by omega)]; exact eq_false (by omega)
    rw [u, if_neg (by decide)]
    simp only [f_X4_bottomOf_L2, q, if_false, gfR_at p1, p2, Option.bind_some, aj _ hr4, c2, reduceCtorEq, gfR_at c5, c3, gfR_at g1, g2, if_true]
  · rw [hC] at g2
    have g2 : gR S a 2 = none := g2
    obtain ⟨n, u⟩ := len 4 (Nat.le_refl _) (fun j hj e => by rw [g2] at e; cases e)
    have q : ((4 : Int32) ≤ nI 4) = True := by decide
    rw [u, if_pos rfl]
    simp only [f_X4_bottomOf_L2, q, if_true]
theorem c_looks (h : Rcp b k pa ch S hs A) (hw : WF A) (h5 : has A S b s a) : f_X1_looksOn S a (if isC (slA A s) = true then none else gR S (b + 1) (sR (slA A s))) = some 1 := by
  obtain ⟨g1, g2, g3⟩ := h5.keep h
  have hv := h5.view
  have h24 := hv.2.2.1
  cases hC : isC (slA A s)
  · rw [hC] at g2
    have g2 : gR S a 2 = some (stB b (sR (slA A s))) := g2
    have hsl := (hw.2.1 s h5.1 h5.2.1).2.1 hC
    obtain ⟨c, c1, c2, c3, c4, c5⟩ := four h hw (j := sR (slA A s)) hsl.1
    have hcv := c1.view
    rw [c4] at hcv
    rw [if_neg (by decide), c2]
    -- what is seen stands in the row
    have hpn := h5.2.2.2.1
    rw [hC] at hpn
    have hfirst := h5.2.2.2.1.first
    have hrow : fsA A (slA A s) + (vw A s).length ≤ (rwA A (sR (slA A s))).length ∧ vw A s = viw (rwA A (sR (slA A s))) (fsA A (slA A s)) (vw A s).length ∧ (sP (slA A s) = none → (vw A s).length = (rwA A (sR (slA A s))).length) := by
      have hv2 : vw A s = viw (rwA A (sR (slA A s))) (fsA A (slA A s)) (szA A (slA A s)) := by
        show vwA A (slA A s) = _
        unfold vwA; rw [hC, if_neg (by decide)]
      have hz : fsA A (slA A s) + szA A (slA A s) ≤ (rwA A (sR (slA A s))).length := by
        unfold fsA szA
        cases hp : sP (slA A s) with
        | none => simp
        | some p =>
          obtain ⟨d1, d2, d3, d4⟩ := hsl.2 p hp
          have := (hw.2.2.2.2.2.1 p d1 d2).2.1
          rw [d3] at this
          exact this
      have hl : (vw A s).length = szA A (slA A s) := by rw [hv2, viw_len hz]
      refine ⟨by rw [hl]; exact hz, by rw [hl]; exact hv2, fun hp => ?_⟩
      rw [hl]; unfold szA; rw [hp]
    obtain ⟨r1, r2, r3⟩ := hrow
    have r24 := (hw.1 _ hsl.1).1
    -- the loop
    obtain ⟨-, -, n, u2⟩ := lpG0 (F := fun n (_ : Unit) i => f_X1_looksOn_L50 S a n (some c) i) (fun i c => True) (vw A s).length (fun n c0 i hi hI => by
      have q : ((vw A s).length ≤ i) = False := eq_false (by omega)
      obtain ⟨-, -, b3⟩ := hv.2.2.2.2 i hi
      obtain ⟨-, -, b4⟩ := hcv.2.2.2.2 (fsA A (slA A s) + i) (by omega)
      have hal := f_alike hv hcv hi (show fsA A (slA A s) + i < (rwA A (sR (slA A s))).length by omega)
      have hx : (vw A s).getD i tz = (rwA A (sR (slA A s))).getD (fsA A (slA A s) + i) tz := by
        have : (vw A s).getD i tz = (viw (rwA A (sR (slA A s))) (fsA A (slA A s)) (vw A s).length).getD i tz := congrArg (fun L : List Tr => L.getD i tz) r2
        rw [this, gd_viw hi]
      rw [hx, isT_self] at hal
      rw [hx] at b3
      have e9 : b2i true = 1 := rfl
      refine ⟨(), trivial, ?_⟩
      show f_X1_looksOn_L50 S a (n + 1) (some c) (nI i) = _
      simp (disch := omega) only [f_X1_looksOn_L50, hv.1, beq_self_eq_true, gck_t, hv.2.2.2.1, Option.bind_some, nI_leI, q, if_false, hfirst, b3, gtk_at c5, nI_add, b4, if_true, hal, e9, e1z, nI_1]) (by omega) () trivial
    have hloop : f_X1_looksOn_L50 S a gN (some c) 0 = some 1 := by
      rw [u2]
      simp only [f_X1_looksOn_L50, hv.1, beq_self_eq_true, gck_t, hv.2.2.2.1, Option.bind_some, Int32.le_refl, if_true]
    have hpart : f_X1_isPartWithin S a (nI (rwA A (sR (slA A s))).length) = some 1 := by
      cases hp : sP (slA A s) with
      | none =>
        rw [hp] at g3
        have g3 : gR S a 3 = none := g3
        simp only [f_X1_isPartWithin, gfR_at g1, g3, Option.bind_some, if_true]
      | some p =>
        rw [hp] at g3
        have g3 : gR S a 3 = some (pa p) := g3
        obtain ⟨d1, d2, d3, d4⟩ := hsl.2 p hp
        obtain ⟨t1, t2, t3, t4, -⟩ := h.2.2.2.2.1 p d1 d2
        obtain ⟨w1, w2, w3⟩ := hw.2.2.2.2.2.1 p d1 d2
        rw [d3] at w2
        have nz : ∀ n, n < 2 ^ 31 → (nI n < 0) = False := fun n hn => n_lt0 hn
        cases hq : pA (ptA A p) with
        | none =>
          rw [hq] at t2
          have t2 : gR S (pa p) 0 = none := t2
          have c1 : (nI (pF (ptA A p)) < 0) = False := nz _ (by omega)
          have c2 : (nI (pZ (ptA A p)) < 0) = False := nz _ (by omega)
          have c3 : (nI (rwA A (sR (slA A s))).length < nI (pF (ptA A p) + pZ (ptA A p))) = False := by rw [n_lt (by omega) (by omega)]; exact eq_false (by omega)
          have c4 : (nI (rwA A (sR (slA A s))).length < nI (rwA A (sR (slA A s))).length) = False := eq_false Int32.lt_irrefl
          simp (disch := omega) only [f_X1_isPartWithin, f_X1_isPartWithin_b29, f_X1_isPartWithin_b47, gfR_at g1, g3, Option.bind_some, reduceCtorEq, if_false, gfR_at t1, t2, if_true, gfI_at t1, t3, t4, c1, c2, nI_add, c3, c4]
        | some o =>
          rw [hq] at t2
          have t2 : gR S (pa p) 0 = some (pa o) := t2
          obtain ⟨o1, o2, o3, o4, o5⟩ := w3 o hq
          obtain ⟨y1, y2, y3, y4, -⟩ := h.2.2.2.2.1 o (by omega) o2
          obtain ⟨z1, z2, -⟩ := hw.2.2.2.2.2.1 o (by omega) o2
          rw [o3, d3] at z2
          have c1 : (nI (pF (ptA A p)) < nI (pF (ptA A o))) = False := by rw [n_lt (by omega) (by omega)]; exact eq_false (by omega)
          have c2 : (nI (pZ (ptA A p)) < 0) = False := nz _ (by omega)
          have c3 : (nI (pF (ptA A o) + pZ (ptA A o)) < nI (pF (ptA A p) + pZ (ptA A p))) = False := by rw [n_lt (by omega) (by omega)]; exact eq_false (by omega)
          have c4 : (nI (rwA A (sR (slA A s))).length < nI (pF (ptA A o) + pZ (ptA A o))) = False := by rw [n_lt (by omega) (by omega)]; exact eq_false (by omega)
          simp (disch := omega) only [f_X1_isPartWithin, f_X1_isPartWithin_b29, f_X1_isPartWithin_b47, gfR_at g1, g3, Option.bind_some, reduceCtorEq, if_false, gfR_at t1, t2, gfI_at y1, y3, y4, gfI_at t1, t3, t4, c1, c2, nI_add, c3, c4]
    have hb35 : f_X1_looksOn_b35 S a (some c) = some 1 := by
      simp only [f_X1_looksOn_b35, gtk_at c5, hcv.2.2.2.1, Option.bind_some, hv.1, beq_self_eq_true, gck_t, hpart, e1z, if_false, hloop]
    cases hp : sP (slA A s) with
    | none =>
      rw [hp] at g3
      have g3 : gR S a 3 = none := g3
      simp only [f_X1_looksOn, reduceCtorEq, if_false, gfR_at g1, g3, Option.bind_some, if_true, hv.1, beq_self_eq_true, gck_t, hv.2.2.2.1, gtk_at c5, hcv.2.2.2.1, r3 hp, hb35]
    | some p =>
      rw [hp] at g3
      have g3 : gR S a 3 = some (pa p) := g3
      simp only [f_X1_looksOn, reduceCtorEq, if_false, gfR_at g1, g3, Option.bind_some, hb35]
  · rw [hC] at g2
    have g2 : gR S a 2 = none := g2
    rw [if_pos rfl]
    simp only [f_X1_looksOn, if_true, gfR_at g1, g2, Option.bind_some]
theorem c_allAlike {c0 a' : Nat} {kd ke : Int32} {V M : List Tr} (hv : cVw S a kd V) (hm : cVw S a' ke M) : f_X0_areAllPlacesAlike S c0 (some a) (some a') = some (b2i (lik V M)) := by
  have hV := hv.2.2.1
  have hM := hm.2.2.1
  have hmin : gmin (nI V.length) (nI M.length) = nI (min V.length M.length) := by
    unfold gmin
    by_cases c : M.length < V.length
    · rw [if_pos (nI_lt c (by omega)), Nat.min_eq_right (by omega)]
    · rw [if_neg (nI_nlt (by omega) (by omega)), Nat.min_eq_left (by omega)]
  obtain ⟨c, ⟨u1, u3⟩, n, u2⟩ := lpG0 (F := fun n (c : Nat) i => f_X0_areAllPlacesAlike_L5 S c0 n (some a) (some a') (nI c) i) (fun i c => c ≤ i ∧ (c = i ↔ ∀ q, q < i → isT (M.getD q tz).2.1 (M.getD q tz).2.2 (V.getD q tz) = true)) (min V.length M.length) (fun n c i hi hI => by
    obtain ⟨i1, i2⟩ := hI
    have q : (min V.length M.length ≤ i) = False := eq_false (by omega)
    have hal := f_alike hv hm (show i < V.length by omega) (show i < M.length by omega)
    cases he : isT (M.getD i tz).2.1 (M.getD i tz).2.2 (V.getD i tz)
    · rw [he] at hal
      have e9 : b2i false = 0 := rfl
      refine ⟨c, ⟨by omega, ⟨fun z => by omega, fun z => ?_⟩⟩, ?_⟩
      · have := z i (by omega)
        rw [he] at this; cases this
      · simp (disch := omega) only [f_X0_areAllPlacesAlike_L5, f_X0_areAllPlacesAlike_b36, gtk_at hv.1, gtk_at hm.1, hv.2.2.2.1, hm.2.2.2.1, Option.bind_some, hmin, nI_leI, q, if_false, hal, e9, if_true, nI_1]
    · rw [he] at hal
      have e9 : b2i true = 1 := rfl
      refine ⟨c + 1, ⟨by omega, ⟨fun z j hj => ?_, fun z => ?_⟩⟩, ?_⟩
      · by_cases e : j = i
        · subst e; exact he
        · exact i2.mp (by omega) j (by omega)
      · have := i2.mpr (fun j hj => z j (by omega))
        omega
      · simp (disch := omega) only [f_X0_areAllPlacesAlike_L5, f_X0_areAllPlacesAlike_b36, gtk_at hv.1, gtk_at hm.1, hv.2.2.2.1, hm.2.2.2.1, Option.bind_some, hmin, nI_leI, q, if_false, hal, e9, e1z, nI_1]) (by omega) 0 ⟨Nat.le_refl _, fun _ q hq => by omega, fun _ => rfl⟩
  have u2 : f_X0_areAllPlacesAlike_L5 S c0 gN (some a) (some a') 0 0 = _ := u2
  unfold f_X0_areAllPlacesAlike
  rw [u2]
  have e1 : (nI c = nI V.length) = (c = V.length) := n_eq (by omega) (by omega)
  have e2 : (nI c = nI M.length) = (c = M.length) := n_eq (by omega) (by omega)
  simp only [f_X0_areAllPlacesAlike_L5, gtk_at hv.1, gtk_at hm.1, hv.2.2.2.1, hm.2.2.2.1, Option.bind_some, hmin, Int32.le_refl, if_true, e1, e2]
  have hlik : lik V M = true ↔ c = V.length ∧ c = M.length := by
    unfold lik
    rw [Bool.and_eq_true, decide_eq_true_eq, alk_iff]
    constructor
    · intro ⟨z1, z2, z3⟩
      have := u3.mpr (fun q hq => z3 q (by omega))
      omega
    · intro ⟨z1, z2⟩
      exact ⟨by omega, by omega, fun i hi => u3.mp (by omega) i (by omega)⟩
  cases hl : lik V M
  · by_cases c1 : c = V.length
    · rw [if_pos c1]
      by_cases c2 : c = M.length
      · rw [hlik.mpr ⟨c1, c2⟩] at hl; cases hl
      · rw [if_neg c2]; rfl
    · rw [if_neg c1]; rfl
  · obtain ⟨c1, c2⟩ := hlik.mp hl
    rw [if_pos c1, if_pos c2]; rfl
theorem c_pairSound {c0 t a' : Nat} (hg : gT S c0 = 1) (h : Rcp b k pa ch S hs A) (hw : WF A) (h5 : has A S b s a) (h6 : has A S b t a') : f_X0_isPairSound S c0 (some a) (some a') = some 1 := by
  have v1 := h5.view
  have v2 := h6.view
  have nd : ∀ {s a}, has A S b s a → kMp (kA A s) = true → ((vw A s).map fun t => t.1).Nodup := fun {s a} h5 hk => by
    obtain ⟨m1, m2, m3, m4, m5, m6⟩ := map_facts hw h5.1 (kMp_or (x := slA A s) (by
      have : kMp (sK (slA A s)) = true := hk
      rw [this]; rfl))
    rw [m6]; exact hw.2.2.2.2.2.2.1 _ m1 m2
  have hb51 : f_X0_isPairSound_b51 S c0 (some a) (some a') = some 1 := by
    simp only [f_X0_isPairSound_b51, f_X0_isPairSound_b95, gtk_at v1.1, gtk_at v2.1, Option.bind_some, f_isMap v1.1 v1.2.1, f_isMap v2.1 v2.2.1, b2i_0]
    cases k1 : kMp (kA A s)
    · simp
    · cases k2 : kMp (kA A t)
      · simp
      · have f1 := f_mapLike v1 v2 (fun x => h6.find hw (by rw [k2]; rfl))
        have f2 := f_mapLike v2 v1 (fun x => h5.find hw (by rw [k1]; rfl))
        obtain ⟨e1, e2⟩ := map_sym (nd h5 k1) (nd h6 k2)
        rw [← e1] at f2
        simp only [Bool.true_eq_false, if_false, f1, f2, Option.bind_some, if_true, f_mHash v1, f_mHash v2]
        cases hx : (mLk (vw A t) (vw A s) && decide ((vw A s).length = (vw A t).length))
        · rfl
        · have e9 : b2i true = 1 := rfl
          rw [e2 hx, e9]
          simp only [e1z, if_false, if_true]
  simp only [f_X0_isPairSound, gtk_at v1.1, gtk_at v2.1, Option.bind_some, f_isList v1.1 v1.2.1, f_isList v2.1 v2.2.1, b2i_0]
  cases k1 : kLs (kA A s)
  · simp only [if_true, hb51]
  · cases k2 : kLs (kA A t)
    · simp only [Bool.true_eq_false, if_false, if_true, hb51]
    · simp only [Bool.true_eq_false, if_false, f_listLike v1 v2, Option.bind_some, hg, beq_self_eq_true, gck_t, c_allAlike v1 v2, if_true, f_lHash v1, f_lHash v2, f_X0_isPairSound_b45]
      cases hx : lik (vw A s) (vw A t)
      · rfl
      · have e9 : b2i true = 1 := rfl
        unfold lik at hx
        rw [Bool.and_eq_true, decide_eq_true_eq] at hx
        rw [alk_hash _ _ 1 hx.1 hx.2, e9]
        simp only [e1z, if_false, if_true]
end CChk2
