/-! the reference fills, sorts, weaves -/
theorem gd_map {V : List Tr} {g : Tr → Tr} {i : Nat} (h : i < V.length) : (V.map g).getD i tz = g (V.getD i tz) := by
  rw [gd_eq, gd_eq, List.getElem?_map, List.getElem?_eq_getElem h]; rfl
theorem ins_appL {Q R : List Tr} {x : Tr} {p : Nat} (h : p ≤ Q.length) : (Q ++ R).insertIdx p x = Q.insertIdx p x ++ R := by
  have l1 := len_ins (V := Q) (x := x) h
  refine tl_ext (by rw [len_ins (by rw [List.length_append]; omega), List.length_append, List.length_append, l1]; omega) fun k hk => ?_
  rw [gd_ins (by rw [List.length_append]; omega), gd_app (L := Q) (M := R) (j := k), gd_app (L := Q) (M := R) (j := k - 1), gd_app (L := Q.insertIdx p x) (M := R), l1, gd_ins h]
  by_cases a : k < p
  · rw [if_pos a, if_pos (by omega), if_pos (by omega), if_pos a]
  · rw [if_neg a]
    by_cases b : k = p
    · rw [if_pos b, if_pos (by omega), if_neg a, if_pos b]
    · rw [if_neg b]
      by_cases c : k < Q.length + 1
      · rw [if_pos c, if_pos (by omega), if_neg a, if_neg b]
      · rw [if_neg c, if_neg (by omega)]
        exact congrArg (fun q => R.getD q tz) (by omega)
/-- where a thing goes in what is sorted -/
def posR (rk : Tr → Int32) (v : Int32) (P : List Tr) : Nat → Nat
  | 0 => 0
  | n + 1 => if v < rk (P.getD n tz) then posR rk v P n else n + 1
theorem posR_le {rk : Tr → Int32} {v : Int32} {P : List Tr} : ∀ n, posR rk v P n ≤ n := by
  intro n
  induction n with
  | zero => exact Nat.le_refl _
  | succ n ih =>
    unfold posR
    by_cases h : v < rk (P.getD n tz)
    · rw [if_pos h]; omega
    · rw [if_neg h]; exact Nat.le_refl _
theorem posR_take {rk : Tr → Int32} {v : Int32} {P : List Tr} {j : Nat} : ∀ n, n ≤ j → posR rk v (P.take j) n = posR rk v P n := by
  intro n
  induction n with
  | zero => intro _; rfl
  | succ n ih =>
    intro h
    unfold posR
    rw [gd_take (by omega), ih (by omega)]
def insB (rk : Tr → Int32) (P : List Tr) (x : Tr) : List Tr := P.insertIdx (posR rk (rk x) P P.length) x
theorem insB_len {rk : Tr → Int32} {P : List Tr} {x : Tr} : (insB rk P x).length = P.length + 1 := len_ins (posR_le _)
theorem snk_ins {rk : Tr → Int32} : ∀ (j : Nat) (L : List Tr), j < L.length → snk rk 0 j L = insB rk (L.take j) (L.getD j tz) ++ L.drop (j + 1) := by
  intro j
  induction j with
  | zero =>
    intro L h
    cases L with
    | nil => simp at h
    | cons t l => rfl
  | succ j ih =>
    intro L h
    have hl : (L.take (j + 1)).length = j + 1 := by rw [List.length_take]; omega
    have hl0 : (L.take j).length = j := by rw [List.length_take]; omega
    unfold snk insB
    rw [hl]
    have hx : (L.take (j + 1)).getD j tz = L.getD j tz := gd_take (by omega)
    by_cases c : rk (L.getD (j + 1) tz) < rk (L.getD j tz)
    · rw [if_pos ⟨by omega, c⟩, ih _ (by rw [swp_len]; omega)]
      have e1 : (swp L j (j + 1)).take j = L.take j := tl_ext (by rw [List.length_take, List.length_take, swp_len]) fun k hk => by
        rw [List.length_take, swp_len] at hk
        rw [gd_take (by omega), gd_take (by omega), gd_swp (by omega) (by omega), if_neg (by omega), if_neg (by omega)]
      have e2 : (swp L j (j + 1)).getD j tz = L.getD (j + 1) tz := by rw [gd_swp (by omega) (by omega), if_neg (by omega), if_pos rfl]
      have e3 : (swp L j (j + 1)).drop (j + 1) = L.getD j tz :: L.drop (j + 1 + 1) := by
        refine tl_ext (by simp [swp_len]; omega) fun k hk => ?_
        rw [gd_drop, gd_swp (by omega) (by omega)]
        cases k with
        | zero => rw [if_pos (by omega)]; rfl
        | succ k =>
          rw [if_neg (by omega), if_neg (by omega)]
          show L.getD (j + 1 + (k + 1)) tz = (L.drop (j + 1 + 1)).getD k tz
          rw [gd_drop]
          exact congrArg (fun q => L.getD q tz) (by omega)
      rw [e1, e2, e3]
      unfold insB
      have e4 : posR rk (rk (L.getD (j + 1) tz)) (L.take (j + 1)) (j + 1) = posR rk (rk (L.getD (j + 1) tz)) (L.take j) j := by
        rw [posR, hx, if_pos c, posR_take j (by omega), posR_take j (by omega)]
      rw [hl0, e4, take_s (show j < L.length by omega), ins_appL (by rw [hl0]; exact posR_le _)]
      simp
    · rw [if_neg (fun z => c z.2)]
      have e4 : posR rk (rk (L.getD (j + 1) tz)) (L.take (j + 1)) (j + 1) = j + 1 := by rw [posR, hx, if_neg c]
      rw [e4]
      have e5 : (L.take (j + 1)).insertIdx (j + 1) (L.getD (j + 1) tz) = L.take (j + 1) ++ [L.getD (j + 1) tz] := by
        have := ins_app (P := L.take (j + 1)) (Q := []) (x := L.getD (j + 1) tz)
        rw [List.append_nil, hl] at this
        exact this
      rw [e5, ← take_s (by omega), List.take_append_drop]
theorem ord_ins {rk : Tr → Int32} : ∀ (d i : Nat) (L : List Tr), i + d = L.length → ord rk 0 d i L = (L.drop i).foldl (insB rk) (L.take i) := by
  intro d
  induction d with
  | zero =>
    intro i L h
    rw [List.drop_eq_nil_of_le (by omega), List.take_of_length_le (by omega)]
    rfl
  | succ d ih =>
    intro i L h
    have hl0 : (L.take i).length = i := by rw [List.length_take]; omega
    have hi := insB_len (rk := rk) (P := L.take i) (x := L.getD i tz)
    rw [hl0] at hi
    rw [ord, snk_ins i L (by omega), ih (i + 1) _ (by rw [List.length_append, hi, List.length_drop]; omega)]
    have e1 : (insB rk (L.take i) (L.getD i tz) ++ L.drop (i + 1)).take (i + 1) = insB rk (L.take i) (L.getD i tz) := by rw [← hi]; exact List.take_left' rfl
    have e2 : (insB rk (L.take i) (L.getD i tz) ++ L.drop (i + 1)).drop (i + 1) = L.drop (i + 1) := by rw [← hi]; exact List.drop_left' rfl
    rw [e1, e2]
    have e3 : L.drop i = L.getD i tz :: L.drop (i + 1) := by
      rw [List.drop_eq_getElem_cons (show i < L.length by omega), gd_eq, List.getElem?_eq_getElem (by omega)]
      rfl
    rw [e3, List.foldl_cons]
theorem ord_all {rk : Tr → Int32} (V : List Tr) : ord rk 0 (V.length - 1) 1 V = V.foldl (insB rk) [] := by
  cases V with
  | nil => rfl
  | cons t l =>
    rw [ord_ins ((t :: l).length - 1) 1 (t :: l) (by simp only [List.length_cons]; omega)]
    rfl
section RSort
variable {S S' : GS} {r cap hs hs' : Nat} {dq : Nat → Nat} {A : AS}
/-- a thing goes to its place in what is sorted -/
theorem r_sink {m c : Nat} {x1 x5 x6 x7 : Int32} {k126 : GS → Nat → Int32 → Int32 → Int32 → Int32 → Option (Int32 × GS × Nat)} {P : List Tr} {x : Tr} {rk : Tr → Int32} (hrk : ∀ t, rk t = x6 * (if x5 = 0 then t.2.2 else t.2.1)) (hc : P.length = c) (h24 : c < 24) :
    ∀ (a : Nat) (T : GS) (n : Nat), Rq r dq cap T hs A → gI T r 22 = nI c → (∀ k, k < a → gI T (r + 29) k = (P.getD k tz).2.1 ∧ gI T (r + 30) k = (P.getD k tz).2.2) → (∀ k, a < k → k ≤ c → gI T (r + 29) k = (P.getD (k - 1) tz).2.1 ∧ gI T (r + 30) k = (P.getD (k - 1) tz).2.2) → a ≤ c → a < n →
    ∃ T', f_X5_sort_L177 k126 r n T m x1 x5 x6 x7 x.2.1 x.2.2 (rk x) (nI a) = k126 T' m x1 x5 x6 (x7 + 1) ∧ Rq r dq cap T' hs A ∧ rNw T' r (P.insertIdx (posR rk (rk x) P a) x) ∧ gI T' r 19 = gI T r 19 := by
  have fin : ∀ (a : Nat) (T : GS), Rq r dq cap T hs A → gI T r 22 = nI c → (∀ k, k < a → gI T (r + 29) k = (P.getD k tz).2.1 ∧ gI T (r + 30) k = (P.getD k tz).2.2) → (∀ k, a < k → k ≤ c → gI T (r + 29) k = (P.getD (k - 1) tz).2.1 ∧ gI T (r + 30) k = (P.getD (k - 1) tz).2.2) → a ≤ c →
      ∃ T', f_X5_sort_b254 k126 r T m x1 x5 x6 x7 x.2.1 x.2.2 (nI a) = k126 T' m x1 x5 x6 (x7 + 1) ∧ Rq r dq cap T' hs A ∧ rNw T' r (P.insertIdx a x) ∧ gI T' r 19 = gI T r 19 := by
    intro a T h1 h2 h3 h4 h5
    have g1 := h1.1.gs (r + 29) a x.2.1
    have g2 := g1.gs (r + 30) a x.2.2
    have e1 : gI (gsI (gsI T (r + 29) a x.2.1) (r + 30) a x.2.2) r 22 = nI c := by rw [gI_gsI, if_neg (by omega), gI_gsI, if_neg (by omega)]; exact h2
    have fr : rFr hs (wSc r) T (gsI (gsI (gsI T (r + 29) a x.2.1) (r + 30) a x.2.2) r 22 (nI (c + 1))) := ((rFr.one (by unfold wSc; omega)).tr (rFr.one (by unfold wSc; omega)) (Nat.le_refl _)).tr (rFr.one (by unfold wSc; omega)) (Nat.le_refl _)
    have hl := len_ins (V := P) (x := x) (i := a) (by omega)
    refine ⟨gsI (gsI (gsI T (r + 29) a x.2.1) (r + 30) a x.2.2) r 22 (nI (c + 1)), ?_, h1.sc1 fr (fun _ => rfl), ⟨?_, by omega, fun k hk => ?_⟩, ?_⟩
    · simp only [f_X5_sort_b254, h1.1.fs, Option.bind_some, h1.1.ws.2.2.2.2.2.2.2.2.1 a _ (show a < 72 by omega), g1.fs, g1.ws.2.2.2.2.2.2.2.2.2.1 a _ (show a < 72 by omega), g2.fs, e1, nI_1]
    · rw [gI_gsI, if_pos ⟨rfl, rfl⟩, hl, hc]
    · rw [hl] at hk
      rw [gd_ins (by omega)]
      simp only [gI_gsI]
      by_cases k1 : k < a
      · rw [if_pos k1, if_neg (by omega), if_neg (by omega), if_neg (by omega), if_neg (by omega), if_neg (by omega), if_neg (by omega)]
        exact h3 k k1
      · rw [if_neg k1]
        by_cases k2 : k = a
        · subst k2
          rw [if_pos rfl, if_neg (by omega), if_neg (by omega), if_pos (by simp), if_neg (by omega), if_pos (by simp)]
          exact ⟨rfl, rfl⟩
        · rw [if_neg k2, if_neg (by omega), if_neg (by omega), if_neg (by omega), if_neg (by omega), if_neg (by omega), if_neg (by omega)]
          exact h4 k (by omega) (by omega)
    · rw [gI_gsI, if_neg (by omega), gI_gsI, if_neg (by omega), gI_gsI, if_neg (by omega)]
  intro a
  induction a with
  | zero =>
    intro T n h1 h2 h3 h4 h5 h6
    obtain ⟨n, rfl⟩ : ∃ k, n = k + 1 := ⟨n - 1, by omega⟩
    have q : (nI 0 ≤ (0 : Int32)) = True := by decide
    obtain ⟨T', f1, f2⟩ := fin 0 T h1 h2 h3 h4 h5
    refine ⟨T', ?_, f2⟩
    rw [← f1]
    simp only [f_X5_sort_L177, q, if_true]
  | succ a ih =>
    intro T n h1 h2 h3 h4 h5 h6
    obtain ⟨n, rfl⟩ : ∃ k, n = k + 1 := ⟨n - 1, by omega⟩
    have q : (nI (a + 1) ≤ (0 : Int32)) = False := eq_false (nI_nle (by omega) (by omega))
    obtain ⟨b1, b2⟩ := h3 a (by omega)
    have hrd : f_X5_sort_L177 k126 r (n + 1) T m x1 x5 x6 x7 x.2.1 x.2.2 (rk x) (nI (a + 1)) = f_X5_sort_b210 k126 (f_X5_sort_L177 k126 r n) r T m x1 x5 x6 x7 x.2.1 x.2.2 (rk x) (nI (a + 1)) x6 (if x5 = 0 then (P.getD a tz).2.2 else (P.getD a tz).2.1) := by
      rw [f_X5_sort_L177]
      by_cases e : x5 = 0
      · simp only [q, if_false, e, if_true, h1.1.fs, nI_pred, h1.1.rs.2.2.2.2.2.2.2.2.2.1 a (by omega), b2, Option.bind_some]
      · simp only [q, if_false, e, h1.1.fs, nI_pred, h1.1.rs.2.2.2.2.2.2.2.2.1 a (by omega), b1, Option.bind_some]
    rw [hrd]
    unfold f_X5_sort_b210
    rw [← hrk]
    by_cases c1 : rk x < rk (P.getD a tz)
    · rw [if_neg (Int32.not_le.mpr c1)]
      have e4 : posR rk (rk x) P (a + 1) = posR rk (rk x) P a := by rw [posR, if_pos c1]
      rw [e4]
      have fr1 : rFr hs (wSc r) T (gsI T (r + 29) (a + 1) (P.getD a tz).2.1) := rFr.one (by unfold wSc; omega)
      have g1 := h1.sc1 fr1 (fun _ => rfl)
      have fr2 : rFr hs (wSc r) (gsI T (r + 29) (a + 1) (P.getD a tz).2.1) (gsI (gsI T (r + 29) (a + 1) (P.getD a tz).2.1) (r + 30) (a + 1) (P.getD a tz).2.2) := rFr.one (by unfold wSc; omega)
      have g2 := g1.sc1 fr2 (fun _ => rfl)
      have b2' : gI (gsI T (r + 29) (a + 1) (P.getD a tz).2.1) (r + 30) a = (P.getD a tz).2.2 := by rw [gI_gsI, if_neg (by omega)]; exact b2
      obtain ⟨T', f1, f2, f3, f4⟩ := ih (gsI (gsI T (r + 29) (a + 1) (P.getD a tz).2.1) (r + 30) (a + 1) (P.getD a tz).2.2) n g2 (by rw [gI_gsI, if_neg (by omega), gI_gsI, if_neg (by omega)]; exact h2) (fun k hk => by
        rw [gI_gsI, if_neg (by omega), gI_gsI, if_neg (by omega), gI_gsI, if_neg (by omega), gI_gsI, if_neg (by omega)]
        exact h3 k (by omega)) (fun k hk hk2 => by
        by_cases e : k = a + 1
        · subst e
          rw [gI_gsI, if_neg (by omega), gI_gsI, if_pos (by simp), gI_gsI, if_pos (by simp)]
          exact ⟨rfl, rfl⟩
        · rw [gI_gsI, if_neg (by omega), gI_gsI, if_neg (by omega), gI_gsI, if_neg (by omega), gI_gsI, if_neg (by omega)]
          exact h4 k (by omega) hk2) (by omega) (by omega)
      refine ⟨T', ?_, f2, f3, by rw [f4, gI_gsI, if_neg (by omega), gI_gsI, if_neg (by omega)]⟩
      rw [← f1]
      simp only [h1.1.fs, Option.bind_some, nI_pred, h1.1.rs.2.2.2.2.2.2.2.2.1 a (show a < 72 by omega), b1, h1.1.ws.2.2.2.2.2.2.2.2.1 (a + 1) _ (show a + 1 < 72 by omega), g1.1.fs, g1.1.rs.2.2.2.2.2.2.2.2.2.1 a (show a < 72 by omega), b2', g1.1.ws.2.2.2.2.2.2.2.2.2.1 (a + 1) _ (show a + 1 < 72 by omega), pk_m1]
    · rw [if_pos (Int32.not_lt.mp c1)]
      have e4 : posR rk (rk x) P (a + 1) = a + 1 := by rw [posR, if_neg c1]
      rw [e4]
      exact fin (a + 1) T h1 h2 h3 h4 h5
theorem r_fill (h : Rq r dq cap S hs A) (hw : WF A) (hp : npA A ≤ 511) (x k m : Int32) : rRes [1, 2, 3, 4] r hs A (rLf hs (f_X5_fill S r x k m)) (m_fill A x k m) := by
  have h0 := h.thr 0
  unfold m_fill
  rcases c3 (A := A) x kLs with e | ⟨s, hs12, rfl, e⟩ | ⟨s, hs12, rfl, e45, e⟩
  · rw [nd_no e]
    exact rRes_noP (i := 0) (v := 0) h rfl (by simp only [f_X5_fill_b73, f_X5_fill_b60, f_X5_fill_b50, f_X5_fill_b40, f_X5_fill_b25, f_X5_fill_b24, f_X5_fill, h.1.fs, beq_self_eq_true, gck_t, Option.bind_some, b2i_1, e20, e30, e40, e50, if_true, if_false, r_fails h.1.1, fcd, gb2_s, r_isList_no h e, r_slot0 S e, r_isThing, ite_self]; rfl)
  · rw [nd_bad hs12 e]
    have e := or_bad (q := kLs) e (by decide)
    have e2 := r_isList h hs12
    rw [e] at e2
    exact rRes_noP (i := 1) (v := 0) h rfl (by simp only [f_X5_fill_b73, f_X5_fill_b60, f_X5_fill_b50, f_X5_fill_b40, f_X5_fill_b25, f_X5_fill_b24, f_X5_fill, h.1.fs, beq_self_eq_true, gck_t, Option.bind_some, b2i_1, e20, e30, e40, e50, if_true, if_false, r_fails h.1.1, fcd, gb2_s, e2, b2i_f, r_slot1 S hs12, r_isThing, ite_self]; rfl)
  · rw [nd_ok hs12 e45 e]
    have e2 := r_isList h hs12
    rw [e] at e2
    have e3 := r_canChange h hw hs12 e45
    have hv := h.see hw hs12 e45
    have hv0 := h0.see hw hs12 e45
    have h24 := hv.2.2.1
    cases ho : sO (slA A s)
    · rw [ho] at e3
      exact rRes_noP (i := 2) (v := 0) h rfl (by simp only [f_X5_fill_b73, f_X5_fill_b60, f_X5_fill_b50, f_X5_fill_b40, f_X5_fill_b25, f_X5_fill_b24, f_X5_fill, h.1.fs, beq_self_eq_true, gck_t, Option.bind_some, b2i_1, e20, e30, e40, e50, if_true, if_false, r_fails h.1.1, fcd, gb2_s, e2, e3, b2i_f, b2i_t, r_slot1 S hs12, r_isThing, ite_self]; rfl)
    · rw [ho] at e3
      simp only [Bool.true_eq_false, if_false]
      have hk2 := kLs_op hw hs12 e ho
      obtain ⟨l1, l2, l3, l4, l5, -⟩ := lst_facts hw hs12 (hk2.elim Or.inl (fun h => Or.inr (Or.inl h)))
      have g24 := (hw.1 _ (show sR (slA A s) < 4 by omega)).1
      cases hth : thOk k m
      · simp only [if_true]
        exact rRes_noP (i := 3) (v := 0) h rfl (by simp only [f_X5_fill_b73, f_X5_fill_b60, f_X5_fill_b50, f_X5_fill_b40, f_X5_fill_b25, f_X5_fill_b24, f_X5_fill, h.1.fs, beq_self_eq_true, gck_t, Option.bind_some, b2i_1, e20, e30, e40, e50, if_true, if_false, r_fails h.1.1, fcd, gb2_s, e2, e3, b2i_t, b2i_f, r_slot1 S hs12, r_isThing, hth]; rfl)
      · simp only [Bool.true_eq_false, if_false]
        have hlen : ((vw A s).map fun t => (t.1, k, m)).length = (vw A s).length := List.length_map ..
        rw [chg_eq hlen]
        have hin : ∀ t ∈ (vw A s).map fun t => (t.1, k, m), inB t := fun t ht => by
          obtain ⟨u, -, rfl⟩ := List.mem_map.mp ht
          exact thOk_in hth
        have hgm : ∀ i, i < (vw A s).length → ((vw A s).map fun t => (t.1, k, m)).getD i tz = (((vw A s).getD i tz).1, k, m) := fun i hi => gd_map hi
        generalize hMM : (vw A s).map (fun t => (t.1, k, m)) = M at *
        obtain ⟨T, ⟨t1, t2, t3⟩, n, t4⟩ := lpG0 (F := fun n T i => f_X5_fill_L90 r n T (nI s) k m i) (fun i T => Rq r dq cap T hs A ∧ rNw T r (M.take i) ∧ gI T r 19 = 0) (vw A s).length (fun n T i hi hI => by
          obtain ⟨i1, i2, i3⟩ := hI
          have hvT := i1.see hw hs12 e45
          have q : ((vw A s).length ≤ i) = False := eq_false (by omega)
          obtain ⟨T', d1, d2, d3, d4, d5, d6⟩ := r_lays i1 i2 (by rw [List.length_take]; omega) ((vw A s).getD i tz).1 k m
          rw [← hgm i hi, ← take_s (by omega)] at d3
          refine ⟨T', ⟨d2, d3, by rw [d6]; exact i3⟩, ?_⟩
          simp (disch := omega) only [f_X5_fill_L90, i1.1.1, beq_self_eq_true, gck_t, hvT.2.1, Option.bind_some, nI_leI, q, if_false, d1, nI_1]) (by omega) (gsI (gsI S r 19 0) r 22 0) ⟨h0.nsz 0, by
          rw [List.take_zero]
          exact rNw_nil (by rw [gI_gsI, if_pos ⟨rfl, rfl⟩]), by rw [gI_gsI, if_neg (by omega), gI_gsI, if_pos ⟨rfl, rfl⟩]⟩
        rw [List.take_of_length_le (by omega)] at t2
        obtain ⟨S', u1, u2, u3, u4, u5⟩ := r_returns t1 hw hs12 hk2 hin hlen t2
        have hvT := t1.see hw hs12 e45
        have hwT := WF_rowC hw hs12 hk2 hin hlen
        have hm := r_many u2 hwT hs12 e45
        rw [rowC_vw hw hs12 hk2 hlen, hlen] at hm
        refine rRes_okP (S' := S') ?_ u2 (by rw [u4]; exact t3)
        simp only [f_X5_fill_b73, f_X5_fill_b60, f_X5_fill_b50, f_X5_fill_b40, f_X5_fill_b25, f_X5_fill_b24, f_X5_fill, h.1.fs, beq_self_eq_true, gck_t, Option.bind_some, b2i_1, e20, e30, e40, e50, if_true, if_false, r_fails h.1.1, fcd, gb2_s, h0.1.fs, e2, e3, b2i_t, b2i_f, r_slot1 S hs12, r_isThing, hth]
        rw [t4]
        simp only [f_X5_fill_L90, t1.1.1, u2.1.1, beq_self_eq_true, gck_t, hvT.2.1, Option.bind_some, Int32.le_refl, if_true, u1, hm]
theorem insB_mem {rk : Tr → Int32} {t : Tr} : ∀ (l P : List Tr), t ∈ l.foldl (insB rk) P → t ∈ P ∨ t ∈ l := by
  intro l
  induction l with
  | nil => intro P h; exact Or.inl h
  | cons u l ih =>
    intro P h
    rw [List.foldl_cons] at h
    rcases ih _ h with z | z
    · rcases mem_ins z with rfl | y
      · exact Or.inr List.mem_cons_self
      · exact Or.inl y
    · exact Or.inr (List.mem_cons_of_mem _ z)
theorem insB_flen {rk : Tr → Int32} : ∀ (l P : List Tr), (l.foldl (insB rk) P).length = P.length + l.length := by
  intro l
  induction l with
  | nil => intro P; rfl
  | cons u l ih => intro P; rw [List.foldl_cons, ih, insB_len, List.length_cons]; omega
theorem tx7 (c : Int32) : (c ∈ gBy.getD 7 []) ↔ (c = 107 ∨ c = 75 ∨ c = 109 ∨ c = 77) := by
  rw [show gBy.getD 7 [] = [107, 75, 109, 77] from rfl]; simp only [List.mem_cons, List.not_mem_nil, or_false]
theorem rk_way {w : Int32} (h : w = 107 ∨ w = 75 ∨ w = 109 ∨ w = 77) (t : Tr) : rkw w t = (if w = 107 ∨ w = 109 then 1 else -1) * (if (if w = 107 ∨ w = 75 then (1 : Int32) else 0) = 0 then t.2.2 else t.2.1) := by
  unfold rkw
  rcases h with rfl | rfl | rfl | rfl
  · simp [Int32.one_mul]
  · simp [Int32.neg_mul, Int32.one_mul]
  · simp [Int32.one_mul]
  · simp [Int32.neg_mul, Int32.one_mul]
theorem gt_w7 : decide (7 < 8) = true := rfl
theorem r_sort (h : Rq r dq cap S hs A) (hw : WF A) (hp : npA A ≤ 511) (x w : Int32) : rRes [1, 2, 3, 4] r hs A (f_X5_sort S hs r x w) (m_sort A x w) := by
  have h0 := h.thr 0
  obtain ⟨vx, v1, v2⟩ := f_indexOf (S := S) (k := 7) (c := w) (by omega)
  unfold m_sort
  rcases c3 (A := A) x kLs with e | ⟨s, hs12, rfl, e⟩ | ⟨s, hs12, rfl, e45, e⟩
  · rw [nd_no e]
    exact rRes_no (i := 0) (v := 0) h rfl (by simp only [f_X5_sort_b254, f_X5_sort_b210, f_X5_sort_b168, f_X5_sort_b116, f_X5_sort_b111, f_X5_sort_b97, f_X5_sort_b92, f_X5_sort_b71, f_X5_sort_b57, f_X5_sort_b47, f_X5_sort_b38, f_X5_sort_b23, f_X5_sort_b22, f_X5_sort, h.1.fs, beq_self_eq_true, gck_t, Option.bind_some, b2i_1, e20, e30, e40, e50, if_true, if_false, r_fails h.1.1, fcd, gb2_s, r_isList_no h e, r_slot0 S e, gt_w7, v1, ite_self]; rfl)
  · rw [nd_bad hs12 e]
    have e := or_bad (q := kLs) e (by decide)
    have e2 := r_isList h hs12
    rw [e] at e2
    exact rRes_no (i := 1) (v := 0) h rfl (by simp only [f_X5_sort_b254, f_X5_sort_b210, f_X5_sort_b168, f_X5_sort_b116, f_X5_sort_b111, f_X5_sort_b97, f_X5_sort_b92, f_X5_sort_b71, f_X5_sort_b57, f_X5_sort_b47, f_X5_sort_b38, f_X5_sort_b23, f_X5_sort_b22, f_X5_sort, h.1.fs, beq_self_eq_true, gck_t, Option.bind_some, b2i_1, e20, e30, e40, e50, if_true, if_false, r_fails h.1.1, fcd, gb2_s, e2, b2i_f, r_slot1 S hs12, gt_w7, v1, ite_self]; rfl)
  · rw [nd_ok hs12 e45 e]
    have e2 := r_isList h hs12
    rw [e] at e2
    have e3 := r_canChange h hw hs12 e45
    have hv := h.see hw hs12 e45
    have hv0 := h0.see hw hs12 e45
    have h24 := hv.2.2.1
    cases ho : sO (slA A s)
    · rw [ho] at e3
      exact rRes_no (i := 2) (v := 0) h rfl (by simp only [f_X5_sort_b254, f_X5_sort_b210, f_X5_sort_b168, f_X5_sort_b116, f_X5_sort_b111, f_X5_sort_b97, f_X5_sort_b92, f_X5_sort_b71, f_X5_sort_b57, f_X5_sort_b47, f_X5_sort_b38, f_X5_sort_b23, f_X5_sort_b22, f_X5_sort, h.1.fs, beq_self_eq_true, gck_t, Option.bind_some, b2i_1, e20, e30, e40, e50, if_true, if_false, r_fails h.1.1, fcd, gb2_s, e2, e3, b2i_f, b2i_t, r_slot1 S hs12, gt_w7, v1, ite_self]; rfl)
    · rw [ho] at e3
      simp only [Bool.true_eq_false, if_false]
      have hk2 := kLs_op hw hs12 e ho
      obtain ⟨l1, l2, l3, l4, l5, -⟩ := lst_facts hw hs12 (hk2.elim Or.inl (fun h => Or.inr (Or.inl h)))
      have g24 := (hw.1 _ (show sR (slA A s) < 4 by omega)).1
      by_cases hw4 : ¬ (w = 107 ∨ w = 75 ∨ w = 109 ∨ w = 77)
      · rw [if_neg hw4]
        have hv4 : (0 ≤ vx) = False := eq_false (fun z => hw4 ((tx7 w).mp (Classical.byContradiction fun y => Int32.not_lt.mpr z (v2.mpr y))))
        exact rRes_no (i := 3) (v := 0) h rfl (by simp only [f_X5_sort_b254, f_X5_sort_b210, f_X5_sort_b168, f_X5_sort_b116, f_X5_sort_b111, f_X5_sort_b97, f_X5_sort_b92, f_X5_sort_b71, f_X5_sort_b57, f_X5_sort_b47, f_X5_sort_b38, f_X5_sort_b23, f_X5_sort_b22, f_X5_sort, h.1.fs, beq_self_eq_true, gck_t, Option.bind_some, b2i_1, e20, e30, e40, e50, if_true, if_false, r_fails h.1.1, fcd, gb2_s, e2, e3, b2i_t, b2i_f, r_slot1 S hs12, gt_w7, v1, hv4]; rfl)
      · have hw4 := Classical.not_not.mp hw4
        rw [if_pos hw4, ord_all]
        have hv4 : (0 ≤ vx) = True := eq_true (Int32.not_lt.mp (fun z => (v2.mp z) ((tx7 w).mpr hw4)))
        have hrk := rk_way hw4
        have hlen : ((vw A s).foldl (insB (rkw w)) []).length = (vw A s).length := by rw [insB_flen]; simp
        have hin : ∀ t ∈ (vw A s).foldl (insB (rkw w)) [], inB t := fun t ht => (insB_mem _ _ ht).elim (fun z => absurd z List.not_mem_nil) (fun z => inB_row hw hs12 hk2 z)
        generalize hx6 : (if w = 107 ∨ w = 109 then (1 : Int32) else -1) = x6 at *
        generalize hx5 : (if w = 107 ∨ w = 75 then (1 : Int32) else 0) = x5 at *
        obtain ⟨T, ⟨t1, t2, t3⟩, n, t4⟩ := lpG0 (F := fun n T i => f_X5_sort_L126 r n T hs (nI s) x5 x6 i) (fun i T => Rq r dq cap T hs A ∧ rNw T r (((vw A s).take i).foldl (insB (rkw w)) []) ∧ gI T r 19 = 0) (vw A s).length (fun n T i hi hI => by
          obtain ⟨i1, i2, i3⟩ := hI
          have hvT := i1.see hw hs12 e45
          have q : ((vw A s).length ≤ i) = False := eq_false (by omega)
          obtain ⟨b1, b2⟩ := hvT.2.2.2 i hi
          have hPl : (((vw A s).take i).foldl (insB (rkw w)) []).length = i := by rw [insB_flen, List.length_take]; simp; omega
          have hsn := i2.1
          rw [hPl] at hsn
          obtain ⟨T', d1, d2, d3, d4⟩ := r_sink (m := hs) (x1 := nI s) (x7 := nI i) (k126 := f_X5_sort_L126 r n) (x := (vw A s).getD i tz) hrk hPl (by omega) i T gN i1 hsn (fun k hk => i2.2.2 k (by rw [hPl]; exact hk)) (fun k hk hk3 => by omega) (Nat.le_refl _) (by simp only [gN]; omega)
          refine ⟨T', ⟨d2, ?_, by rw [d4]; exact i3⟩, ?_⟩
          · rw [take_s hi, List.foldl_append]
            show rNw T' r (insB (rkw w) (((vw A s).take i).foldl (insB (rkw w)) []) ((vw A s).getD i tz))
            unfold insB
            unfold insB at hPl d3
            rw [hPl]
            exact d3
          · rw [← nI_1, ← d1, f_X5_sort_L126]
            simp (disch := omega) only [f_X5_sort_b168, i1.1.fs, beq_self_eq_true, gck_t, hvT.2.1, Option.bind_some, nI_leI, q, if_false, b1, b2, hsn]
            by_cases e : x5 = 0
            · rw [if_pos e, hrk, if_pos e]
            · rw [if_neg e, hrk, if_neg e]) (by omega) (gsI (gsI S r 19 0) r 22 0) ⟨h0.nsz 0, by
          rw [List.take_zero]
          exact rNw_nil (by rw [gI_gsI, if_pos ⟨rfl, rfl⟩]), by rw [gI_gsI, if_neg (by omega), gI_gsI, if_pos ⟨rfl, rfl⟩]⟩
        rw [List.take_length] at t2
        generalize hMM : (vw A s).foldl (insB (rkw w)) [] = M at *
        obtain ⟨T2, u1, u2, u3, u4, u5⟩ := r_returns t1 hw hs12 hk2 hin hlen t2
        have hwT := WF_rowC hw hs12 hk2 hin hlen
        obtain ⟨f24, f25⟩ := u2.refL hwT hs12 hk2
        have f24 : gI T2 (r + 24) s = nI (sR (slA A s)) := f24
        have f25 : gI T2 (r + 25) s = oI (sP (slA A s)) := f25
        obtain ⟨-, -, lo, -⟩ := lst_facts hw hs12 (hk2.elim Or.inl (fun h => Or.inr (Or.inl h)))
        obtain ⟨S', y1, y2, y3⟩ := r_letsGo u2 hwT.wC l1 lo (fun p hp hg => (hw.2.2.2.2.2.1 p hp hg).1) hwT.kP (show npA A ≤ 512 by omega)
        have hwS := WF_srt hw hs12 hk2 hin hlen
        obtain ⟨z1, z2⟩ := vw_srt (V := M) hw hs12 hk2 hlen
        have y2 : Rq r dq cap S' (hs + 1) (srtA A s M) := y2
        have hm := r_many y2 hwS hs12 (show sK (slA (srtA A s M) s) ≠ 45 by rw [z1]; exact e45)
        rw [z2, hlen] at hm
        refine ⟨dq, cap, S', hs + 1, ?_, y2, by rw [y3, u4]; exact t3, by omega⟩
        have hvT := t1.see hw hs12 e45
        have hb : f_X5_sort_b71 S hs r (nI s) w (some r) 0 0 0 0 = f_X5_sort_L126 r gN (gsI (gsI S r 19 0) r 22 0) hs (nI s) x5 x6 0 := by
          simp only [f_X5_sort_b71, f_X5_sort_b92, f_X5_sort_b97, f_X5_sort_b111, f_X5_sort_b116, h.1.fs, beq_self_eq_true, gck_t, Option.bind_some, b2i_1, e20, e30, e40, e50, if_true, if_false, r_fails h.1.1, fcd, gb2_s, h0.1.fs]
          rcases hw4 with z | z | z | z <;> (subst z; rw [← hx5, ← hx6]; rfl)
        have hfront : f_X5_sort S hs r (nI s) w = f_X5_sort_b71 S hs r (nI s) w (some r) 0 0 0 0 := by
          simp only [f_X5_sort, f_X5_sort_b23, f_X5_sort_b38, f_X5_sort_b47, f_X5_sort_b57, h.1.1, beq_self_eq_true, gck_t, Option.bind_some, b2i_1, if_false, e2, e3, b2i_t, r_slot1 S hs12, gt_w7, v1, hv4, if_true]
        rw [hfront, hb, t4]
        simp only [f_X5_sort_L126, t1.1.1, u2.1.fs, y2.1.1, beq_self_eq_true, gck_t, hvT.2.1, Option.bind_some, Int32.le_refl, if_true, u1, u2.1.rs.2.1 s hs12, f24, u2.1.rs.2.2.1 s hs12, f25, y1, gb2_s, hm]
end RSort
