/-! raise in the reference -/
def rup (Y : Int32) (t : Tr) : Tr := (t.1, t.2.1 + Y, t.2.2)
def upN (Y : Int32) (V : List Tr) (i : Nat) : List Tr := (V.take i).map (rup Y) ++ V.drop i
theorem upN_0 {Y : Int32} {V : List Tr} : upN Y V 0 = V := by unfold upN; rw [List.take_zero, List.map_nil, List.nil_append, List.drop_zero]
theorem upN_all {Y : Int32} {V : List Tr} : upN Y V V.length = V.map (rup Y) := by unfold upN; rw [List.take_length, List.drop_length, List.append_nil]
theorem upN_len {Y : Int32} {V : List Tr} {i : Nat} (h : i ≤ V.length) : (upN Y V i).length = V.length := by
  unfold upN
  rw [List.length_append, List.length_map, List.length_take, List.length_drop]; omega
theorem upN_gd {Y : Int32} {V : List Tr} {i k : Nat} (h : i ≤ V.length) (hk : k < V.length) : (upN Y V i).getD k tz = if k < i then rup Y (V.getD k tz) else V.getD k tz := by
  unfold upN
  have e1 : ((V.take i).map (rup Y)).length = i := by rw [List.length_map, List.length_take]; omega
  rw [gd_app, e1]
  by_cases c : k < i
  · rw [if_pos c, if_pos c, gd_map (by rw [List.length_take]; omega)]
    refine congrArg (rup Y) ?_
    rw [gd_eq, gd_eq, List.getElem?_take]
    rw [if_pos c]
  · rw [if_neg c, if_neg c, gd_eq, gd_eq, List.getElem?_drop]
    exact congrArg (fun q => (V[q]?).getD tz) (by omega)
theorem upN_s {Y : Int32} {V : List Tr} {i : Nat} (h : i < V.length) : (upN Y V i).set i (rup Y (V.getD i tz)) = upN Y V (i + 1) := by
  refine tl_ext (by rw [List.length_set, upN_len (by omega), upN_len (by omega)]) fun k hk => ?_
  rw [List.length_set, upN_len (by omega)] at hk
  rw [gd_set (by rw [upN_len (by omega)]; exact h), upN_gd (by omega) hk, upN_gd (by omega) hk]
  by_cases e : k = i
  · subst e; rw [if_pos rfl, if_pos (by omega)]
  · rw [if_neg e]
    by_cases c : k < i
    · rw [if_pos c, if_pos (by omega)]
    · rw [if_neg c, if_neg (by omega)]
theorem upN_fst {Y : Int32} {V : List Tr} {i : Nat} : (upN Y V i).map (fun t => t.1) = V.map fun t => t.1 := by
  unfold upN
  rw [List.map_append, List.map_map]
  have : ((fun t : Tr => t.1) ∘ rup Y) = fun t : Tr => t.1 := rfl
  rw [this, ← List.map_append, List.take_append_drop]
theorem upN_mem {Y : Int32} {V : List Tr} {i : Nat} {P : Tr → Prop} (h1 : ∀ t ∈ V, P t) (h2 : ∀ t ∈ V, P (rup Y t)) : ∀ t ∈ upN Y V i, P t := by
  intro t ht
  unfold upN at ht
  rcases List.mem_append.mp ht with h | h
  · obtain ⟨u, hu, rfl⟩ := List.mem_map.mp h
    exact h2 u (List.mem_of_mem_take hu)
  · exact h1 t (List.mem_of_mem_drop h)
theorem e1z : ((1 : Int32) = 0) = False := by decide
section RRai
variable {S S' : GS} {r cap hs hs' : Nat} {dq : Nat → Nat} {A B : AS}
theorem r_raiseL {s a f : Nat} {Y : Int32} {V : List Tr} {P : Nat → AS} (hs12 : s < 12) (h24 : V.length ≤ 24) (hf : f ≤ 24) (har : a ≠ r)
    (hP : ∀ i, i ≤ V.length → WF (P i) ∧ (vw (P i) s).length = V.length ∧ kA (P i) s ≠ 45 ∧ fsA (P i) (slA (P i) s) = f)
    (hS : ∀ T i, i < V.length → Rq r dq cap T hs (P i) → gaI T (some a) 11 (nI (f + i)) = some (V.getD i tz).2.1 ∧ (∀ v, gsaI T (some a) 11 (nI (f + i)) v = some (gsI T a (f + i) v)) ∧ Rq r dq cap (gsI T a (f + i) ((V.getD i tz).2.1 + Y)) hs (P (i + 1)))
    {T0 : GS} (h : Rq r dq cap T0 hs (P 0)) : ∃ T, f_X5_raise_L200 r gN T0 (nI s) Y (some a) 0 = some (nI V.length, T) ∧ Rq r dq cap T hs (P V.length) ∧ gI T r 19 = gI T0 r 19 := by
  obtain ⟨T, ⟨t1, t2⟩, n, t3⟩ := lpG0 (F := fun n T i => f_X5_raise_L200 r n T (nI s) Y (some a) i) (fun i T => Rq r dq cap T hs (P i) ∧ gI T r 19 = gI T0 r 19) V.length (fun n T i hi hI => by
    obtain ⟨i1, i2⟩ := hI
    obtain ⟨p1, p2, p3, p4⟩ := hP i (by omega)
    have hv := i1.see p1 hs12 p3
    have hb := r_begin i1 p1 hs12 p3
    rw [p4] at hb
    have hm := hv.2.1
    rw [p2] at hm
    obtain ⟨y1, y2, y3⟩ := hS T i hi i1
    have q : (V.length ≤ i) = False := eq_false (by omega)
    refine ⟨gsI T a (f + i) ((V.getD i tz).2.1 + Y), ⟨y3, by rw [gI_gsI, if_neg (fun z => har z.1.symm)]; exact i2⟩, ?_⟩
    simp (disch := omega) only [f_X5_raise_L200, i1.1.1, beq_self_eq_true, gck_t, hm, Option.bind_some, nI_leI, q, if_false, hb, nI_add, y1, y2, nI_1]) (by omega) T0 ⟨h, rfl⟩
  obtain ⟨p1, p2, p3, p4⟩ := hP V.length (Nat.le_refl _)
  have hv := t1.see p1 hs12 p3
  have hm := hv.2.1
  rw [p2] at hm
  refine ⟨T, ?_, t1, t2⟩
  rw [t3]
  simp only [f_X5_raise_L200, t1.1.1, beq_self_eq_true, gck_t, hm, Option.bind_some, Int32.le_refl, if_true]
theorem thOk_B {t : Tr} {Y : Int32} (h : inB t) : thOk (t.2.1 + Y) t.2.2 = decide (-999 ≤ (t.2.1 + Y).toInt ∧ (t.2.1 + Y).toInt ≤ 999) := by
  unfold thOk
  obtain ⟨-, -, h3, h4⟩ := h
  by_cases c : -999 ≤ (t.2.1 + Y).toInt ∧ (t.2.1 + Y).toInt ≤ 999
  · rw [decide_eq_true c, decide_eq_true ⟨c.1, c.2, h3, h4⟩]
  · rw [decide_eq_false c, decide_eq_false (fun z => c ⟨z.1, z.2.1⟩)]
theorem r_raise (h : Rq r dq cap S hs A) (hw : WF A) (hp : npA A ≤ 511) (x y : Int32) : rRes [1, 2, 3, 4] r hs A (rLf hs (f_X5_raise S r x y)) (m_raise A x y) := by
  have h0 := h.thr 0
  unfold m_raise
  have t1 : (-9 : Int32).toInt = -9 := by decide
  have t9 : (9 : Int32).toInt = 9 := by decide
  have hin : ∃ v, f_X5_in S y (-9) 9 = some (b2i v) ∧ (v = false ↔ (y < -9 ∨ ¬ y ≤ 9)) := ⟨_, r_in S y (-9) 9, by
    rw [decide_eq_false_iff_not, Int32.lt_iff_toInt_lt, Int32.le_iff_toInt_le, t1, t9]; omega⟩
  obtain ⟨v, hin, hiv⟩ := hin
  have L0 : ∀ (s x3 x5 : Int32), f_X5_raise_L54 S r gN s y x3 0 x5 0 = f_X5_raise_b108 S r s y x3 0 x5 := fun s x3 x5 => by
    show f_X5_raise_L54 S r (4999 + 1) s y x3 0 x5 0 = _
    rw [f_X5_raise_L54]
    rw [if_pos rfl]
  rcases c3 (A := A) x (fun k => kLs k || kMp k) with e | ⟨s, hs12, rfl, e⟩ | ⟨s, hs12, rfl, e45, e⟩
  · rw [nd_no e]
    refine rRes_noP (i := 0) (v := 0) h rfl ?_
    cases v <;> (simp only [f_X5_raise_b195, f_X5_raise_b150, f_X5_raise_b140, f_X5_raise_b130, f_X5_raise_b121, f_X5_raise_b108, f_X5_raise_b100, f_X5_raise_b99, f_X5_raise_b39, f_X5_raise_b38, f_X5_raise_b21, f_X5_raise_b16, f_X5_raise, h.1.fs, beq_self_eq_true, gck_t, Option.bind_some, b2i_1, e20, e30, e40, e50, if_true, if_false, r_fails h.1.1, fcd, gb2_s, b2i_f, b2i_t, r_slot0 S e, r_isList_no h e, r_isMap_no h e, hin, L0]; rfl)
  · rw [nd_bad hs12 e]
    have e := or_bad (q := fun k => kLs k || kMp k) e (by decide)
    rw [Bool.or_eq_false_iff] at e
    have e2 := r_isList h hs12
    have e4 := r_isMap h hs12
    rw [e.1] at e2
    rw [e.2] at e4
    refine rRes_noP (i := 1) (v := 0) h rfl ?_
    cases v <;> (simp only [f_X5_raise_b195, f_X5_raise_b150, f_X5_raise_b140, f_X5_raise_b130, f_X5_raise_b121, f_X5_raise_b108, f_X5_raise_b100, f_X5_raise_b99, f_X5_raise_b39, f_X5_raise_b38, f_X5_raise_b21, f_X5_raise_b16, f_X5_raise, h.1.fs, beq_self_eq_true, gck_t, Option.bind_some, b2i_1, e20, e30, e40, e50, if_true, if_false, r_fails h.1.1, fcd, gb2_s, b2i_f, b2i_t, r_slot1 S hs12, e2, e4, hin, L0]; rfl)
  · rw [nd_ok hs12 e45 e]
    have e2 := r_isList h hs12
    have e4 := r_isMap h hs12
    have e3 := r_canChange h hw hs12 e45
    have hv := h.see hw hs12 e45
    have h24 := hv.2.2.1
    have hstart : f_X5_raise S r (nI s) y = f_X5_raise_L54 S r gN (nI s) y 1 (b2i (sO (slA A s))) (b2i v) 0 := by
      have e : (kLs (kA A s) || kMp (kA A s)) = true := e
      cases c1 : kLs (kA A s)
      · rw [c1] at e2
        rw [c1, Bool.false_or] at e
        rw [e] at e4
        cases ho : sO (slA A s) <;> (rw [ho] at e3; simp only [f_X5_raise_b195, f_X5_raise_b150, f_X5_raise_b140, f_X5_raise_b130, f_X5_raise_b121, f_X5_raise_b108, f_X5_raise_b100, f_X5_raise_b99, f_X5_raise_b39, f_X5_raise_b38, f_X5_raise_b21, f_X5_raise_b16, f_X5_raise, h.1.fs, beq_self_eq_true, gck_t, Option.bind_some, b2i_1, e20, e30, e40, e50, if_true, if_false, r_fails h.1.1, fcd, gb2_s, b2i_f, b2i_t, e2, e3, e4, hin])
      · rw [c1] at e2
        cases ho : sO (slA A s) <;> (rw [ho] at e3; simp only [f_X5_raise_b195, f_X5_raise_b150, f_X5_raise_b140, f_X5_raise_b130, f_X5_raise_b121, f_X5_raise_b108, f_X5_raise_b100, f_X5_raise_b99, f_X5_raise_b39, f_X5_raise_b38, f_X5_raise_b21, f_X5_raise_b16, f_X5_raise, h.1.fs, beq_self_eq_true, gck_t, Option.bind_some, b2i_1, e20, e30, e40, e50, if_true, if_false, r_fails h.1.1, fcd, gb2_s, b2i_f, b2i_t, e2, e3, e4, hin])
    rw [hstart]
    cases ho : sO (slA A s)
    · refine rRes_noP (i := 2) (v := 0) h rfl ?_
      cases v <;> (simp only [f_X5_raise_b195, f_X5_raise_b150, f_X5_raise_b140, f_X5_raise_b130, f_X5_raise_b121, f_X5_raise_b108, f_X5_raise_b100, f_X5_raise_b99, f_X5_raise_b39, f_X5_raise_b38, f_X5_raise_b21, f_X5_raise_b16, f_X5_raise, h.1.fs, beq_self_eq_true, gck_t, Option.bind_some, b2i_1, e20, e30, e40, e50, if_true, if_false, r_fails h.1.1, fcd, gb2_s, b2i_f, b2i_t, r_slot1 S hs12, L0]; rfl)
    · simp only [Bool.true_eq_false, if_false]
      have hl := lpF (F := fun n (c : Bool) i => f_X5_raise_L54 S r n (nI s) y 1 1 (b2i c) i) (vw A s) (fun c t => c && decide (-999 ≤ (t.2.1 + y).toInt ∧ (t.2.1 + y).toInt ≤ 999)) (fun c => f_X5_raise_b108 S r (nI s) y 1 1 (b2i c)) (by omega) (fun n c => by
        simp only [f_X5_raise_L54, h.1.1, beq_self_eq_true, gck_t, hv.2.1, Option.bind_some, Int32.le_refl, if_true, e1z, if_false]) (fun n c i hi => by
        have q : ((vw A s).length ≤ i) = False := eq_false (by omega)
        have m9 : (-999 : Int32).toInt = -999 := by decide
        have p9 : (999 : Int32).toInt = 999 := by decide
        obtain ⟨b1, -⟩ := hv.2.2.2 i hi
        have hi2 := r_in S (((vw A s).getD i tz).2.1 + y) (-999) 999
        rw [m9, p9] at hi2
        generalize hz : decide (-999 ≤ (((vw A s).getD i tz).2.1 + y).toInt ∧ (((vw A s).getD i tz).2.1 + y).toInt ≤ 999) = z at *
        simp (disch := omega) only [f_X5_raise_L54, f_X5_raise_b99, f_X5_raise_b100, h.1.1, beq_self_eq_true, gck_t, hv.2.1, Option.bind_some, nI_leI, q, if_false, e1z, b1, hi2, nI_1]
        cases c <;> cases z <;> rfl) v
      rw [foldl_and] at hl
      have hl : f_X5_raise_L54 S r gN (nI s) y 1 1 (b2i v) 0 = _ := hl
      have hrow : (kA A s = 108 ∨ kA A s = 112) ∨ kA A s = 109 := by
        have e : (kLs (kA A s) || kMp (kA A s)) = true := e
        rcases opn_of hw hs12 e45 ho with z | z | z | z | z
        · exact Or.inl (Or.inl z)
        · exact Or.inl (Or.inr z)
        · exact Or.inr z
        · have z : kA A s = 107 := z
          rw [z] at e; exact absurd e (by decide)
        · have z : kA A s = 118 := z
          rw [z] at e; exact absurd e (by decide)
      have hop : opn A s := hrow.elim (fun z => z.elim Or.inl (fun z => Or.inr (Or.inl z))) (fun z => Or.inr (Or.inr (Or.inl z)))
      have hB := (opn_facts hw hs12 hop).2.2.2.2.2.2
      have hall : ((vw A s).all fun t => thOk (t.2.1 + y) t.2.2) = (vw A s).all fun t => decide (-999 ≤ (t.2.1 + y).toInt ∧ (t.2.1 + y).toInt ≤ 999) := by
        rw [Bool.eq_iff_iff, List.all_eq_true, List.all_eq_true]
        exact ⟨fun z t ht => (thOk_B (hB t ht)).symm.trans (z t ht), fun z t ht => (thOk_B (hB t ht)).trans (z t ht)⟩
      rw [hall]
      show rRes [1, 2, 3, 4] r hs A (rLf hs (f_X5_raise_L54 S r gN (nI s) y 1 1 (b2i v) 0)) _
      rw [hl]
      have bad : ∀ c, c = false → rRes [1, 2, 3, 4] r hs A (rLf hs (f_X5_raise_b108 S r (nI s) y 1 1 (b2i c))) (.inr 4) := fun c z => by
        rw [z]
        exact rRes_noP (i := 3) (v := 0) h rfl (by simp only [f_X5_raise_b195, f_X5_raise_b150, f_X5_raise_b140, f_X5_raise_b130, f_X5_raise_b121, f_X5_raise_b108, f_X5_raise_b100, f_X5_raise_b99, f_X5_raise_b39, f_X5_raise_b38, f_X5_raise_b21, f_X5_raise_b16, f_X5_raise, h.1.fs, beq_self_eq_true, gck_t, Option.bind_some, b2i_1, e20, e30, e40, e50, if_true, if_false, r_fails h.1.1, fcd, gb2_s, b2i_f, b2i_t, r_slot1 S hs12]; rfl)
      by_cases c1 : y < -9
      · rw [if_pos c1, (hiv.mpr (Or.inl c1))]; exact bad _ (Bool.false_and _)
      · rw [if_neg c1]
        by_cases c2 : y ≤ 9
        · rw [if_pos c2]
          have hv1 : v = true := by
            cases hv : v
            · rcases hiv.mp hv with z | z
              · exact absurd z c1
              · exact absurd c2 z
            · rfl
          rw [hv1, Bool.true_and]
          cases hok : (vw A s).all fun t => decide (-999 ≤ (t.2.1 + y).toInt ∧ (t.2.1 + y).toInt ≤ 999)
          · exact bad _ rfl
          · rw [if_pos rfl]
            rw [hok] at hall
            have hUp : ∀ t ∈ vw A s, inB (rup y t) := fun t ht => thOk_in (n := t.1) (List.all_eq_true.mp hall t ht)
            have u19 : gI (gsI S r 19 0) r 19 = 0 := by rw [gI_gsI, if_pos ⟨rfl, rfl⟩]
            show rRes [1, 2, 3, 4] r hs A _ (.inl (nI (vw A s).length, chgA A s ((vw A s).map (rup y))))
            rcases hrow with hk2 | hk2
            · obtain ⟨l1, l2, l3, l4, l5, -⟩ := lst_facts hw hs12 (hk2.elim Or.inl (fun h => Or.inr (Or.inl h)))
              have g24 := (hw.1 _ (show sR (slA A s) < 4 by omega)).1
              have hWn : ∀ i, i ≤ (vw A s).length → WF (rowC A s (upN y (vw A s) i)) ∧ vw (rowC A s (upN y (vw A s) i)) s = upN y (vw A s) i := fun i hi => ⟨WF_rowC hw hs12 hk2 (upN_mem hB hUp) (upN_len hi), rowC_vw hw hs12 hk2 (upN_len hi)⟩
              obtain ⟨T, y1, y2, y3⟩ := r_raiseL (r := r) (cap := cap) (hs := hs) (dq := dq) (s := s) (a := r + (2 + sR (slA A s))) (f := fsA A (slA A s)) (Y := y) (V := vw A s) (P := fun i => rowC A s (upN y (vw A s) i)) hs12 h24 (by omega) (by omega) (fun i hi => ⟨(hWn i hi).1, by show (vw (rowC A s (upN y (vw A s) i)) s).length = _; rw [(hWn i hi).2, upN_len hi], e45, rfl⟩) (fun T i hi hT => by
                have hr2 := hT.2.2.1 _ l1
                rw [show rwA (rowC A s (upN y (vw A s) i)) (sR (slA A s)) = spl (rwA A (sR (slA A s))) (fsA A (slA A s)) (vw A s).length (upN y (vw A s) i) from if_pos rfl] at hr2
                obtain ⟨v1, v2⟩ := hr2.2 (fsA A (slA A s) + i) (by rw [spl_len l4, upN_len (by omega)]; omega)
                have egd : (spl (rwA A (sR (slA A s))) (fsA A (slA A s)) (vw A s).length (upN y (vw A s) i)).getD (fsA A (slA A s) + i) tz = (vw A s).getD i tz := by
                  rw [gd_spl l4, if_neg (by omega), upN_len (by omega), if_pos (by omega), Nat.add_sub_cancel_left, upN_gd (by omega) hi, if_neg (by omega)]
                rw [egd] at v1 v2
                refine ⟨by rw [hT.1.rb.1 _ _ l1 (by omega), v1], fun v => hT.1.wb.1 _ _ _ l1 (by omega), ?_⟩
                have hp1 := r_put1 (n := ((vw A s).getD i tz).1) (k := ((vw A s).getD i tz).2.1 + y) (m := ((vw A s).getD i tz).2.2) (i := i) hT hw hs12 hk2 (upN_len (by omega)) (by rw [upN_len (by omega)]; exact hi)
                rw [gsI_self (by rw [gI_gsI, if_neg (by omega)]; exact v2)] at hp1
                have := upN_s (Y := y) hi
                unfold rup at this
                rw [this] at hp1
                exact hp1) (T0 := gsI S r 19 0) (by
                  show Rq r dq cap (gsI S r 19 0) hs (rowC A s (upN y (vw A s) 0))
                  rw [upN_0]; exact rowC_self hw hs12 hk2 h0)
              rw [← upN_all, chg_eq (upN_len (Nat.le_refl _))]
              refine rRes_okP (S' := T) ?_ y2 (y3.trans u19)
              have k1 : (kA A s = 109) = False := eq_false (fun z => by rw [z] at hk2; revert hk2; decide)
              have e24 : gI (gsI S r 19 0) (r + 24) s = nI (sR (slA A s)) := (h0.refL hw hs12 hk2).1
              simp only [f_X5_raise_b195, f_X5_raise_b150, f_X5_raise_b140, f_X5_raise_b130, f_X5_raise_b121, f_X5_raise_b108, f_X5_raise_b100, f_X5_raise_b99, f_X5_raise_b39, f_X5_raise_b38, f_X5_raise_b21, f_X5_raise_b16, f_X5_raise, h.1.fs, beq_self_eq_true, gck_t, Option.bind_some, b2i_1, e20, e30, e40, e50, if_true, if_false, r_fails h.1.1, fcd, gb2_s, b2i_t, r_slot1 S hs12, h0.1.fs, h0.1.rs.1 s hs12, h0.kd hs12, k1, h0.1.rs.2.1 s hs12, e24, h0.1.ro.1 _ l1, y1]
            · have hm := mapk (A := A) (s := s) (Or.inl (by rw [hk2]; decide))
              obtain ⟨j, hj, hjr, js4, js5, -⟩ := h0.ref hw hs12 (Or.inl (by rw [hk2]; decide))
              have hRj := hw.1 (2 + j) (by omega)
              obtain ⟨q1, q2, -, -, -, q6⟩ := map_facts hw hs12 hm
              have m1 : ((vw A s).map fun t => t.1).Nodup := by rw [q6]; exact hw.2.2.2.2.2.2.1 _ q1 q2
              have m2 : sR (slA A s) = 3 → ((vw A s).map fun t => t.1.toInt).Pairwise (· < ·) := fun z => by rw [q6, z]; exact hw.2.2.2.2.2.2.2
              have hWn : ∀ i, i ≤ (vw A s).length → WF (aSetR A (2 + j) (upN y (vw A s) i)) := fun i hi => WF_AM hw hs12 hm hjr (upN_mem hB hUp) (by rw [upN_len hi]; exact h24) (by rw [upN_fst]; exact m1) (fun z => by
                have := m2 z
                have e9 : ∀ L : List Tr, (L.map fun t => t.1.toInt) = (L.map fun t => t.1).map Int32.toInt := fun L => by rw [List.map_map]; rfl
                rw [e9] at this ⊢
                rw [upN_fst]
                exact this)
              obtain ⟨T, y1, y2, y3⟩ := r_raiseL (r := r) (cap := cap) (hs := hs) (dq := dq) (s := s) (a := r + (12 + j)) (f := 0) (Y := y) (V := vw A s) (P := fun i => aSetR A (2 + j) (upN y (vw A s) i)) hs12 h24 (by omega) (by omega) (fun i hi => ⟨hWn i hi, by show (vw (aSetR A (2 + j) (upN y (vw A s) i)) s).length = _; rw [vw_AM (hWn i hi) hs12 hm hjr, upN_len hi], e45, (map_facts hw hs12 hm).2.2.2.2.1⟩) (fun T i hi hT => by
                have hr2 := hT.2.2.2.1 j hj
                rw [show rwA (aSetR A (2 + j) (upN y (vw A s) i)) (2 + j) = upN y (vw A s) i from if_pos rfl] at hr2
                obtain ⟨v0, v1, v2⟩ := hr2.2 i (by rw [upN_len (by omega)]; exact hi)
                rw [upN_gd (by omega) hi, if_neg (by omega)] at v0 v1 v2
                rw [Nat.zero_add]
                refine ⟨by rw [hT.1.rb.2.2.2.1 _ _ hj (by omega), v1], fun v => hT.1.wb.2.2.2.1 _ _ _ hj (by omega), ?_⟩
                have hself : gsI T (r + 17) j (nI (vw A s).length) = T := gsI_self (by rw [hr2.1, upN_len (by omega)])
                have e3 : wr3 T r j i (rup y ((vw A s).getD i tz)) = gsI T (r + (12 + j)) i (((vw A s).getD i tz).2.1 + y) := by
                  show gsI (gsI (gsI T (r + (9 + j)) i ((vw A s).getD i tz).1) (r + (12 + j)) i (((vw A s).getD i tz).2.1 + y)) (r + (15 + j)) i ((vw A s).getD i tz).2.2 = _
                  rw [gsI_self v0, gsI_self (by rw [gI_gsI, if_neg (by omega)]; exact v2)]
                have hz := (r_mapNew (L := upN y (vw A s) (i + 1)) (z := nI (vw A s).length) (T := wr3 T r j i (rup y ((vw A s).getD i tz))) hT hj (by rw [hself]; exact rW3.rf.wr) (by rw [upN_len (by omega)]) (fun q hq => by
                  rw [upN_len (by omega)] at hq
                  rw [wr3_at hj, ← upN_s hi, gd_set (by rw [upN_len (by omega)]; exact hi)]
                  by_cases e : q = i
                  · rw [if_pos e, if_pos e]
                  · rw [if_neg e, if_neg e]
                    exact (rMap_tr.mp hr2).2 q (by rw [upN_len (by omega)]; exact hq))).1
                rw [e3] at hz
                exact hz.mset) (T0 := gsI S r 19 0) (by
                  show Rq r dq cap (gsI S r 19 0) hs (aSetR A (2 + j) (upN y (vw A s) 0))
                  rw [upN_0, js5]; exact h0.mself)
              rw [← upN_all]
              refine rRes_okP (S' := T) ?_ (y2.chgM hw hs12 hm hjr) (y3.trans u19)
              simp only [f_X5_raise_b195, f_X5_raise_b150, f_X5_raise_b140, f_X5_raise_b130, f_X5_raise_b121, f_X5_raise_b108, f_X5_raise_b100, f_X5_raise_b99, f_X5_raise_b39, f_X5_raise_b38, f_X5_raise_b21, f_X5_raise_b16, f_X5_raise, h.1.fs, beq_self_eq_true, gck_t, Option.bind_some, b2i_1, e20, e30, e40, e50, if_true, if_false, r_fails h.1.1, fcd, gb2_s, b2i_t, r_slot1 S hs12, h0.1.fs, h0.1.rs.1 s hs12, h0.kd hs12, hk2, js4, h0.1.ro.2.2.2.1 _ hj, y1]
        · rw [if_neg c2, (hiv.mpr (Or.inr c2))]; exact bad _ (Bool.false_and _)
end RRai
