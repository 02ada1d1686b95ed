/-! new panes in the reference -/
theorem pn_c (x : Int32) : pnS x = none ∨ ∃ s, 4 ≤ s ∧ s < 12 ∧ x = nI s ∧ pnS x = some s := by
  rcases c_needPane2 (fun _ _ => 0, fun _ _ => none, fun _ => 0, fun _ => 0) x with ⟨e, -⟩ | ⟨s, a, b, c, d, -⟩
  · exact Or.inl e
  · exact Or.inr ⟨s, a, b, c, d⟩
theorem r_pane0 (S : GS) {x : Int32} (h : pnS x = none) : f_X5_isPane S x = some 0 := by rw [r_isPane, h]; rfl
theorem r_pane1 (S : GS) {x : Int32} {s : Nat} (h : pnS x = some s) : f_X5_isPane S x = some 1 := by rw [r_isPane, h]; rfl
theorem m1h : gnr .char (99 : Int32) = true := by decide
theorem m2h : gnr .char (97 : Int32) = true := by decide
theorem m3h : gnr .char (101 : Int32) = true := by decide
abbrev rHl (S : GS) (r s : Nat) (kd x p : Int32) : GS := gsI (gsI (gsI (gsI S (r + 23) s kd) (r + 24) s x) (r + 25) s p) (r + 28) s 0
theorem vw_on {A : AS} {s t : Nat} {x : Sl} (hC : isC x = false) (hC2 : isC (slA A t) = false) (e1 : sR x = sR (slA A t)) (e2 : sP x = sP (slA A t)) : vw (aSetS A s x) s = vw A t := by
  have g1 : vw (aSetS A s x) s = vwA A x := by
    show vwA (aSetS A s x) (slA (aSetS A s x) s) = _
    rw [sl_set, if_pos rfl]
    rfl
  rw [g1]
  show vwA A x = vwA A (slA A t)
  unfold vwA fsA szA
  rw [hC, hC2, e1, e2, if_neg (by decide), if_neg (by decide)]
theorem WF_lk {A : AS} {s t : Nat} {kd : Int32} (hw : WF A) (h4 : 4 ≤ s) (hkd : kd = 107 ∨ kd = 118) (ht12 : t < 12) (hm : sK (slA A t) = 109 ∨ sK (slA A t) = 70 ∨ sK (slA A t) = 107 ∨ sK (slA A t) = 118) : WF (aSetS A s (kd, sR (slA A t), none, 0, 0, sO (slA A t))) := by
  obtain ⟨m1, m2, m3, m4, m5, m6⟩ := map_facts hw ht12 hm
  refine WF_slot hw h4 ⟨fun e => absurd e (by rcases hkd with rfl | rfl <;> simp [isC, sK]), fun _ => ⟨m2, fun p hp => by cases hp⟩, by rcases hkd with rfl | rfl <;> simp [sK], fun e => absurd e (by rcases hkd with rfl | rfl <;> simp [sK]), fun _ => ⟨m1, rfl⟩, fun e => absurd e (by rcases hkd with rfl | rfl <;> simp [sK, isC]), fun e => absurd e (by rcases hkd with rfl | rfl <;> simp [sK]), fun e => absurd e (by rcases hkd with rfl | rfl <;> simp [sK]), fun e => absurd e (by rcases hkd with rfl | rfl <;> simp [sK])⟩ (fun e => absurd e (by rcases hkd with rfl | rfl <;> simp [isC, sK])) (by rcases hkd with rfl | rfl <;> simp [sK])
theorem WF_fx {A : AS} {s t : Nat} {kd : Int32} (hw : WF A) (h4 : 4 ≤ s) (ht12 : t < 12) (hkt : sK (slA A t) = 108 ∨ sK (slA A t) = 112 ∨ sK (slA A t) = 109) (hkd : (kd = 70 ∧ sK (slA A t) = 109) ∨ (kd = 102 ∧ sK (slA A t) ≠ 109)) : WF (aSetS A s (kd, sR (slA A t), sP (slA A t), 0, 0, false)) := by
  have hkd2 : kd = 70 ∨ kd = 102 := hkd.elim (fun h => Or.inl h.1) (fun h => Or.inr h.1)
  have hop : opn A t := by
    rcases hkt with h | h | h
    · exact Or.inl h
    · exact Or.inr (Or.inl h)
    · exact Or.inr (Or.inr (Or.inl h))
  have e45 : sK (slA A t) ≠ 45 := by rcases hkt with h | h | h <;> (rw [h]; decide)
  obtain ⟨l1, l2, l3, l4, l5, l6, l7⟩ := opn_facts hw ht12 hop
  refine WF_slot hw h4 ⟨fun e => absurd e (by rcases hkd2 with rfl | rfl <;> simp [isC, sK]), fun _ => ⟨l1, fun p hp => ?_⟩, by rcases hkd2 with rfl | rfl <;> simp [sK], fun e => ?_, fun e => ?_, fun _ => rfl, fun e => absurd e (by rcases hkd2 with rfl | rfl <;> simp [sK]), fun e => absurd e (by rcases hkd2 with rfl | rfl <;> simp [sK]), fun e => absurd e (by rcases hkd2 with rfl | rfl <;> simp [sK])⟩ (fun e => absurd e (by rcases hkd2 with rfl | rfl <;> simp [isC, sK])) (by rcases hkd2 with rfl | rfl <;> simp [sK])
  · obtain ⟨o1, o2, o3⟩ := l3 p hp
    exact ⟨o1, o2, o3, by have := ((hw.2.1 t ht12 e45).2.1 l2).2 p hp; exact this.2.2.2⟩
  · rcases hkd with ⟨rfl, -⟩ | ⟨rfl, hne⟩
    · exact absurd e (by simp [sK])
    · obtain ⟨v1, v2, v3, v4, -⟩ := hw.2.1 t ht12 e45
      exact v4 (by
        rcases hkt with h | h | h
        · exact Or.inl h
        · exact Or.inr (Or.inl h)
        · exact absurd h hne)
  · rcases hkd with ⟨rfl, h109⟩ | ⟨rfl, hne⟩
    · obtain ⟨m1, m2, m3, m4, m5, m6⟩ := map_facts hw ht12 (Or.inl h109)
      exact ⟨m1, m4⟩
    · exact absurd e (by simp [sK])
section RNew
variable {S S' : GS} {r cap hs hs' : Nat} {dq : Nat → Nat} {A B : AS}
theorem r_newC {s : Nat} {kd x k m : Int32} {xx : Sl} (h : Rq r dq cap S hs A) (e1 : sK xx = kd) (e2 : sP xx = none) (e3 : isC xx = true) (e4 : kd = 99 → x = nI (sR xx)) (e5 : kd ≠ 101 → sY xx = k ∧ sM xx = m) :
    Rq r dq cap (gsI (gsI (rHl S r s kd x (-1)) (r + 26) s k) (r + 27) s m) hs (aSetS A s xx) ∧ gI (gsI (gsI (rHl S r s kd x (-1)) (r + 26) s k) (r + 27) s m) r 19 = gI S r 19 := by
  refine ⟨h.slot (((holds_fr (hs := hs)).tr (rFr.one (by unfold wSt; omega)) (Nat.le_refl _)).tr (rFr.one (by unfold wSt; omega)) (Nat.le_refl _)) ⟨?_, fun _ => ⟨?_, fun _ => ⟨fun z => ?_, fun z => ⟨?_, ?_⟩⟩, fun z => ?_⟩⟩ (Nat.le_refl _) (fun a ha => h.2.2.2.2.2.2.1 a ha), ?_⟩
  · rw [gI_gsI, if_neg (by omega), gI_gsI, if_neg (by omega), holds_at.1, e1]
  · rw [gI_gsI, if_neg (by omega), gI_gsI, if_neg (by omega), holds_at.2.2.1, e2]; rfl
  · rw [gI_gsI, if_neg (by omega), gI_gsI, if_neg (by omega), holds_at.2.1]; exact e4 (e1.symm.trans z)
  · rw [gI_gsI, if_neg (by omega), gI_gsI, if_pos (by simp)]; exact (e5 (fun w => z (e1.trans w))).1.symm
  · rw [gI_gsI, if_pos (by simp)]; exact (e5 (fun w => z (e1.trans w))).2.symm
  · rw [e3] at z; cases z
  · simp only [gI_gsI]
    rw [if_neg (by omega), if_neg (by omega), if_neg (by omega), if_neg (by omega), if_neg (by omega), if_neg (by omega)]
/-- none: what it held besides stays -/
theorem r_newN {s : Nat} {xx : Sl} (h : Rq r dq cap S hs A) (e1 : sK xx = 101) (e2 : sP xx = none) (e3 : isC xx = true) :
    Rq r dq cap (rHl S r s 101 0 (-1)) hs (aSetS A s xx) ∧ gI (rHl S r s 101 0 (-1)) r 19 = gI S r 19 := by
  refine ⟨h.slot (holds_fr (hs := hs)) ⟨by rw [holds_at.1, e1], fun _ => ⟨by rw [holds_at.2.2.1, e2]; rfl, fun _ => ⟨fun z => ?_, fun z => absurd e1 z⟩, fun z => ?_⟩⟩ (Nat.le_refl _) (fun a ha => h.2.2.2.2.2.2.1 a ha), ?_⟩
  · rw [e1] at z; exact absurd z (by decide)
  · rw [e3] at z; cases z
  · simp only [rHl, gI_gsI]
    rw [if_neg (by omega), if_neg (by omega), if_neg (by omega), if_neg (by omega)]
/-- one that looks on a row -/
theorem r_newL {s : Nat} {kd p o : Int32} {xx : Sl} (h : Rq r dq cap S hs A) (e1 : sK xx = kd) (e2 : p = oI (sP xx)) (e3 : isC xx = false) (e4 : o = b2i (!sO xx)) :
    Rq r dq cap (gsI (rHl S r s kd (nI (rIx xx)) p) (r + 28) s o) hs (aSetS A s xx) ∧ gI (gsI (rHl S r s kd (nI (rIx xx)) p) (r + 28) s o) r 19 = gI S r 19 := by
  refine ⟨h.slot ((holds_fr (hs := hs)).tr (rFr.one (by unfold wSt; omega)) (Nat.le_refl _)) ⟨?_, fun _ => ⟨?_, fun z => ?_, fun z => ⟨?_, ?_⟩⟩⟩ (Nat.le_refl _) (fun a ha => h.2.2.2.2.2.2.1 a ha), ?_⟩
  · rw [gI_gsI, if_neg (by omega), holds_at.1, e1]
  · rw [gI_gsI, if_neg (by omega), holds_at.2.2.1, e2]
  · rw [e3] at z; cases z
  · rw [gI_gsI, if_neg (by omega), holds_at.2.1]
  · rw [gI_gsI, if_pos (by simp), e4]
  · simp only [gI_gsI]
    rw [if_neg (by omega), if_neg (by omega), if_neg (by omega), if_neg (by omega), if_neg (by omega)]
theorem r_heldL (h : Rq r dq cap S hs A) : ∀ (d i n c : Nat), i + d = 12 → d < n → f_X5_held_L4 S r n (nI c) (nI i) = some (nI (c + (List.range' i d).countP fun s => decide (kA A s ≠ 45))) := by
  intro d
  induction d with
  | zero =>
    intro i n c h1 h2
    obtain ⟨n, rfl⟩ : ∃ k, n = k + 1 := ⟨n - 1, by omega⟩
    have : i = 12 := by omega
    subst this
    have q : ((12 : Int32) ≤ nI 12) = True := by decide
    simp only [f_X5_held_L4, q, if_true, List.range'_zero, List.countP_nil, Nat.add_zero]
  | succ d ih =>
    intro i n c h1 h2
    obtain ⟨n, rfl⟩ : ∃ k, n = k + 1 := ⟨n - 1, by omega⟩
    have q : ((12 : Int32) ≤ nI i) = False := by
      rw [n_12, n_le (by omega) (by omega)]; exact eq_false (by omega)
    rw [List.range'_succ, List.countP_cons]
    have e := h.kd (s := i) (by omega)
    by_cases c1 : kA A i = 45
    · have c2 : decide (kA A i ≠ 45) = false := decide_eq_false (fun z => z c1)
      have := ih (i + 1) n c (by omega) (by omega)
      simp only [f_X5_held_L4, f_X5_held_b27, q, if_false, h.1.fs, h.1.rs.1 i (by omega), Option.bind_some, e, c1, if_true, nI_1, Int32.add_zero, this, c2, Bool.false_eq_true, Nat.add_zero]
      simp
    · have c2 : decide (kA A i ≠ 45) = true := decide_eq_true c1
      have := ih (i + 1) n (c + 1) (by omega) (by omega)
      simp only [f_X5_held_L4, f_X5_held_b27, q, if_false, h.1.fs, h.1.rs.1 i (by omega), Option.bind_some, e, c1, nI_1, this, c2, if_true]
      exact congrArg (fun z => some (nI z)) (by omega)
theorem r_held (h : Rq r dq cap S hs A) : f_X5_held S r = some (nI (hld A)) := by
  have := r_heldL h 8 4 gN 0 rfl (by simp only [gN]; omega)
  rw [Nat.zero_add, nI_0] at this
  exact this
theorem r_copies (h : Rq r dq cap S hs A) (x n k m : Int32) : rRes [1, 4] r hs A (rLf hs (f_X5_copies S r x n k m)) (m_copies A x n k m) := by
  have h0 := h.thr 0
  have u19 : gI (gsI S r 19 0) r 19 = 0 := by rw [gI_gsI, if_pos ⟨rfl, rfl⟩]
  have t0 : (0 : Int32).toInt = 0 := by decide
  have t24 : (24 : Int32).toInt = 24 := by decide
  unfold m_copies
  have hin : ∃ v, f_X5_in S n 0 24 = some (b2i v) ∧ (v = false ↔ (n < 0 ∨ ¬ n ≤ 24)) := ⟨_, r_in S n 0 24, by
    rw [decide_eq_false_iff_not, Int32.lt_iff_toInt_lt, Int32.le_iff_toInt_le, t0, t24]; omega⟩
  obtain ⟨v, hin, hiv⟩ := hin
  have ht := r_isThing S k m
  rcases pn_c x with e | ⟨s, h4, hs12, rfl, e⟩
  · rw [e]
    refine rRes_noP (i := 0) (v := 0) h rfl ?_
    cases v <;> cases hth : thOk k m <;> rw [hth] at ht <;> (simp only [f_X5_copies_b37, f_X5_copies_b32, f_X5_copies_b13, f_X5_copies, h.1.fs, beq_self_eq_true, gck_t, Option.bind_some, b2i_1, e20, e30, e40, e50, if_true, if_false, r_fails h.1.1, fcd, gb2_s, r_pane0 S e, hin, ht, b2i_f, b2i_t]; rfl)
  · rw [e]
    simp only [bndO]
    have bad : v = false ∨ thOk k m = false → rRes [1, 4] r hs A (rLf hs (f_X5_copies S r (nI s) n k m)) (.inr 4) := fun z => by
      refine rRes_noP (i := 1) (v := 0) h rfl ?_
      rcases z with z | z
      · rw [z] at hin
        simp only [f_X5_copies_b37, f_X5_copies_b32, f_X5_copies_b13, f_X5_copies, h.1.fs, beq_self_eq_true, gck_t, Option.bind_some, b2i_1, e20, e30, e40, e50, if_true, if_false, r_fails h.1.1, fcd, gb2_s, r_pane1 S e, hin, b2i_f, b2i_t]; rfl
      · rw [z] at ht
        cases v <;> (simp only [f_X5_copies_b37, f_X5_copies_b32, f_X5_copies_b13, f_X5_copies, h.1.fs, beq_self_eq_true, gck_t, Option.bind_some, b2i_1, e20, e30, e40, e50, if_true, if_false, r_fails h.1.1, fcd, gb2_s, r_pane1 S e, hin, ht, b2i_f, b2i_t]; rfl)
    by_cases c1 : n < 0
    · rw [if_pos c1]; exact bad (Or.inl (hiv.mpr (Or.inl c1)))
    · rw [if_neg c1]
      by_cases c2 : n ≤ 24
      · rw [if_pos c2]
        cases hth : thOk k m
        · exact bad (Or.inr hth)
        · rw [if_pos rfl]
          rw [hth] at ht
          have hv1 : v = true := by
            cases hv : v
            · rcases hiv.mp hv with z | z
              · exact absurd z c1
              · exact absurd c2 z
            · rfl
          rw [hv1] at hin
          have hn : n = nI n.toNatClampNeg := by
            rcases inP_c n (n := 25) (by omega) with ⟨-, z | ⟨-, z⟩⟩ | ⟨i, i1, i2, i3, i4⟩
            · exact absurd z c1
            · exfalso
              rw [Int32.lt_iff_toInt_lt] at z
              rw [Int32.le_iff_toInt_le, t24] at c2
              have : (nI 25).toInt = 25 := by decide
              omega
            · rw [i4]; exact i2
          obtain ⟨y1, y2⟩ := r_newC (s := s) (kd := 99) (x := n) (k := k) (m := m) (xx := (99, n.toNatClampNeg, none, k, m, false)) h0 rfl rfl rfl (fun _ => hn) (fun _ => ⟨rfl, rfl⟩)
          refine rRes_okP ?_ y1 (y2.trans u19)
          have hh := r_holds (x := n) (p := -1) h0.1 hs12 m1h
          have d1 : rHd (rHl (gsI S r 19 0) r s 99 n (-1)) r dq cap := h0.1
          have d2 := d1.gs (r + 26) s k
          simp only [f_X5_copies_b37, f_X5_copies_b32, f_X5_copies_b13, f_X5_copies, h.1.fs, beq_self_eq_true, gck_t, Option.bind_some, b2i_1, e20, e30, e40, e50, if_true, if_false, r_fails h.1.1, fcd, gb2_s, r_pane1 S e, hin, ht, b2i_f, b2i_t, h0.1.fs, hh, d1.fs, d1.ws.2.2.2.1 s k hs12, d2.fs, d2.ws.2.2.2.2.1 s m hs12]
      · rw [if_neg c2]; exact bad (Or.inl (hiv.mpr (Or.inr c2)))
theorem r_alone (h : Rq r dq cap S hs A) (x k m : Int32) : rRes [1, 4] r hs A (rLf hs (f_X5_alone S r x k m)) (m_alone A x k m) := by
  have h0 := h.thr 0
  have u19 : gI (gsI S r 19 0) r 19 = 0 := by rw [gI_gsI, if_pos ⟨rfl, rfl⟩]
  unfold m_alone
  have ht := r_isThing S k m
  rcases pn_c x with e | ⟨s, h4, hs12, rfl, e⟩
  · rw [e]
    refine rRes_noP (i := 0) (v := 0) h rfl ?_
    cases hth : thOk k m <;> rw [hth] at ht <;> (simp only [f_X5_alone_b26, f_X5_alone_b13, f_X5_alone, h.1.fs, beq_self_eq_true, gck_t, Option.bind_some, b2i_1, e20, e30, e40, e50, if_true, if_false, r_fails h.1.1, fcd, gb2_s, r_pane0 S e, ht, b2i_f, b2i_t]; rfl)
  · rw [e]
    simp only [bndO]
    cases hth : thOk k m
    · rw [hth] at ht
      exact rRes_noP (i := 1) (v := 0) h rfl (by simp only [f_X5_alone_b26, f_X5_alone_b13, f_X5_alone, h.1.fs, beq_self_eq_true, gck_t, Option.bind_some, b2i_1, e20, e30, e40, e50, if_true, if_false, r_fails h.1.1, fcd, gb2_s, r_pane1 S e, ht, b2i_f, b2i_t]; rfl)
    · rw [if_pos rfl]
      rw [hth] at ht
      obtain ⟨y1, y2⟩ := r_newC (s := s) (kd := 97) (x := 0) (k := k) (m := m) (xx := (97, 0, none, k, m, false)) h0 rfl rfl rfl (fun z => absurd z (by decide)) (fun _ => ⟨rfl, rfl⟩)
      refine rRes_okP ?_ y1 (y2.trans u19)
      have hh := r_holds (x := 0) (p := -1) h0.1 hs12 m2h
      have d1 : rHd (rHl (gsI S r 19 0) r s 97 0 (-1)) r dq cap := h0.1
      have d2 := d1.gs (r + 26) s k
      simp only [f_X5_alone_b26, f_X5_alone_b13, f_X5_alone, h.1.fs, beq_self_eq_true, gck_t, Option.bind_some, b2i_1, e20, e30, e40, e50, if_true, if_false, r_fails h.1.1, fcd, gb2_s, r_pane1 S e, ht, b2i_f, b2i_t, h0.1.fs, hh, d1.fs, d1.ws.2.2.2.1 s k hs12, d2.fs, d2.ws.2.2.2.2.1 s m hs12]
      exact congrArg (fun z => some (z, _)) (by rw [Int32.mul_one, Int32.add_assoc])
theorem r_none (h : Rq r dq cap S hs A) (x : Int32) : rRes [1] r hs A (rLf hs (f_X5_none S r x)) (m_none A x) := by
  have h0 := h.thr 0
  have u19 : gI (gsI S r 19 0) r 19 = 0 := by rw [gI_gsI, if_pos ⟨rfl, rfl⟩]
  unfold m_none
  rcases pn_c x with e | ⟨s, h4, hs12, rfl, e⟩
  · rw [e]
    exact rRes_noP (i := 0) (v := 0) h rfl (by simp only [f_X5_none_b13, f_X5_none, h.1.fs, beq_self_eq_true, gck_t, Option.bind_some, b2i_1, e20, e30, e40, e50, if_true, if_false, r_fails h.1.1, fcd, gb2_s, r_pane0 S e]; rfl)
  · rw [e]
    simp only [bndO]
    obtain ⟨y1, y2⟩ := r_newN (s := s) (xx := (101, 0, none, 0, 0, false)) h0 rfl rfl rfl
    refine rRes_okP ?_ y1 (y2.trans u19)
    have hh := r_holds (x := 0) (p := -1) h0.1 hs12 m3h
    have d1 : rHd (rHl (gsI S r 19 0) r s 101 0 (-1)) r dq cap := h0.1
    simp only [f_X5_none_b13, f_X5_none, h.1.fs, beq_self_eq_true, gck_t, Option.bind_some, b2i_1, e20, e30, e40, e50, if_true, if_false, r_fails h.1.1, fcd, gb2_s, r_pane1 S e, h0.1.fs, hh, d1.fs, r_held y1]
theorem r_look (h : Rq r dq cap S hs A) (hw : WF A) (x y kd : Int32) (hkd : kd = 107 ∨ kd = 118) : rRes [1, 2] r hs A (rLf hs (f_X5_looks S r x y kd)) (m_look A x y kd) := by
  have h0 := h.thr 0
  have u19 : gI (gsI S r 19 0) r 19 = 0 := by rw [gI_gsI, if_pos ⟨rfl, rfl⟩]
  unfold m_look
  have hgk : gnr .char kd = true := by rcases hkd with z | z <;> (rw [z]; decide)
  rcases pn_c x with e | ⟨s, h4, hs12, rfl, e⟩
  · rw [e]
    exact rRes_noP (i := 0) (v := 0) h rfl (by simp only [f_X5_looks_b50, f_X5_looks_b49, f_X5_looks_b32, f_X5_looks_b19, f_X5_looks_b18, f_X5_looks, h.1.fs, beq_self_eq_true, gck_t, Option.bind_some, b2i_1, e20, e30, e40, e50, if_true, if_false, r_fails h.1.1, fcd, gb2_s, r_pane0 S e]; rfl)
  · rw [e]
    simp only [bndO]
    rcases c3 (A := A) y kMp with e1 | ⟨t, ht12, rfl, e1⟩ | ⟨t, ht12, rfl, e45, e1⟩
    · rw [nd_no e1]
      exact rRes_noP (i := 0) (v := 0) h rfl (by simp only [f_X5_looks_b50, f_X5_looks_b49, f_X5_looks_b32, f_X5_looks_b19, f_X5_looks_b18, f_X5_looks, h.1.fs, beq_self_eq_true, gck_t, Option.bind_some, b2i_1, e20, e30, e40, e50, if_true, if_false, r_fails h.1.1, fcd, gb2_s, r_pane1 S e, r_slot0 S e1]; rfl)
    · rw [nd_bad ht12 e1]
      have e1 := or_bad (q := kMp) e1 (by decide)
      have e2 := r_isMap h ht12
      rw [e1] at e2
      exact rRes_noP (i := 1) (v := 0) h rfl (by simp only [f_X5_looks_b50, f_X5_looks_b49, f_X5_looks_b32, f_X5_looks_b19, f_X5_looks_b18, f_X5_looks, h.1.fs, beq_self_eq_true, gck_t, Option.bind_some, b2i_1, e20, e30, e40, e50, if_true, if_false, r_fails h.1.1, fcd, gb2_s, r_pane1 S e, r_slot1 S ht12, e2, b2i_f]; rfl)
    · rw [nd_ok ht12 e45 e1]
      have e2 := r_isMap h ht12
      rw [e1] at e2
      have hm := mapk (A := A) (s := t) (Or.inl (by rw [e1]; rfl))
      obtain ⟨j, hj, hjr, js4, js5, -⟩ := h0.ref hw ht12 (Or.inl (by rw [e1]; rfl))
      obtain ⟨l1, l2, l3, l4, l5, l6⟩ := map_facts hw ht12 hm
      obtain ⟨x1, x2⟩ := h0.2.2.2.2.1 t ht12
      obtain ⟨y1, y2, y3⟩ := x2 e45
      have e28 := (y3 l3).2
      have hrx : rIx (kd, sR (slA A t), none, (0 : Int32), (0 : Int32), sO (slA A t)) = j := by
        unfold rIx
        show (if sR (slA A t) < 2 then sR (slA A t) else sR (slA A t) - 2) = j
        rw [if_neg (by omega)]; omega
      have hC : isC (kd, sR (slA A t), none, (0 : Int32), (0 : Int32), sO (slA A t)) = false := by rcases hkd with z | z <;> (rw [z]; rfl)
      obtain ⟨z1, z2⟩ := r_newL (s := s) (kd := kd) (p := -1) (o := b2i (!sO (slA A t))) (xx := (kd, sR (slA A t), none, 0, 0, sO (slA A t))) h0 rfl rfl hC rfl
      rw [hrx] at z1 z2
      refine rRes_okP ?_ z1 (z2.trans u19)
      have hh := r_holds (x := nI j) (p := -1) h0.1 hs12 hgk
      have d1 : rHd (rHl (gsI S r 19 0) r s kd (nI j) (-1)) r dq cap := h0.1
      have hgb : gnr .boolean (b2i (!sO (slA A t))) = true := by cases sO (slA A t) <;> decide
      have h28 := h0.1.rs.2.2.2.2.2.1 t ht12
      rw [e28] at h28
      have hwf := WF_lk (s := s) hw h4 hkd ht12 hm
      have hks : kA (aSetS A s (kd, sR (slA A t), none, 0, 0, sO (slA A t))) s = kd := by show sK (slA (aSetS A s _) s) = _; rw [sl_set, if_pos rfl]; rfl
      have hmany := r_many z1 hwf hs12 (by rw [hks]; rcases hkd with z | z <;> (rw [z]; decide))
      have hvw : vw (aSetS A s (kd, sR (slA A t), none, 0, 0, sO (slA A t))) s = vw A t := vw_on hC l3 rfl l4.symm
      rw [hvw] at hmany
      simp only [f_X5_looks_b50, f_X5_looks_b49, f_X5_looks_b32, f_X5_looks_b19, f_X5_looks_b18, f_X5_looks, h.1.fs, beq_self_eq_true, gck_t, Option.bind_some, b2i_1, e20, e30, e40, e50, if_true, if_false, r_fails h.1.1, fcd, gb2_s, r_pane1 S e, r_slot1 S ht12, e2, b2i_t, h0.1.fs, h28, js4, hh, d1.fs, hgb, d1.ws.2.2.2.2.2.1 s _ hs12, (d1.gs (r + 28) s (b2i (!sO (slA A t)))).fs, hmany]
theorem r_keys (h : Rq r dq cap S hs A) (hw : WF A) (x y : Int32) : rRes [1, 2] r hs A (rLf hs (f_X5_keys S r x y)) (m_look A x y 107) := by
  have := r_look h hw x y 107 (Or.inl rfl)
  have e : f_X5_keys S r x y = f_X5_looks S r x y 107 := by
    simp only [f_X5_keys, h.1.1, beq_self_eq_true, gck_t]
    cases f_X5_looks S r x y 107 <;> rfl
  rw [e]; exact this
theorem r_values (h : Rq r dq cap S hs A) (hw : WF A) (x y : Int32) : rRes [1, 2] r hs A (rLf hs (f_X5_values S r x y)) (m_look A x y 118) := by
  have := r_look h hw x y 118 (Or.inr rfl)
  have e : f_X5_values S r x y = f_X5_looks S r x y 118 := by
    simp only [f_X5_values, h.1.1, beq_self_eq_true, gck_t]
    cases f_X5_looks S r x y 118 <;> rfl
  rw [e]; exact this
theorem r_fixed (h : Rq r dq cap S hs A) (hw : WF A) (x y : Int32) : rRes [1, 2] r hs A (rLf hs (f_X5_fixed S r x y)) (m_fixed A x y) := by
  have h0 := h.thr 0
  have u19 : gI (gsI S r 19 0) r 19 = 0 := by rw [gI_gsI, if_pos ⟨rfl, rfl⟩]
  unfold m_fixed
  rcases pn_c x with e | ⟨s, h4, hs12, rfl, e⟩
  · rw [e]
    exact rRes_noP (i := 0) (v := 0) h rfl (by simp only [f_X5_fixed_b80, f_X5_fixed_b49, f_X5_fixed_b48, f_X5_fixed_b30, f_X5_fixed_b19, f_X5_fixed_b18, f_X5_fixed, h.1.fs, beq_self_eq_true, gck_t, Option.bind_some, b2i_1, e20, e30, e40, e50, if_true, if_false, r_fails h.1.1, fcd, gb2_s, r_pane0 S e]; rfl)
  · rw [e]
    simp only [bndO]
    rcases c3 (A := A) y (fun k => k == 108 || k == 112 || k == 109) with e1 | ⟨t, ht12, rfl, e1⟩ | ⟨t, ht12, rfl, e45, e1⟩
    · rw [nd_no e1]
      exact rRes_noP (i := 0) (v := 0) h rfl (by simp only [f_X5_fixed_b80, f_X5_fixed_b49, f_X5_fixed_b48, f_X5_fixed_b30, f_X5_fixed_b19, f_X5_fixed_b18, f_X5_fixed, h.1.fs, beq_self_eq_true, gck_t, Option.bind_some, b2i_1, e20, e30, e40, e50, if_true, if_false, r_fails h.1.1, fcd, gb2_s, r_pane1 S e, r_slot0 S e1]; rfl)
    · rw [nd_bad ht12 e1]
      have e1 : (kA A t == 108 || (kA A t == 112 || kA A t == 109)) = false := by rw [← Bool.or_assoc]; exact or_bad (q := fun k => k == 108 || k == 112 || k == 109) e1 (by decide)
      have e2 := r_isOf h.1 ht12 (show 1 < 8 by omega)
      rw [h.kd ht12, tx1, e1] at e2
      exact rRes_noP (i := 1) (v := 0) h rfl (by simp only [f_X5_fixed_b80, f_X5_fixed_b49, f_X5_fixed_b48, f_X5_fixed_b30, f_X5_fixed_b19, f_X5_fixed_b18, f_X5_fixed, h.1.fs, beq_self_eq_true, gck_t, Option.bind_some, b2i_1, e20, e30, e40, e50, if_true, if_false, r_fails h.1.1, fcd, gb2_s, r_pane1 S e, r_slot1 S ht12, e2, b2i_f]; rfl)
    · rw [nd_ok ht12 e45 e1]
      have e1 : (kA A t == 108 || (kA A t == 112 || kA A t == 109)) = true := by rw [← Bool.or_assoc]; exact e1
      have e2 := r_isOf h.1 ht12 (show 1 < 8 by omega)
      rw [h.kd ht12, tx1, e1] at e2
      have hkt : sK (slA A t) = 108 ∨ sK (slA A t) = 112 ∨ sK (slA A t) = 109 := by
        simp only [Bool.or_eq_true, beq_iff_eq] at e1
        exact e1
      have hop : opn A t := by
        rcases hkt with h | h | h
        · exact Or.inl h
        · exact Or.inr (Or.inl h)
        · exact Or.inr (Or.inr (Or.inl h))
      obtain ⟨l1, l2, -⟩ := opn_facts hw ht12 hop
      obtain ⟨x1, x2⟩ := h0.2.2.2.2.1 t ht12
      obtain ⟨y1, y2, y3⟩ := x2 e45
      have e24 := (y3 l2).1
      have h24 := h0.1.rs.2.1 t ht12
      rw [e24] at h24
      have h25 := h0.1.rs.2.2.1 t ht12
      rw [y1] at h25
      have key : ∀ kd : Int32, (kd = 70 ∧ sK (slA A t) = 109) ∨ (kd = 102 ∧ sK (slA A t) ≠ 109) → rRes [1, 2] r hs A (rLf hs (f_X5_fixed_b80 r (gsI S r 19 0) (nI s) (nI t) (some r) (nI s) kd)) (.inl (nI (vw A t).length, aSetS A s (kd, sR (slA A t), sP (slA A t), 0, 0, false))) := by
        intro kd hkd
        have hkd2 : kd = 70 ∨ kd = 102 := hkd.elim (fun h => Or.inl h.1) (fun h => Or.inr h.1)
        have hgk : gnr .char kd = true := by rcases hkd2 with z | z <;> (rw [z]; decide)
        have hC : isC (kd, sR (slA A t), sP (slA A t), (0 : Int32), (0 : Int32), false) = false := by rcases hkd2 with z | z <;> (rw [z]; rfl)
        obtain ⟨z1, z2⟩ := r_newL (s := s) (kd := kd) (p := oI (sP (slA A t))) (o := 1) (xx := (kd, sR (slA A t), sP (slA A t), 0, 0, false)) h0 rfl rfl hC rfl
        have hrx : rIx (kd, sR (slA A t), sP (slA A t), (0 : Int32), (0 : Int32), false) = rIx (slA A t) := rfl
        rw [hrx] at z1 z2
        refine rRes_okP ?_ z1 (z2.trans u19)
        have hh := r_holds (x := nI (rIx (slA A t))) (p := oI (sP (slA A t))) h0.1 hs12 hgk
        have d1 : rHd (rHl (gsI S r 19 0) r s kd (nI (rIx (slA A t))) (oI (sP (slA A t)))) r dq cap := h0.1
        have hwf := WF_fx (s := s) hw h4 ht12 hkt hkd
        have hks : kA (aSetS A s (kd, sR (slA A t), sP (slA A t), 0, 0, false)) s = kd := by show sK (slA (aSetS A s _) s) = _; rw [sl_set, if_pos rfl]; rfl
        have hmany := r_many z1 hwf hs12 (by rw [hks]; rcases hkd2 with z | z <;> (rw [z]; decide))
        rw [vw_on hC l2 rfl rfl] at hmany
        simp only [f_X5_fixed_b80, h0.1.fs, h24, h25, Option.bind_some, hh, d1.fs, d1.ws.2.2.2.2.2.1 s _ hs12, (d1.gs (r + 28) s 1).fs, beq_self_eq_true, gck_t, hmany]
      have hfx : f_X5_fixed S r (nI s) (nI t) = if kA A t = 109 then f_X5_fixed_b80 r (gsI S r 19 0) (nI s) (nI t) (some r) (nI s) 70 else f_X5_fixed_b80 r (gsI S r 19 0) (nI s) (nI t) (some r) (nI s) 102 := by
        simp only [f_X5_fixed, f_X5_fixed_b18, f_X5_fixed_b19, f_X5_fixed_b30, f_X5_fixed_b48, f_X5_fixed_b49, h.1.fs, beq_self_eq_true, gck_t, Option.bind_some, b2i_1, e20, e30, e40, e50, if_true, if_false, r_fails h.1.1, fcd, gb2_s, r_pane1 S e, r_slot1 S ht12, e2, b2i_t, h0.1.fs, h0.1.rs.1 t ht12, h0.kd ht12]
      rw [hfx]
      by_cases c : kA A t = 109
      · rw [if_pos c, if_pos c]; exact key 70 (Or.inl ⟨rfl, c⟩)
      · rw [if_neg c, if_neg c]; exact key 102 (Or.inr ⟨rfl, c⟩)
end RNew
