/-! strip, drop, strike in the reference -/
theorem isT_self (t : Tr) : isT t.2.1 t.2.2 t = true := by unfold isT; simp
theorem isT_sym {t u : Tr} (h : isT t.2.1 t.2.2 u = true) : isT u.2.1 u.2.2 t = true := by
  unfold isT at h ⊢
  simp only [Bool.and_eq_true, beq_iff_eq] at h ⊢
  exact ⟨h.1.symm, h.2.symm⟩
theorem fIdx_eq {q : Tr → Bool} {M : List Tr} : ∀ (l : List Tr) (i j : Nat), M.drop i = l → i ≤ j → j < M.length → q (M.getD j tz) = true → (∀ k, i ≤ k → k < j → q (M.getD k tz) = false) → fIdx q l i = nI j := by
  intro l
  induction l with
  | nil =>
    intro i j h1 h2 h3 h4 h5
    have := gd_nil h1
    omega
  | cons t l ih =>
    intro i j h1 h2 h3 h4 h5
    obtain ⟨a1, a2, a3⟩ := gd_cons h1
    unfold fIdx
    by_cases e : i = j
    · subst e
      rw [a2] at h4
      rw [if_pos h4]
    · have := h5 i (Nat.le_refl _) (by omega)
      rw [a2] at this
      rw [if_neg (by rw [this]; decide)]
      exact ih (i + 1) j a3 (by omega) h3 h4 (fun k hk => h5 k (by omega))
theorem lIdx_eq {q : Tr → Bool} {M : List Tr} {j : Nat} (h4 : q (M.getD j tz) = true) : ∀ (n : Nat), j < n → (∀ k, j < k → k < n → q (M.getD k tz) = false) → lIdx q M n = nI j := by
  intro n
  induction n with
  | zero => intro h; omega
  | succ n ih =>
    intro h1 h2
    unfold lIdx
    by_cases e : n = j
    · subst e; rw [if_pos h4]
    · rw [if_neg (by rw [h2 n (by omega) (by omega)]; decide)]
      exact ih (by omega) (fun k h3 h5 => h2 k h3 (by omega))
theorem lIdx_some {q : Tr → Bool} {M : List Tr} {j : Nat} (hj : j < 2 ^ 31) : ∀ (n : Nat), n < 2 ^ 31 → lIdx q M n = nI j → q (M.getD j tz) = true ∧ ∀ k, j < k → k < n → q (M.getD k tz) = false := by
  intro n
  induction n with
  | zero =>
    intro _ h
    have h : (-1 : Int32) = nI j := h
    rw [m1_nI hj] at h
    exact h.elim
  | succ n ih =>
    intro hn h
    unfold lIdx at h
    by_cases e : q (M.getD n tz) = true
    · rw [if_pos e] at h
      have : n = j := (nI_eq (by omega) hj).mp h
      subst this
      exact ⟨e, fun k h1 h2 => by omega⟩
    · rw [if_neg e] at h
      obtain ⟨g1, g2⟩ := ih (by omega) h
      refine ⟨g1, fun k h1 h2 => ?_⟩
      by_cases e2 : k = n
      · subst e2; exact Bool.not_eq_true _ ▸ e
      · exact g2 k h1 (by omega)
theorem unl_eq {V : List Tr} : ∀ (l : List Tr) (i : Nat) (c : Bool), V.drop i = l → (unl V l i c = true ↔ c = true ∧ ∀ j, i ≤ j → j < V.length → fIdx (isT (V.getD j tz).2.1 (V.getD j tz).2.2) V 0 = nI j) := by
  intro l
  induction l with
  | nil =>
    intro i c h
    have := gd_nil h
    exact ⟨fun z => ⟨z, fun j h1 h2 => by omega⟩, fun z => z.1⟩
  | cons t l ih =>
    intro i c h
    obtain ⟨a1, a2, a3⟩ := gd_cons h
    rw [unl, ih (i + 1) _ a3, Bool.and_eq_true, decide_eq_true_eq, ← a2]
    refine ⟨fun ⟨⟨z1, z2⟩, z3⟩ => ⟨z1, fun j h1 h2 => ?_⟩, fun ⟨z1, z2⟩ => ⟨⟨z1, z2 i (Nat.le_refl _) a1⟩, fun j h1 h2 => z2 j (by omega) h2⟩⟩
    by_cases e : j = i
    · subst e; exact z2
    · exact z3 j (by omega) h2
theorem twn_eq {V : List Tr} : ∀ (l : List Tr) (i : Nat), V.drop i = l → (twn V l i = false ↔ ∀ j, i ≤ j → j < V.length → lIdx (isT (V.getD j tz).2.1 (V.getD j tz).2.2) V V.length = nI j) := by
  intro l
  induction l with
  | nil =>
    intro i h
    have := gd_nil h
    exact ⟨fun z j h1 h2 => by omega, fun z => rfl⟩
  | cons t l ih =>
    intro i h
    obtain ⟨a1, a2, a3⟩ := gd_cons h
    rw [twn, ← a2]
    by_cases c : lIdx (isT (V.getD i tz).2.1 (V.getD i tz).2.2) V V.length = nI i
    · rw [if_pos c, ih (i + 1) a3]
      refine ⟨fun z j h1 h2 => ?_, fun z j h1 h2 => z j (by omega) h2⟩
      by_cases e : j = i
      · subst e; exact c
      · exact z j (by omega) h2
    · rw [if_neg c]
      exact ⟨fun z => (by cases z), fun z => absurd (z i (Nat.le_refl _) a1) c⟩
theorem unl_twn {V : List Tr} (h : V.length < 2 ^ 31) : unl V V 0 true = !twn V V 0 := by
  have u := unl_eq (V := V) V 0 true rfl
  have w := twn_eq (V := V) V 0 rfl
  have key : unl V V 0 true = true ↔ twn V V 0 = false := by
    rw [u, w]
    refine ⟨fun ⟨_, z⟩ j _ hj => ?_, fun z => ⟨rfl, fun j _ hj => ?_⟩⟩
    · refine lIdx_eq (isT_self _) _ hj (fun k h1 h2 => ?_)
      cases e : isT (V.getD j tz).2.1 (V.getD j tz).2.2 (V.getD k tz)
      · rfl
      · have := (fIdx_some (M := V) V 0 k rfl h2 h (z k (by omega) h2)).2.2 j (by omega) h1
        rw [isT_sym e] at this
        cases this
    · refine fIdx_eq V 0 j rfl (by omega) hj (isT_self _) (fun k _ h2 => ?_)
      cases e : isT (V.getD j tz).2.1 (V.getD j tz).2.2 (V.getD k tz)
      · rfl
      · have := (lIdx_some (M := V) (show k < 2 ^ 31 by omega) V.length h (z k (by omega) (by omega))).2 j h2 hj
        rw [isT_sym e] at this
        cases this
  cases a : unl V V 0 true <;> cases b : twn V V 0 <;> simp_all
section RStr
variable {S S' : GS} {r cap hs hs' : Nat} {dq : Nat → Nat} {A B : AS}
theorem r_strip (h : Rq r dq cap S hs A) (hw : WF A) (hp : npA A ≤ 511) (x y : Int32) : rRes [1, 2, 3, 4] r hs A (f_X5_strip S hs r x y) (m_strip A x y) := by
  have h0 := h.thr 0
  have t2 : (2 : Int32).toInt = 2 := by decide
  have t9 : (9 : Int32).toInt = 9 := by decide
  unfold m_strip
  have hin : ∃ v, f_X5_in S y 2 9 = some (b2i v) ∧ (v = false ↔ (y < 2 ∨ ¬ y ≤ 9)) := ⟨_, r_in S y 2 9, by
    rw [decide_eq_false_iff_not, Int32.lt_iff_toInt_lt, Int32.le_iff_toInt_le, t2, t9]; omega⟩
  obtain ⟨v, hin, hiv⟩ := hin
  rcases c3 (A := A) x (fun k => isRw k || k == 107) with e | ⟨s, hs12, rfl, e⟩ | ⟨s, hs12, rfl, e45, e⟩
  · rw [nd_no e]
    refine rRes_no (i := 0) (v := 0) h rfl ?_
    cases v <;> (simp only [f_X5_strip_b169, f_X5_strip_b151, f_X5_strip_b88, f_X5_strip_b73, f_X5_strip_b63, f_X5_strip_b54, f_X5_strip_b39, f_X5_strip_b38, f_X5_strip_b21, f_X5_strip_b16, f_X5_strip, h.1.fs, beq_self_eq_true, gck_t, Option.bind_some, b2i_1, e20, e30, e40, e50, if_true, if_false, r_fails h.1.1, fcd, gb2_s, b2i_f, b2i_t, r_slot0 S e, r_isRow_no h e, r_isKeys_no h e, hin]; rfl)
  · rw [nd_bad hs12 e]
    have e := or_bad (q := fun k => isRw k || k == 107) e (by decide)
    rw [Bool.or_eq_false_iff] at e
    have e2 := r_isRow h hs12
    have e4 := r_isKeys h hs12
    have e5 : (kLs (kA A s) || kA A s == 118) = false := e.1
    rw [e5] at e2
    rw [e.2] at e4
    refine rRes_no (i := 1) (v := 0) h rfl ?_
    cases v <;> (simp only [f_X5_strip_b169, f_X5_strip_b151, f_X5_strip_b88, f_X5_strip_b73, f_X5_strip_b63, f_X5_strip_b54, f_X5_strip_b39, f_X5_strip_b38, f_X5_strip_b21, f_X5_strip_b16, f_X5_strip, h.1.fs, beq_self_eq_true, gck_t, Option.bind_some, b2i_1, e20, e30, e40, e50, if_true, if_false, r_fails h.1.1, fcd, gb2_s, b2i_f, b2i_t, r_slot1 S hs12, e2, e4, hin]; rfl)
  · rw [nd_ok hs12 e45 e]
    have e2 := r_isRow h hs12
    have e4 := r_isKeys h hs12
    have e3 := r_canChange h hw hs12 e45
    have hno : sO (slA A s) = false → f_X5_strip S hs r (nI s) y = some (0, gsI S r 19 (nI (2 + 1)), hs) := by
      intro ho
      rw [ho] at e3
      have e : (isRw (kA A s) || kA A s == 107) = true := e
      cases c1 : isRw (kA A s)
      · rw [show (kLs (kA A s) || kA A s == 118) = false from c1] at e2
        rw [c1, Bool.false_or] at e
        rw [e] at e4
        cases v <;> (simp only [f_X5_strip_b169, f_X5_strip_b151, f_X5_strip_b88, f_X5_strip_b73, f_X5_strip_b63, f_X5_strip_b54, f_X5_strip_b39, f_X5_strip_b38, f_X5_strip_b21, f_X5_strip_b16, f_X5_strip, h.1.fs, beq_self_eq_true, gck_t, Option.bind_some, b2i_1, e20, e30, e40, e50, if_true, if_false, r_fails h.1.1, fcd, gb2_s, b2i_f, b2i_t, r_slot1 S hs12, e2, e3, e4, hin]; rfl)
      · rw [show (kLs (kA A s) || kA A s == 118) = true from c1] at e2
        cases v <;> (simp only [f_X5_strip_b169, f_X5_strip_b151, f_X5_strip_b88, f_X5_strip_b73, f_X5_strip_b63, f_X5_strip_b54, f_X5_strip_b39, f_X5_strip_b38, f_X5_strip_b21, f_X5_strip_b16, f_X5_strip, h.1.fs, beq_self_eq_true, gck_t, Option.bind_some, b2i_1, e20, e30, e40, e50, if_true, if_false, r_fails h.1.1, fcd, gb2_s, b2i_f, b2i_t, r_slot1 S hs12, e2, e3, e4, hin]; rfl)
    have hyes : sO (slA A s) = true → f_X5_strip S hs r (nI s) y = if v = true then f_X5_strip_L106 r gN (gnw (gsI S r 19 0) hs 12 24) (hs + 1) (nI s) y (some hs) 0 else some (0, gsI S r 19 (nI (3 + 1)), hs) := by
      intro ho
      rw [ho] at e3
      have e : (isRw (kA A s) || kA A s == 107) = true := e
      cases c1 : isRw (kA A s)
      · rw [show (kLs (kA A s) || kA A s == 118) = false from c1] at e2
        rw [c1, Bool.false_or] at e
        rw [e] at e4
        cases v <;> (simp only [f_X5_strip_b169, f_X5_strip_b151, f_X5_strip_b88, f_X5_strip_b73, f_X5_strip_b63, f_X5_strip_b54, f_X5_strip_b39, f_X5_strip_b38, f_X5_strip_b21, f_X5_strip_b16, f_X5_strip, h.1.fs, beq_self_eq_true, gck_t, Option.bind_some, b2i_1, e20, e30, e40, e50, if_true, if_false, r_fails h.1.1, fcd, gb2_s, b2i_f, b2i_t, r_slot1 S hs12, e2, e3, e4, hin, n24c, Bool.false_eq_true]; try rfl)
      · rw [show (kLs (kA A s) || kA A s == 118) = true from c1] at e2
        cases v <;> (simp only [f_X5_strip_b169, f_X5_strip_b151, f_X5_strip_b88, f_X5_strip_b73, f_X5_strip_b63, f_X5_strip_b54, f_X5_strip_b39, f_X5_strip_b38, f_X5_strip_b21, f_X5_strip_b16, f_X5_strip, h.1.fs, beq_self_eq_true, gck_t, Option.bind_some, b2i_1, e20, e30, e40, e50, if_true, if_false, r_fails h.1.1, fcd, gb2_s, b2i_f, b2i_t, r_slot1 S hs12, e2, e3, e4, hin, n24c, Bool.false_eq_true]; try rfl)
    cases ho : sO (slA A s)
    · exact rRes_no (i := 2) (v := 0) h rfl (hno ho)
    · simp only [Bool.true_eq_false, if_false]
      have hyes := hyes ho
      have bad : v = false → rRes [1, 2, 3, 4] r hs A (f_X5_strip S hs r (nI s) y) (.inr 4) := fun z => by
        rw [z] at hyes
        exact rRes_no (i := 3) (v := 0) h rfl hyes
      by_cases c1 : y < 2
      · rw [if_pos c1]; exact bad (hiv.mpr (Or.inl c1))
      · rw [if_neg c1]
        by_cases c2 : y ≤ 9
        · rw [if_pos c2]
          have hv1 : v = true := by
            cases hv : v
            · rcases hiv.mp hv with z | z
              · exact absurd z c1
              · exact absurd c2 z
            · rfl
          rw [hv1, if_pos rfl] at hyes
          have hk := opn_row hw hs12 e45 ho e
          have h24 := vw_24 hw hs12 e45
          have h8 := h0.2.2.2.2.2.2
          have hy0 : decide (¬ y = 0) = true := decide_eq_true (fun z => c1 (by rw [z]; decide))
          obtain ⟨T, ⟨n, t1⟩, t2, t3, t4⟩ := r_fillS (V := vw A s) (q := q_strip (kA A s) y) (F := fun n T i => f_X5_strip_L106 r n T (hs + 1) (nI s) y (some hs) i) h0 h24 (fun T n i hi j1 j2 j3 => by
            have hv := j1.see hw hs12 e45
            have q1 : ((vw A s).length ≤ i) = False := eq_false (by omega)
            obtain ⟨b1, b2⟩ := hv.2.2.2 i hi
            have hb1 := saI12 (v := 1) j2 j3 (show i < 24 by omega)
            have hb0 := saI12 (v := 0) j2 j3 (show i < 24 by omega)
            show f_X5_strip_L106 r (n + 1) T (hs + 1) (nI s) y (some hs) (nI i) = _
            unfold q_strip
            by_cases ck : kA A s = 107
            · have hw1 : (kMp (kA A s) || kA A s == 107) = true := by rw [ck]; decide
              obtain ⟨js, js2, -, js4, js5, -⟩ := j1.ref hw hs12 (Or.inl hw1)
              have hns := j1.nj hw js2
              rw [← js5] at hns
              have h3 := hns.2.2.2 i hi
              rw [if_pos ck]
              by_cases c : ((vw A s).getD i tz).1 - ((vw A s).getD i tz).1 / y * y = 0
              · rw [decide_eq_true c]
                simp (disch := omega) only [f_X5_strip_L106, f_X5_strip_b151, f_X5_strip_b169, j1.1.fs, beq_self_eq_true, gck_t, hv.2.1, Option.bind_some, nI_leI, q1, if_false, j1.1.rs.1 s hs12, j1.kd hs12, ck, if_true, js4, hns.2.2.1, h3, hy0, c, gnb0, hb0, nI_1, Bool.not_true, b2i_f]
              · rw [decide_eq_false c]
                simp (disch := omega) only [f_X5_strip_L106, f_X5_strip_b151, f_X5_strip_b169, j1.1.fs, beq_self_eq_true, gck_t, hv.2.1, Option.bind_some, nI_leI, q1, if_false, j1.1.rs.1 s hs12, j1.kd hs12, ck, if_true, js4, hns.2.2.1, h3, hy0, c, gnb1, hb1, nI_1, Bool.not_false, b2i_t]
            · rw [if_neg ck]
              by_cases c : ((vw A s).getD i tz).2.1 - ((vw A s).getD i tz).2.1 / y * y = 0
              · rw [decide_eq_true c]
                simp (disch := omega) only [f_X5_strip_L106, f_X5_strip_b151, f_X5_strip_b169, j1.1.fs, beq_self_eq_true, gck_t, hv.2.1, Option.bind_some, nI_leI, q1, if_false, j1.1.rs.1 s hs12, j1.kd hs12, ck, b1, hy0, c, if_true, gnb0, hb0, nI_1, Bool.not_true, b2i_f]
              · rw [decide_eq_false c]
                simp (disch := omega) only [f_X5_strip_L106, f_X5_strip_b151, f_X5_strip_b169, j1.1.fs, beq_self_eq_true, gck_t, hv.2.1, Option.bind_some, nI_leI, q1, if_false, j1.1.rs.1 s hs12, j1.kd hs12, ck, b1, hy0, c, gnb1, hb1, nI_1, Bool.not_false, b2i_t])
          have u19 : gI (gsI S r 19 0) r 19 = 0 := by rw [gI_gsI, if_pos ⟨rfl, rfl⟩]
          obtain ⟨S2, hs2, u1, u2, u3, u4⟩ := r_stays t2 hw hs12 hk (by omega) (by omega) (by omega) t3 (t4.trans u19)
          have hvT := t2.see hw hs12 e45
          refine ⟨dq, cap, S2, hs2, ?_, u2, u3, by omega⟩
          rw [hyes, t1]
          simp only [f_X5_strip_L106, t2.1.1, beq_self_eq_true, gck_t, hvT.2.1, Option.bind_some, Int32.le_refl, if_true, u1, gb3]
        · rw [if_neg c2]; exact bad (hiv.mpr (Or.inr c2))
theorem r_strike (h : Rq r dq cap S hs A) (hw : WF A) (hp : npA A ≤ 511) (x n : Int32) : rRes [1, 2, 3] r hs A (rLf hs (f_X5_strike S r x n)) (m_strike A x n) := by
  have h0 := h.thr 0
  unfold m_strike
  rcases c3 (A := A) x (fun k => kMp k || k == 107) with e | ⟨s, hs12, rfl, e⟩ | ⟨s, hs12, rfl, e45, e⟩
  · rw [nd_no e]
    exact rRes_noP (i := 0) (v := 0) h rfl (by simp only [f_X5_strike_b86, f_X5_strike_b45, f_X5_strike_b44, f_X5_strike_b28, f_X5_strike_b19, f_X5_strike, h.1.fs, beq_self_eq_true, gck_t, Option.bind_some, b2i_1, e20, e30, e40, e50, if_true, if_false, r_fails h.1.1, fcd, gb2_s, r_slot0 S e, r_hasNumbers_no h e]; rfl)
  · rw [nd_bad hs12 e]
    have e := or_bad (q := fun k => kMp k || k == 107) e (by decide)
    have e2 := r_hasNumbers h hs12
    rw [e] at e2
    exact rRes_noP (i := 1) (v := 0) h rfl (by simp only [f_X5_strike_b86, f_X5_strike_b45, f_X5_strike_b44, f_X5_strike_b28, f_X5_strike_b19, f_X5_strike, h.1.fs, beq_self_eq_true, gck_t, Option.bind_some, b2i_1, e20, e30, e40, e50, if_true, if_false, r_fails h.1.1, fcd, gb2_s, r_slot1 S hs12, e2, b2i_f]; rfl)
  · rw [nd_ok hs12 e45 e]
    have e2 := r_hasNumbers h hs12
    rw [e] at e2
    have e3 := r_canChange h hw hs12 e45
    cases ho : sO (slA A s)
    · rw [ho] at e3
      exact rRes_noP (i := 2) (v := 0) h rfl (by simp only [f_X5_strike_b86, f_X5_strike_b45, f_X5_strike_b44, f_X5_strike_b28, f_X5_strike_b19, f_X5_strike, h.1.fs, beq_self_eq_true, gck_t, Option.bind_some, b2i_1, e20, e30, e40, e50, if_true, if_false, r_fails h.1.1, fcd, gb2_s, e2, e3, b2i_f, b2i_t, r_slot1 S hs12]; rfl)
    · rw [ho] at e3
      simp only [Bool.true_eq_false, if_false]
      have hm := mapk (A := A) (s := s) (Or.inl e)
      obtain ⟨j, hj, hjr, js4, js5, -⟩ := h0.ref hw hs12 (Or.inl e)
      have hns := h0.nj hw hj
      rw [← js5] at hns
      have h24 := vw_24 hw hs12 e45
      have ha := r_placeOfNumber h0.1 hns n
      have u19 : gI (gsI S r 19 0) r 19 = 0 := by rw [gI_gsI, if_pos ⟨rfl, rfl⟩]
      rcases fIdx_find (fun t => t.1 == n) (M := vw A s) (vw A s) 0 rfl with ⟨-, g2⟩ | ⟨p, g0, g1, -⟩
      · rw [g2] at ha ⊢
        rw [if_neg (by decide)]
        exact rRes_okP (S' := gsI S r 19 0) (by simp only [f_X5_strike_b86, f_X5_strike_b45, f_X5_strike_b44, f_X5_strike_b28, f_X5_strike_b19, f_X5_strike, h.1.fs, beq_self_eq_true, gck_t, Option.bind_some, b2i_1, e20, e30, e40, e50, if_true, if_false, r_fails h.1.1, fcd, gb2_s, h0.1.fs, e2, e3, b2i_f, b2i_t, r_slot1 S hs12, js4, ha]) h0 u19
      · rw [g1] at ha ⊢
        rw [if_pos (nI_pos' (by omega)), nI_clamp (by omega)]
        obtain ⟨T, s1, s2, s3, s4, s5⟩ := r_strikes (p := p) h0 hj (by rw [← js5]; exact g0) (by rw [← js5]; exact h24)
        rw [← js5] at s2
        refine rRes_okP (S' := T) ?_ (s2.chgM hw hs12 hm hjr) ((s3 19).trans u19)
        have q1 := nI_m1 (p := p) (by omega)
        simp only [f_X5_strike_b86, f_X5_strike_b45, f_X5_strike_b44, f_X5_strike_b28, f_X5_strike_b19, f_X5_strike, h.1.fs, beq_self_eq_true, gck_t, Option.bind_some, b2i_1, e20, e30, e40, e50, if_true, if_false, r_fails h.1.1, fcd, gb2_s, h0.1.fs, e2, e3, b2i_f, b2i_t, r_slot1 S hs12, js4, ha, q1, s1]
theorem r_drop (h : Rq r dq cap S hs A) (hw : WF A) (hp : npA A ≤ 511) (x k m : Int32) : rRes [1, 2, 3, 5] r hs A (f_X5_drop S hs r x k m) (m_drop A x k m) := by
  have h0 := h.thr 0
  unfold m_drop
  rcases c3 (A := A) x isRw with e | ⟨s, hs12, rfl, e⟩ | ⟨s, hs12, rfl, e45, e⟩
  · rw [nd_no e]
    exact rRes_no (i := 0) (v := 0) h rfl (by simp only [f_X5_drop_b89, f_X5_drop_b88, f_X5_drop_b60, f_X5_drop_b50, f_X5_drop_b40, f_X5_drop_b25, f_X5_drop_b24, f_X5_drop, h.1.fs, beq_self_eq_true, gck_t, Option.bind_some, b2i_1, e20, e30, e40, e50, if_true, if_false, r_fails h.1.1, fcd, gb2_s, r_slot0 S e, r_isRow_no h e]; rfl)
  · rw [nd_bad hs12 e]
    have e : (kLs (kA A s) || kA A s == 118) = false := or_bad (q := isRw) e (by decide)
    have e2 := r_isRow h hs12
    rw [e] at e2
    exact rRes_no (i := 1) (v := 0) h rfl (by simp only [f_X5_drop_b89, f_X5_drop_b88, f_X5_drop_b60, f_X5_drop_b50, f_X5_drop_b40, f_X5_drop_b25, f_X5_drop_b24, f_X5_drop, h.1.fs, beq_self_eq_true, gck_t, Option.bind_some, b2i_1, e20, e30, e40, e50, if_true, if_false, r_fails h.1.1, fcd, gb2_s, r_slot1 S hs12, e2, b2i_f]; rfl)
  · rw [nd_ok hs12 e45 e]
    have e2 := r_isRow h hs12
    have e : (kLs (kA A s) || kA A s == 118) = true := e
    rw [e] at e2
    have e3 := r_canChange h hw hs12 e45
    have hv := h.see hw hs12 e45
    have hv0 := h0.see hw hs12 e45
    have h24 := hv.2.2.1
    cases ho : sO (slA A s)
    · rw [ho] at e3
      exact rRes_no (i := 2) (v := 0) h rfl (by simp only [f_X5_drop_b89, f_X5_drop_b88, f_X5_drop_b60, f_X5_drop_b50, f_X5_drop_b40, f_X5_drop_b25, f_X5_drop_b24, f_X5_drop, h.1.fs, beq_self_eq_true, gck_t, Option.bind_some, b2i_1, e20, e30, e40, e50, if_true, if_false, r_fails h.1.1, fcd, gb2_s, e2, e3, b2i_f, b2i_t, r_slot1 S hs12]; rfl)
    · rw [ho] at e3
      simp only [Bool.true_eq_false, if_false]
      have u19 : gI (gsI S r 19 0) r 19 = 0 := by rw [gI_gsI, if_pos ⟨rfl, rfl⟩]
      have ef := r_firstOf hv0 k m
      have hk := opn_row hw hs12 e45 ho (by rw [show isRw (kA A s) = true from e]; rfl)
      by_cases k1 : kA A s = 118
      · have hun := r_areUnlike hv
        rw [unl_twn (by omega)] at hun
        have hm : sK (slA A s) = 109 ∨ sK (slA A s) = 70 ∨ sK (slA A s) = 107 ∨ sK (slA A s) = 118 := Or.inr (Or.inr (Or.inr k1))
        obtain ⟨j, hj, hjr, js4, js5, -⟩ := h0.ref hw hs12 (Or.inr k1)
        cases ht : twn (vw A s) (vw A s) 0
        · rw [ht] at hun
          have hb : (kA A s = 118 ∧ false = true) = False := eq_false (fun z => by cases z.2)
          simp only [hb, if_false]
          rcases fIdx_find (isT k m) (M := vw A s) (vw A s) 0 rfl with ⟨-, g2⟩ | ⟨p, g0, g1, -⟩
          · rw [g2] at ef ⊢
            rw [if_neg (by decide)]
            exact ⟨dq, cap, gsI S r 19 0, hs, by simp only [f_X5_drop_b89, f_X5_drop_b88, f_X5_drop_b60, f_X5_drop_b50, f_X5_drop_b40, f_X5_drop_b25, f_X5_drop_b24, f_X5_drop, h.1.fs, beq_self_eq_true, gck_t, Option.bind_some, b2i_1, e20, e30, e40, e50, if_true, if_false, r_fails h.1.1, fcd, gb2_s, h0.1.fs, h.1.rs.1 s hs12, h.kd hs12, h0.1.rs.1 s hs12, h0.kd hs12, k1, hun, Bool.not_false, e2, e3, b2i_f, b2i_t, r_slot1 S hs12, ef], h0, u19, Nat.le_refl _⟩
          · rw [g1] at ef ⊢
            rw [if_pos (nI_pos' (by omega)), nI_clamp (by omega)]
            have q1 := nI_m1 (p := p) (by omega)
            obtain ⟨T, s1, s2, s3, s4, s5⟩ := r_strikes (p := p) h0 hj (by rw [← js5]; exact g0) (by rw [← js5]; exact h24)
            rw [← js5] at s2
            exact ⟨dq, cap, T, hs, by simp only [f_X5_drop_b89, f_X5_drop_b88, f_X5_drop_b60, f_X5_drop_b50, f_X5_drop_b40, f_X5_drop_b25, f_X5_drop_b24, f_X5_drop, h.1.fs, beq_self_eq_true, gck_t, Option.bind_some, b2i_1, e20, e30, e40, e50, if_true, if_false, r_fails h.1.1, fcd, gb2_s, h0.1.fs, h.1.rs.1 s hs12, h.kd hs12, h0.1.rs.1 s hs12, h0.kd hs12, k1, hun, Bool.not_false, e2, e3, b2i_f, b2i_t, r_slot1 S hs12, ef, q1, js4, s1], s2.chgM hw hs12 hm hjr, (s3 19).trans u19, Nat.le_refl _⟩
        · rw [ht] at hun
          rw [if_pos ⟨k1, rfl⟩]
          exact rRes_no (i := 3) (v := 0) h rfl (by simp only [f_X5_drop_b89, f_X5_drop_b88, f_X5_drop_b60, f_X5_drop_b50, f_X5_drop_b40, f_X5_drop_b25, f_X5_drop_b24, f_X5_drop, h.1.fs, beq_self_eq_true, gck_t, Option.bind_some, b2i_1, e20, e30, e40, e50, if_true, if_false, r_fails h.1.1, fcd, gb2_s, h.1.rs.1 s hs12, h.kd hs12, k1, hun, Bool.not_true, e2, e3, b2i_f, b2i_t, r_slot1 S hs12]; rfl)
      · rw [if_neg (fun z => k1 z.1)]
        have hk2 : kA A s = 108 ∨ kA A s = 112 := by
          rcases hk with z | z | z
          · exact z
          · rw [z] at e; exact absurd e (by decide)
          · exact absurd z k1
        rcases fIdx_find (isT k m) (M := vw A s) (vw A s) 0 rfl with ⟨-, g2⟩ | ⟨p, g0, g1, -⟩
        · rw [g2] at ef ⊢
          rw [if_neg (by decide)]
          exact ⟨dq, cap, gsI S r 19 0, hs, by simp only [f_X5_drop_b89, f_X5_drop_b88, f_X5_drop_b60, f_X5_drop_b50, f_X5_drop_b40, f_X5_drop_b25, f_X5_drop_b24, f_X5_drop, h.1.fs, beq_self_eq_true, gck_t, Option.bind_some, b2i_1, e20, e30, e40, e50, if_true, if_false, r_fails h.1.1, fcd, gb2_s, h0.1.fs, h.1.rs.1 s hs12, h.kd hs12, h0.1.rs.1 s hs12, h0.kd hs12, k1, e2, e3, b2i_f, b2i_t, r_slot1 S hs12, ef], h0, u19, Nat.le_refl _⟩
        · rw [g1] at ef ⊢
          rw [if_pos (nI_pos' (by omega)), nI_clamp (by omega)]
          have q1 := nI_m1 (p := p) (by omega)
          obtain ⟨S', hs', u1, u2, u3, u4⟩ := r_leaves h0 hw hs12 hk2 g0 (by omega) u19
          exact ⟨dq, cap, S', hs', by simp only [f_X5_drop_b89, f_X5_drop_b88, f_X5_drop_b60, f_X5_drop_b50, f_X5_drop_b40, f_X5_drop_b25, f_X5_drop_b24, f_X5_drop, h.1.fs, beq_self_eq_true, gck_t, Option.bind_some, b2i_1, e20, e30, e40, e50, if_true, if_false, r_fails h.1.1, fcd, gb2_s, h0.1.fs, h.1.rs.1 s hs12, h.kd hs12, h0.1.rs.1 s hs12, h0.kd hs12, k1, e2, e3, b2i_f, b2i_t, r_slot1 S hs12, ef, q1, u1], u2, u3, u4⟩
end RStr
