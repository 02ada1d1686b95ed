/-! the reference moves things -/
theorem rWr.w1 {r j p : Nat} {k : Int32} {S T : GS} (h : rWr r j S T) : rWr r j S (gsI T (r + (2 + j)) p k) := by
  obtain ⟨h1, h2, h3, h4⟩ := h
  refine ⟨h1, h2, h3, fun b q hq => ?_⟩
  unfold wRw at hq
  rw [gI_gsI, if_neg (by omega)]
  exact h4 b q hq
theorem rWr.w2 {r j p : Nat} {k : Int32} {S T : GS} (h : rWr r j S T) : rWr r j S (gsI T (r + (5 + j)) p k) := by
  obtain ⟨h1, h2, h3, h4⟩ := h
  refine ⟨h1, h2, h3, fun b q hq => ?_⟩
  unfold wRw at hq
  rw [gI_gsI, if_neg (by omega)]
  exact h4 b q hq
def mvE (a z : Int32) : Int32 := ((a - a / z * z) + z) - ((a - a / z * z) + z) / z * z
theorem mvE_n {b z : Nat} (hb : b < 2 ^ 30) (h0 : 0 < z) (hz : z ≤ 24) : mvE (nI b) (nI z) = nI (b % z) := by
  unfold mvE
  have := Nat.mod_lt b h0
  rw [pk_rem (by omega) h0 (by omega), nI_add, pk_rem (by omega) h0 (by omega), Nat.add_mod_right, Nat.mod_mod]
set_option maxRecDepth 100000 in
theorem mvE_neg : ∀ b, b < 101 → ∀ z, z < 24 → mvE (-(nI b)) (nI (z + 1)) = nI (((z + 1) - b % (z + 1)) % (z + 1)) := by decide +kernel
theorem rot_of {x : Int32} {z : Nat} {n : Int} (h : x.toInt = n) : rot x z = (n % (z : Int)).toNat := by unfold rot; rw [h]
theorem mvE_rot {a : Int32} {z : Nat} (h1 : -100 ≤ a.toInt) (h2 : a.toInt ≤ 200) (h0 : 0 < z) (hz : z ≤ 24) : mvE a (nI z) = nI (rot a z) := by
  rcases Int.le_total 0 a.toInt with h | h
  · obtain ⟨n, hn⟩ : ∃ n : Nat, a.toInt = (n : Int) := ⟨a.toInt.toNat, by omega⟩
    have e : a = nI n := Int32.toInt_inj.mp (by rw [hn, nI_toInt (by omega)])
    rw [rot_of hn, e, mvE_n (by omega) h0 hz]
    exact congrArg nI (by omega)
  · obtain ⟨b, hb⟩ : ∃ b : Nat, a.toInt = -(b : Int) := ⟨(-a.toInt).toNat, by omega⟩
    have e : a = -(nI b) := Int32.toInt_inj.mp (by
      rw [hb, Int32.toInt_neg, nI_toInt (by omega)]
      simp [Int.bmod]
      omega)
    obtain ⟨z, rfl⟩ : ∃ k, z = k + 1 := ⟨z - 1, by omega⟩
    rw [rot_of hb, e, mvE_neg b (by omega) z (by omega)]
    refine congrArg nI ?_
    by_cases q : b % (z + 1) = 0
    · rw [q]
      have : (-(b : Int)) % ((z + 1 : Nat) : Int) = 0 := Int.emod_eq_zero_of_dvd (Int.dvd_neg.mpr (Int.natCast_dvd_natCast.mpr (Nat.dvd_of_mod_eq_zero q)))
      rw [this]
      simp
    · have h3 : b % (z + 1) < z + 1 := Nat.mod_lt _ (by omega)
      rw [Nat.mod_eq_of_lt (by omega)]
      have : (-(b : Int)) % ((z + 1 : Nat) : Int) = ((z + 1 - b % (z + 1) : Nat) : Int) := by
        have h5 : (b : Int) = ((z + 1 : Nat) : Int) * ((b / (z + 1) : Nat) : Int) + ((b % (z + 1) : Nat) : Int) := by exact_mod_cast (Nat.div_add_mod b (z + 1)).symm
        rw [show -(b : Int) = ((z + 1 - b % (z + 1) : Nat) : Int) + ((z + 1 : Nat) : Int) * (-((b / (z + 1) : Nat) : Int) - 1) by
          have h6 : ((z + 1 - b % (z + 1) : Nat) : Int) = ((z + 1 : Nat) : Int) - ((b % (z + 1) : Nat) : Int) := by omega
          rw [h6, Int.mul_sub, Int.mul_neg]; omega]
        rw [Int.add_mul_emod_self_left]
        exact Int.emod_eq_of_lt (by omega) (by omega)
      rw [this]
      omega
section RMov
variable {S S' : GS} {r cap hs hs' : Nat} {dq : Nat → Nat} {A : AS}
theorem r_moves {s : Nat} {M : List Tr} {x2 x3 : Int32} {τ σ : Nat → Nat} (h : Rq r dq cap S hs A) (hw : WF A) (hs12 : s < 12) (hk : sK (slA A s) = 108 ∨ sK (slA A s) = 112) (hM : ∀ t ∈ M, inB t) (hl : M.length = (vw A s).length)
    (hτ : ∀ i, i < M.length → τ i < M.length ∧ M.getD (τ i) tz = (vw A s).getD i tz ∧ mvE (x2 + x3 * nI i) (nI M.length) = nI (τ i)) (hi : ∀ i j, i < M.length → j < M.length → τ i = τ j → i = j) (hσ : ∀ k, k < M.length → σ k < M.length ∧ τ (σ k) = k) :
    ∃ S', f_X5_moves S r (nI s) x2 x3 = some (nI M.length, S') ∧ Rq r dq cap S' hs (rowC A s M) ∧ rNw S' r M ∧ gI S' r 19 = gI S r 19 := by
  have e45 : kA A s ≠ 45 := by
    show sK (slA A s) ≠ 45
    rcases hk with h | h <;> (rw [h]; decide)
  have h24 := vw_24 hw hs12 e45
  have hv := h.see hw hs12 e45
  obtain ⟨T, ⟨t1, t2, t3, t4⟩, n, t5⟩ := lpG0 (F := fun n T i => f_X5_moves_L16 r n T (nI s) x2 x3 (nI M.length) i) (fun i T => Rq r dq cap T hs A ∧ gI T r 22 = nI M.length ∧ (∀ k, k < i → gI T (r + 29) (τ k) = ((vw A s).getD k tz).2.1 ∧ gI T (r + 30) (τ k) = ((vw A s).getD k tz).2.2) ∧ gI T r 19 = gI S r 19) M.length (fun n T i hi2 hI => by
      obtain ⟨i1, i2, i3, i4⟩ := hI
      have hvT := i1.see hw hs12 e45
      obtain ⟨b1, b2⟩ := hvT.2.2.2 i (by omega)
      obtain ⟨c1, c2, c3⟩ := hτ i hi2
      unfold mvE at c3
      have fr1 : rFr hs (wSc r) T (gsI T (r + 29) (τ i) ((vw A s).getD i tz).2.1) := rFr.one (by unfold wSc; omega)
      have j1 : Rq r dq cap (gsI T (r + 29) (τ i) ((vw A s).getD i tz).2.1) hs A := i1.sc1 fr1 (fun _ => rfl)
      have hvT1 := j1.see hw hs12 e45
      obtain ⟨d1, d2⟩ := hvT1.2.2.2 i (by omega)
      have fr2 : rFr hs (wSc r) (gsI T (r + 29) (τ i) ((vw A s).getD i tz).2.1) (gsI (gsI T (r + 29) (τ i) ((vw A s).getD i tz).2.1) (r + 30) (τ i) ((vw A s).getD i tz).2.2) := rFr.one (by unfold wSc; omega)
      refine ⟨gsI (gsI T (r + 29) (τ i) ((vw A s).getD i tz).2.1) (r + 30) (τ i) ((vw A s).getD i tz).2.2, ⟨j1.sc1 fr2 (fun _ => rfl), ?_, fun k hk9 => ?_, ?_⟩, ?_⟩
      · rw [gI_gsI, if_neg (by omega), gI_gsI, if_neg (by omega)]; exact i2
      · simp only [gI_gsI]
        by_cases e : k = i
        · subst e
          rw [if_neg (by omega), if_pos (by simp), if_pos (by simp)]
          exact ⟨rfl, rfl⟩
        · have hne : τ k ≠ τ i := fun z => e (hi k i (by omega) hi2 z)
          rw [if_neg (by omega), if_neg (by omega), if_neg (by omega), if_neg (by omega)]
          exact i3 k (by omega)
      · rw [gI_gsI, if_neg (by omega), gI_gsI, if_neg (by omega)]; exact i4
      · have q : (M.length ≤ i) = False := eq_false (by omega)
        have q0 : decide (¬ nI M.length = 0) = true := decide_eq_true (nI_ne0 (by omega) (by omega))
        simp (disch := omega) only [f_X5_moves_L16, nI_leI, q, if_false, q0, gck_t, i1.1.fs, beq_self_eq_true, b1, Option.bind_some, c3, i1.1.ws.2.2.2.2.2.2.2.2.1 (τ i) _ (show τ i < 72 by omega), j1.1.fs, d2, j1.1.ws.2.2.2.2.2.2.2.2.2.1 (τ i) _ (show τ i < 72 by omega), nI_1]) (by omega) (gsI S r 22 (nI M.length)) ⟨h.nsz _, by rw [gI_gsI, if_pos ⟨rfl, rfl⟩], fun k hk9 => by omega, by rw [gI_gsI, if_neg (by omega)]⟩
  have hn : rNw T r M := by
    refine ⟨t2, by omega, fun k hk9 => ?_⟩
    obtain ⟨g1, g2⟩ := hσ k hk9
    obtain ⟨c1, c2, c3⟩ := hτ (σ k) g1
    rw [g2] at c2
    have := t3 (σ k) g1
    rw [g2] at this
    rw [c2]
    exact this
  obtain ⟨S', u1, u2, u3, u4, u5⟩ := r_returns t1 hw hs12 hk hM hl hn
  refine ⟨S', ?_, u2, u3, u4.trans t4⟩
  simp only [f_X5_moves, h.1.fs, beq_self_eq_true, gck_t, hv.2.1, Option.bind_some, ← hl]
  rw [t5]
  simp only [f_X5_moves_L16, Int32.le_refl, if_true, t1.1.fs, beq_self_eq_true, gck_t, u1, Option.bind_some]
theorem r_turn (h : Rq r dq cap S hs A) (hw : WF A) (hp : npA A ≤ 511) (x  : Int32) : rRes [1, 2, 3] r hs A (rLf hs (f_X5_turn S r x)) (m_turn A x) := by
  have h0 := h.thr 0
  unfold m_turn
  rcases c3 (A := A) x kLs with e | ⟨s, hs12, rfl, e⟩ | ⟨s, hs12, rfl, e45, e⟩
  · rw [nd_no e]
    exact rRes_noP (i := 0) (v := 0) h rfl (by simp only [f_X5_turn_b55, f_X5_turn_b46, f_X5_turn_b37, f_X5_turn_b23, f_X5_turn_b22, f_X5_turn, h.1.fs, beq_self_eq_true, gck_t, Option.bind_some, b2i_1, e20, e30, e40, e50, if_true, if_false, r_fails h.1.1, fcd, gb2_s, r_isList_no h e, r_slot0 S e]; rfl)
  · rw [nd_bad hs12 e]
    have e := or_bad (q := kLs) e (by decide)
    have e2 := r_isList h hs12
    rw [e] at e2
    exact rRes_noP (i := 1) (v := 0) h rfl (by simp only [f_X5_turn_b55, f_X5_turn_b46, f_X5_turn_b37, f_X5_turn_b23, f_X5_turn_b22, f_X5_turn, h.1.fs, beq_self_eq_true, gck_t, Option.bind_some, b2i_1, e20, e30, e40, e50, if_true, if_false, r_fails h.1.1, fcd, gb2_s, e2, b2i_f, r_slot1 S hs12]; rfl)
  · rw [nd_ok hs12 e45 e]
    have e2 := r_isList h hs12
    rw [e] at e2
    have e3 := r_canChange h hw hs12 e45
    have hv := h.see hw hs12 e45
    have hv0 := h0.see hw hs12 e45
    have h24 := hv.2.2.1
    cases ho : sO (slA A s)
    · rw [ho] at e3
      exact rRes_noP (i := 2) (v := 0) h rfl (by simp only [f_X5_turn_b55, f_X5_turn_b46, f_X5_turn_b37, f_X5_turn_b23, f_X5_turn_b22, f_X5_turn, h.1.fs, beq_self_eq_true, gck_t, Option.bind_some, b2i_1, e20, e30, e40, e50, if_true, if_false, r_fails h.1.1, fcd, gb2_s, e2, e3, b2i_f, b2i_t, r_slot1 S hs12]; rfl)
    · rw [ho] at e3
      simp only [Bool.true_eq_false, if_false]
      have hk2 := kLs_op hw hs12 e ho
      obtain ⟨l1, l2, l3, l4, l5, -⟩ := lst_facts hw hs12 (hk2.elim Or.inl (fun h => Or.inr (Or.inl h)))
      have g24 := (hw.1 _ (show sR (slA A s) < 4 by omega)).1
      have hin : ∀ t ∈ (vw A s).reverse, inB t := fun t ht => inB_row hw hs12 hk2 (List.mem_reverse.mp ht)
      have hlen : (vw A s).reverse.length = (vw A s).length := List.length_reverse
      rw [chg_eq hlen]
      obtain ⟨S', u1, u2, u3, u4⟩ := r_moves (x2 := nI (vw A s).length - 1) (x3 := -1) (τ := fun i => (vw A s).length - 1 - i) (σ := fun i => (vw A s).length - 1 - i) h0 hw hs12 hk2 hin hlen (fun i hi => by
        rw [hlen] at hi
        refine ⟨by omega, ?_, ?_⟩
        · rw [gd_rev (by omega)]
          exact congrArg (fun q => (vw A s).getD q tz) (by omega)
        · have : nI (vw A s).length - 1 + -1 * nI i = nI ((vw A s).length - 1 - i) := by
            rw [Int32.neg_mul, Int32.one_mul, ← Int32.sub_eq_add_neg, n_1, pk_sub (by omega), pk_sub (by omega)]
          rw [this, hlen, mvE_n (by omega) (by omega) h24]
          exact congrArg nI (Nat.mod_eq_of_lt (by omega))) (fun i j hi hj e => by omega) (fun k hk => ⟨by omega, by omega⟩)
      rw [hlen] at u1
      refine rRes_okP (S' := S') ?_ u2 (by rw [u4, gI_gsI, if_pos ⟨rfl, rfl⟩])
      simp only [f_X5_turn_b55, f_X5_turn_b46, f_X5_turn_b37, f_X5_turn_b23, f_X5_turn_b22, f_X5_turn, h.1.fs, beq_self_eq_true, gck_t, Option.bind_some, b2i_1, e20, e30, e40, e50, if_true, if_false, r_fails h.1.1, fcd, gb2_s, h0.1.fs, e2, e3, b2i_t, b2i_f, r_slot1 S hs12, hv0.2.1, u1]
theorem r_rotate (h : Rq r dq cap S hs A) (hw : WF A) (hp : npA A ≤ 511) (x y : Int32) : rRes [1, 2, 3, 4] r hs A (rLf hs (f_X5_rotate S r x y)) (m_rotate A x y) := by
  have h0 := h.thr 0
  unfold m_rotate
  rcases c3 (A := A) x kLs with e | ⟨s, hs12, rfl, e⟩ | ⟨s, hs12, rfl, e45, e⟩
  · rw [nd_no e]
    exact rRes_noP (i := 0) (v := 0) h rfl (by simp only [f_X5_rotate_b73, f_X5_rotate_b57, f_X5_rotate_b47, f_X5_rotate_b38, f_X5_rotate_b23, f_X5_rotate_b22, f_X5_rotate, h.1.fs, beq_self_eq_true, gck_t, Option.bind_some, b2i_1, e20, e30, e40, e50, if_true, if_false, r_fails h.1.1, fcd, gb2_s, r_isList_no h e, r_slot0 S e, r_in, ite_self]; rfl)
  · rw [nd_bad hs12 e]
    have e := or_bad (q := kLs) e (by decide)
    have e2 := r_isList h hs12
    rw [e] at e2
    exact rRes_noP (i := 1) (v := 0) h rfl (by simp only [f_X5_rotate_b73, f_X5_rotate_b57, f_X5_rotate_b47, f_X5_rotate_b38, f_X5_rotate_b23, f_X5_rotate_b22, f_X5_rotate, h.1.fs, beq_self_eq_true, gck_t, Option.bind_some, b2i_1, e20, e30, e40, e50, if_true, if_false, r_fails h.1.1, fcd, gb2_s, e2, b2i_f, r_slot1 S hs12, r_in, ite_self]; rfl)
  · rw [nd_ok hs12 e45 e]
    have e2 := r_isList h hs12
    rw [e] at e2
    have e3 := r_canChange h hw hs12 e45
    have hv := h.see hw hs12 e45
    have hv0 := h0.see hw hs12 e45
    have h24 := hv.2.2.1
    cases ho : sO (slA A s)
    · rw [ho] at e3
      exact rRes_noP (i := 2) (v := 0) h rfl (by simp only [f_X5_rotate_b73, f_X5_rotate_b57, f_X5_rotate_b47, f_X5_rotate_b38, f_X5_rotate_b23, f_X5_rotate_b22, f_X5_rotate, h.1.fs, beq_self_eq_true, gck_t, Option.bind_some, b2i_1, e20, e30, e40, e50, if_true, if_false, r_fails h.1.1, fcd, gb2_s, e2, e3, b2i_f, b2i_t, r_slot1 S hs12, r_in, ite_self]; rfl)
    · rw [ho] at e3
      simp only [Bool.true_eq_false, if_false]
      have hk2 := kLs_op hw hs12 e ho
      obtain ⟨l1, l2, l3, l4, l5, -⟩ := lst_facts hw hs12 (hk2.elim Or.inl (fun h => Or.inr (Or.inl h)))
      have g24 := (hw.1 _ (show sR (slA A s) < 4 by omega)).1
      have hcond : decide ((-100 : Int32).toInt ≤ y.toInt ∧ y.toInt ≤ (100 : Int32).toInt) = true ∨ decide ((-100 : Int32).toInt ≤ y.toInt ∧ y.toInt ≤ (100 : Int32).toInt) = false := by cases decide ((-100 : Int32).toInt ≤ y.toInt ∧ y.toInt ≤ (100 : Int32).toInt) <;> simp
      have a1 : (-100 : Int32).toInt = -100 := by decide
      have a2 : (100 : Int32).toInt = 100 := by decide
      rcases hcond with hc | hc
      · have hc2 := of_decide_eq_true hc
        rw [a1, a2] at hc2
        rw [if_neg (show ¬ y < -100 by rw [Int32.lt_iff_toInt_lt, a1]; omega), if_pos (show y ≤ 100 by rw [Int32.le_iff_toInt_le, a2]; omega)]
        have hin : ∀ t ∈ roL (vw A s) (rot y (vw A s).length), inB t := fun t ht => by
          unfold roL at ht
          rcases List.mem_append.mp ht with z | z
          · exact inB_row hw hs12 hk2 (List.mem_of_mem_drop z)
          · exact inB_row hw hs12 hk2 (List.mem_of_mem_take z)
        by_cases hz : (vw A s).length = 0
        · have hV : vw A s = [] := List.length_eq_zero_iff.mp hz
          have hlen : (roL (vw A s) (rot y (vw A s).length)).length = (vw A s).length := by rw [hV]; simp [roL]
          rw [chg_eq hlen]
          obtain ⟨S', u1, u2, u3, u4⟩ := r_moves (x2 := y) (x3 := 1) (τ := fun i => i) (σ := fun i => i) h0 hw hs12 hk2 hin hlen (fun i hi => by omega) (fun i j hi hj e => e) (fun k hk => ⟨hk, rfl⟩)
          rw [hlen] at u1
          refine rRes_okP (S' := S') ?_ u2 (by rw [u4, gI_gsI, if_pos ⟨rfl, rfl⟩])
          simp only [f_X5_rotate_b73, f_X5_rotate_b57, f_X5_rotate_b47, f_X5_rotate_b38, f_X5_rotate_b23, f_X5_rotate_b22, f_X5_rotate, h.1.fs, beq_self_eq_true, gck_t, Option.bind_some, b2i_1, e20, e30, e40, e50, if_true, if_false, r_fails h.1.1, fcd, gb2_s, h0.1.fs, e2, e3, b2i_t, b2i_f, r_slot1 S hs12, r_in, hc, hv0.2.1, u1]
        · have hp0 := rot_lt (x := y) (z := (vw A s).length) (by omega)
          have hlen : (roL (vw A s) (rot y (vw A s).length)).length = (vw A s).length := roL_len (by omega)
          rw [chg_eq hlen]
          obtain ⟨S', u1, u2, u3, u4⟩ := r_moves (x2 := y) (x3 := 1) (τ := fun i => if rot y (vw A s).length + i < (vw A s).length then rot y (vw A s).length + i else rot y (vw A s).length + i - (vw A s).length) (σ := fun k => if k < rot y (vw A s).length then (vw A s).length - rot y (vw A s).length + k else k - rot y (vw A s).length) h0 hw hs12 hk2 hin hlen (fun i hi => by
            rw [hlen] at hi ⊢
            have ht : (if rot y (vw A s).length + i < (vw A s).length then rot y (vw A s).length + i else rot y (vw A s).length + i - (vw A s).length) < (vw A s).length := by split <;> omega
            refine ⟨ht, ?_, ?_⟩
            · rw [gd_roL (by omega) ht]
              by_cases c : rot y (vw A s).length + i < (vw A s).length
              · rw [if_pos c, if_neg (by omega)]
                exact congrArg (fun q => (vw A s).getD q tz) (by omega)
              · rw [if_neg c, if_pos (by omega)]
                exact congrArg (fun q => (vw A s).getD q tz) (by omega)
            · have hb : y + 1 * nI i = y + nI i := by rw [Int32.one_mul]
              have hbt : (y + nI i).toInt = y.toInt + i := by
                rw [Int32.toInt_add, nI_toInt (by omega)]
                exact Int.bmod_eq_of_le (by omega) (by omega)
              rw [hb, mvE_rot (by omega) (by omega) (by omega) h24, rot_of hbt]
              refine congrArg nI ?_
              have hy : ((rot y (vw A s).length : Nat) : Int) = y.toInt % ((vw A s).length : Int) := by
                unfold rot
                have := Int.emod_nonneg y.toInt (show ((vw A s).length : Int) ≠ 0 by omega)
                omega
              have e9 : (y.toInt + i) % ((vw A s).length : Int) = (((rot y (vw A s).length + i : Nat) : Int)) % ((vw A s).length : Int) := by
                rw [Int.natCast_add, hy, Int.emod_add_emod]
              rw [e9]
              by_cases c : rot y (vw A s).length + i < (vw A s).length
              · rw [if_pos c, Int.emod_eq_of_lt (by omega) (by omega)]
                omega
              · rw [if_neg c]
                have : (((rot y (vw A s).length + i : Nat) : Int)) % ((vw A s).length : Int) = (((rot y (vw A s).length + i - (vw A s).length : Nat) : Int)) := by
                  rw [show (((rot y (vw A s).length + i : Nat) : Int)) = (((rot y (vw A s).length + i - (vw A s).length : Nat) : Int)) + ((vw A s).length : Int) * 1 by omega, Int.add_mul_emod_self_left]
                  exact Int.emod_eq_of_lt (by omega) (by omega)
                rw [this]
                omega) (fun i j hi hj e => by
            rw [hlen] at hi hj
            split at e <;> split at e <;> omega) (fun k hk => by
            rw [hlen] at hk ⊢
            by_cases c : k < rot y (vw A s).length
            · rw [if_pos c, if_neg (by omega)]; omega
            · rw [if_neg c, if_pos (by omega)]; omega)
          rw [hlen] at u1
          refine rRes_okP (S' := S') ?_ u2 (by rw [u4, gI_gsI, if_pos ⟨rfl, rfl⟩])
          simp only [f_X5_rotate_b73, f_X5_rotate_b57, f_X5_rotate_b47, f_X5_rotate_b38, f_X5_rotate_b23, f_X5_rotate_b22, f_X5_rotate, h.1.fs, beq_self_eq_true, gck_t, Option.bind_some, b2i_1, e20, e30, e40, e50, if_true, if_false, r_fails h.1.1, fcd, gb2_s, h0.1.fs, e2, e3, b2i_t, b2i_f, r_slot1 S hs12, r_in, hc, hv0.2.1, u1]
      · have hc2 := of_decide_eq_false hc
        rw [a1, a2] at hc2
        have hz : (if y < -100 then Sum.inr 4 else if y ≤ 100 then Sum.inl (nI (vw A s).length, chgA A s (roL (vw A s) (rot y (vw A s).length))) else Sum.inr 4 : (Int32 × AS) ⊕ Nat) = .inr 4 := by
          by_cases c : y < -100
          · rw [if_pos c]
          · rw [if_neg c, if_neg]
            rw [Int32.lt_iff_toInt_lt, a1] at c
            rw [Int32.le_iff_toInt_le, a2]
            omega
        rw [hz]
        exact rRes_noP (i := 3) (v := 0) h rfl (by simp only [f_X5_rotate_b73, f_X5_rotate_b57, f_X5_rotate_b47, f_X5_rotate_b38, f_X5_rotate_b23, f_X5_rotate_b22, f_X5_rotate, h.1.fs, beq_self_eq_true, gck_t, Option.bind_some, b2i_1, e20, e30, e40, e50, if_true, if_false, r_fails h.1.1, fcd, gb2_s, e2, e3, b2i_t, b2i_f, r_slot1 S hs12, r_in, hc]; rfl)
theorem r_swap (h : Rq r dq cap S hs A) (hw : WF A) (hp : npA A ≤ 511) (x y z : Int32) : rRes [1, 2, 3, 4] r hs A (rLf hs (f_X5_swap S r x y z)) (m_swap A x y z) := by
  have h0 := h.thr 0
  unfold m_swap
  rcases c3 (A := A) x kLs with e | ⟨s, hs12, rfl, e⟩ | ⟨s, hs12, rfl, e45, e⟩
  · rw [nd_no e]
    exact rRes_noP (i := 0) (v := 0) h rfl (by simp only [f_X5_swap_b90, f_X5_swap_b89, f_X5_swap_b85, f_X5_swap_b60, f_X5_swap_b50, f_X5_swap_b40, f_X5_swap_b25, f_X5_swap_b24, f_X5_swap, h.1.fs, beq_self_eq_true, gck_t, Option.bind_some, b2i_1, e20, e30, e40, e50, if_true, if_false, r_fails h.1.1, fcd, gb2_s, r_isList_no h e, r_slot0 S e]; rfl)
  · rw [nd_bad hs12 e]
    have e := or_bad (q := kLs) e (by decide)
    have e2 := r_isList h hs12
    rw [e] at e2
    exact rRes_noP (i := 1) (v := 0) h rfl (by simp only [f_X5_swap_b90, f_X5_swap_b89, f_X5_swap_b85, f_X5_swap_b60, f_X5_swap_b50, f_X5_swap_b40, f_X5_swap_b25, f_X5_swap_b24, f_X5_swap, h.1.fs, beq_self_eq_true, gck_t, Option.bind_some, b2i_1, e20, e30, e40, e50, if_true, if_false, r_fails h.1.1, fcd, gb2_s, e2, b2i_f, r_slot1 S hs12]; rfl)
  · rw [nd_ok hs12 e45 e]
    have e2 := r_isList h hs12
    rw [e] at e2
    have e3 := r_canChange h hw hs12 e45
    have hv := h.see hw hs12 e45
    have hv0 := h0.see hw hs12 e45
    have h24 := hv.2.2.1
    cases ho : sO (slA A s)
    · rw [ho] at e3
      exact rRes_noP (i := 2) (v := 0) h rfl (by simp only [f_X5_swap_b90, f_X5_swap_b89, f_X5_swap_b85, f_X5_swap_b60, f_X5_swap_b50, f_X5_swap_b40, f_X5_swap_b25, f_X5_swap_b24, f_X5_swap, h.1.fs, beq_self_eq_true, gck_t, Option.bind_some, b2i_1, e20, e30, e40, e50, if_true, if_false, r_fails h.1.1, fcd, gb2_s, e2, e3, b2i_f, b2i_t, r_slot1 S hs12]; rfl)
    · rw [ho] at e3
      simp only [Bool.true_eq_false, if_false]
      have hk2 := kLs_op hw hs12 e ho
      obtain ⟨l1, l2, l3, l4, l5, -⟩ := lst_facts hw hs12 (hk2.elim Or.inl (fun h => Or.inr (Or.inl h)))
      have g24 := (hw.1 _ (show sR (slA A s) < 4 by omega)).1
      cases hip : inP y (vw A s).length
      · simp only [if_true]
        exact rRes_noP (i := 3) (v := 0) h rfl (by simp only [f_X5_swap_b90, f_X5_swap_b89, f_X5_swap_b85, f_X5_swap_b60, f_X5_swap_b50, f_X5_swap_b40, f_X5_swap_b25, f_X5_swap_b24, f_X5_swap, h.1.fs, beq_self_eq_true, gck_t, Option.bind_some, b2i_1, e20, e30, e40, e50, if_true, if_false, r_fails h.1.1, fcd, gb2_s, e2, e3, b2i_t, b2i_f, r_slot1 S hs12, r_isPlace0 hv, hip]; rfl)
      · simp only [Bool.true_eq_false, if_false]
        cases hiq : inP z (vw A s).length
        · simp only [if_true]
          exact rRes_noP (i := 3) (v := 0) h rfl (by simp only [f_X5_swap_b90, f_X5_swap_b89, f_X5_swap_b85, f_X5_swap_b60, f_X5_swap_b50, f_X5_swap_b40, f_X5_swap_b25, f_X5_swap_b24, f_X5_swap, h.1.fs, beq_self_eq_true, gck_t, Option.bind_some, b2i_1, e20, e30, e40, e50, if_true, if_false, r_fails h.1.1, fcd, gb2_s, e2, e3, b2i_t, b2i_f, r_slot1 S hs12, r_isPlace0 hv, hip, hiq]; rfl)
        · simp only [Bool.true_eq_false, if_false]
          obtain ⟨p, p1, rfl, p2⟩ := inP_i (by omega) hip
          obtain ⟨q, q1, rfl, q2⟩ := inP_i (by omega) hiq
          rw [p2, q2, chg_eq swp_len]
          obtain ⟨T, u1, u2, u3, u4⟩ := r_moves (x2 := 0) (x3 := 1) (M := vw A s) (τ := fun i => i) (σ := fun i => i) h0 hw hs12 hk2 (fun t ht => inB_row hw hs12 hk2 ht) rfl (fun i hi => by
            refine ⟨hi, rfl, ?_⟩
            have : (0 : Int32) + 1 * nI i = nI i := by rw [Int32.one_mul, Int32.zero_add]
            rw [this, mvE_n (by omega) (by omega) h24]
            exact congrArg nI (Nat.mod_eq_of_lt hi)) (fun i j hi hj e => e) (fun k hk => ⟨hk, rfl⟩)
          have hwT := WF_rowC hw hs12 hk2 (fun t ht => inB_row hw hs12 hk2 ht) (rfl : (vw A s).length = (vw A s).length)
          have hb := r_begin u2 hwT hs12 e45
          have hb : f_X5_begin T r (nI s) = some (nI (fsA A (slA A s))) := hb
          have e24 : gI T (r + 24) s = nI (sR (slA A s)) := (u2.refL hwT hs12 hk2).1
          obtain ⟨y1, y2⟩ := u3.2.2 p p1
          obtain ⟨z1, z2⟩ := u3.2.2 q q1
          have hput1 := r_put1 (n := ((vw A s).getD q tz).1) (k := ((vw A s).getD q tz).2.1) (m := ((vw A s).getD q tz).2.2) (i := p) u2 hw hs12 hk2 rfl p1
          have hput2 := r_put1 (n := ((vw A s).getD p tz).1) (k := ((vw A s).getD p tz).2.1) (m := ((vw A s).getD p tz).2.2) (i := q) hput1 hw hs12 hk2 (by rw [List.length_set]) (by rw [List.length_set]; exact q1)
          generalize hf : fsA A (slA A s) = f at *
          generalize hj : sR (slA A s) = j at *
          generalize hVp : (vw A s).getD p tz = P at *
          generalize hVq : (vw A s).getD q tz = Q at *
          have w1 : rWr r j T (gsI T (r + (2 + j)) (f + p) Q.2.1) := rWr.rf.w1
          have w2 : rWr r j T (gsI (gsI T (r + (2 + j)) (f + p) Q.2.1) (r + (5 + j)) (f + p) Q.2.2) := w1.w2
          have w3 : rWr r j T (gsI (gsI (gsI T (r + (2 + j)) (f + p) Q.2.1) (r + (5 + j)) (f + p) Q.2.2) (r + (2 + j)) (f + q) P.2.1) := w2.w1
          have w4 : rWr r j T (gsI (gsI (gsI (gsI T (r + (2 + j)) (f + p) Q.2.1) (r + (5 + j)) (f + p) Q.2.2) (r + (2 + j)) (f + q) P.2.1) (r + (5 + j)) (f + q) P.2.2) := w3.w2
          have r29 : ∀ {U : GS}, rWr r j T U → (∀ k, gI U (r + 29) k = gI T (r + 29) k) ∧ (∀ k, gI U (r + 30) k = gI T (r + 30) k) ∧ gI U (r + 24) s = nI j := fun {U} w => ⟨fun k => w.2.2.2 _ _ (by unfold wRw; omega), fun k => w.2.2.2 _ _ (by unfold wRw; omega), (w.2.2.2 _ _ (by unfold wRw; omega)).trans e24⟩
          have hd1 := u2.1.sk w1.1 w1.2.1 w1.2.2.1
          have hd2 := u2.1.sk w2.1 w2.2.1 w2.2.2.1
          have hd3 := u2.1.sk w3.1 w3.2.1 w3.2.2.1
          refine rRes_okP (dq := dq) (cap := cap) (S' := gsI (gsI (gsI (gsI T (r + (2 + j)) (f + p) Q.2.1) (r + (5 + j)) (f + p) Q.2.2) (r + (2 + j)) (f + q) P.2.1) (r + (5 + j)) (f + q) P.2.2) ?_ ?_ ?_
          · obtain ⟨a1, a2, a3⟩ := r29 w1
            obtain ⟨b1, b2, b3⟩ := r29 w2
            obtain ⟨c1, c2, c3⟩ := r29 w3
            generalize hT1 : gsI T (r + (2 + j)) (f + p) Q.2.1 = T1 at *
            generalize hT2 : gsI T1 (r + (5 + j)) (f + p) Q.2.2 = T2 at *
            generalize hT3 : gsI T2 (r + (2 + j)) (f + q) P.2.1 = T3 at *
            simp only [f_X5_swap_b90, f_X5_swap_b89, f_X5_swap_b85, f_X5_swap_b60, f_X5_swap_b50, f_X5_swap_b40, f_X5_swap_b25, f_X5_swap_b24, f_X5_swap, h.1.fs, beq_self_eq_true, gck_t, Option.bind_some, b2i_1, e20, e30, e40, e50, if_true, if_false, r_fails h.1.1, fcd, gb2_s, h0.1.fs, e2, e3, b2i_t, b2i_f, r_slot1 S hs12, r_isPlace0 hv, hip, hiq, u1, u2.1.fs, hb, u2.1.rs.2.1 s hs12, e24, u2.1.ro.1 _ l1, u2.1.rs.2.2.2.2.2.2.2.2.1 q (show q < 72 by omega), z1, nI_add, u2.1.wb.1 j (f + p) _ l1 (show f + p < 24 by omega), hT1,
              hd1.fs, hd1.rs.2.1 s hs12, a3, hd1.ro.2.1 _ l1, hd1.rs.2.2.2.2.2.2.2.2.2.1 q (show q < 72 by omega), a2, z2, hd1.wb.2.1 j (f + p) _ l1 (show f + p < 24 by omega), hT2,
              hd2.fs, hd2.rs.2.1 s hs12, b3, hd2.ro.1 _ l1, hd2.rs.2.2.2.2.2.2.2.2.1 p (show p < 72 by omega), b1, y1, hd2.wb.1 j (f + q) _ l1 (show f + q < 24 by omega), hT3,
              hd3.fs, hd3.rs.2.1 s hs12, c3, hd3.ro.2.1 _ l1, hd3.rs.2.2.2.2.2.2.2.2.2.1 p (show p < 72 by omega), c2, y2, hd3.wb.2.1 j (f + q) _ l1 (show f + q < 24 by omega)]
          · have : swp (vw A s) p q = ((vw A s).set p (Q.1, Q.2.1, Q.2.2)).set q (P.1, P.2.1, P.2.2) := by unfold swp; rw [hVp, hVq]
            rw [this]
            exact hput2
          · rw [w4.2.2.2 _ _ (by unfold wRw; omega), u4, gI_gsI, if_pos ⟨rfl, rfl⟩]
end RMov
