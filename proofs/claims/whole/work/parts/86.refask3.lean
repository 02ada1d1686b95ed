/-! asked of the reference: of two slots; the sum -/
theorem nd2_no {A : AS} {x y : Int32} {q : Int32 → Bool} (h : sIx x = none ∨ sIx y = none) : nd2 A x y q = .inr 1 := by
  unfold nd2
  rcases h with h | h
  · rw [h]
  · rw [h]
    cases sIx x <;> rfl
theorem nd2_2 {A : AS} {s t : Nat} {q : Int32 → Bool} (hs : s < 12) (ht : t < 12) : nd2 A (nI s) (nI t) q = if (kA A s = 45 ∨ q (kA A s) = false) ∨ (kA A t = 45 ∨ q (kA A t) = false) then .inr 2 else .inl (s, t) := by
  unfold nd2
  rw [sIx_n hs, sIx_n ht]
theorem c2s (x y : Int32) : (sIx x = none) ∨ (∃ s, s < 12 ∧ x = nI s ∧ sIx y = none) ∨ ∃ s t, s < 12 ∧ x = nI s ∧ t < 12 ∧ y = nI t := by
  rcases sIx_c x with ⟨e, -⟩ | ⟨s, hs, rfl, e⟩
  · exact Or.inl e
  · rcases sIx_c y with ⟨e2, -⟩ | ⟨t, ht, rfl, e2⟩
    · exact Or.inr (Or.inl ⟨s, hs, rfl, e2⟩)
    · exact Or.inr (Or.inr ⟨s, t, hs, rfl, ht, rfl⟩)
section RAsk3
variable {S : GS} {r cap hs : Nat} {dq : Nat → Nat} {A : AS}
theorem r_rowIn (h : Rq r dq cap S hs A) (hw : WF A) (x y : Int32) (w : Int32) : rAns [1, 2] S r (f_X5_rowIn S r x y w) (q_rowIn A x y w) := by
  have h0 := h.thr 0
  unfold q_rowIn
  rcases c2s x y with e | ⟨s, hs12, rfl, e⟩ | ⟨s, t, hs12, rfl, ht12, rfl⟩
  · rw [nd2_no (Or.inl e)]
    refine ⟨0, 0, rfl, ?_⟩
    simp only [f_X5_rowIn_b128, f_X5_rowIn_b124, f_X5_rowIn_b70, f_X5_rowIn_b60, f_X5_rowIn_b47, f_X5_rowIn_b46, f_X5_rowIn_b19, f_X5_rowIn_b18, f_X5_rowIn, h.1.fs, beq_self_eq_true, gck_t, Option.bind_some, b2i_1, e20, e30, e40, e50, if_true, if_false, r_fails h.1.1, fcd, gb2_s, r_slot0 S e]
    rfl
  · rw [nd2_no (Or.inr e)]
    refine ⟨0, 0, rfl, ?_⟩
    simp only [f_X5_rowIn_b128, f_X5_rowIn_b124, f_X5_rowIn_b70, f_X5_rowIn_b60, f_X5_rowIn_b47, f_X5_rowIn_b46, f_X5_rowIn_b19, f_X5_rowIn_b18, f_X5_rowIn, h.1.fs, beq_self_eq_true, gck_t, Option.bind_some, b2i_1, e20, e30, e40, e50, if_true, if_false, r_fails h.1.1, fcd, gb2_s, r_slot0 S e, r_slot1 S hs12]
    rfl
  · rw [nd2_2 hs12 ht12]
    have e2 := r_isList h hs12
    have e3 := r_isList h ht12
    by_cases hb : (kA A s = 45 ∨ (kLs) (kA A s) = false) ∨ (kA A t = 45 ∨ (kLs) (kA A t) = false)
    · rw [if_pos hb]
      rcases hb with hb | hb
      · have e := or_bad (q := kLs) hb (by decide)
        rw [e] at e2
        refine ⟨1, 0, rfl, ?_⟩
        simp only [f_X5_rowIn_b128, f_X5_rowIn_b124, f_X5_rowIn_b70, f_X5_rowIn_b60, f_X5_rowIn_b47, f_X5_rowIn_b46, f_X5_rowIn_b19, f_X5_rowIn_b18, f_X5_rowIn, h.1.fs, beq_self_eq_true, gck_t, Option.bind_some, b2i_1, e20, e30, e40, e50, if_true, if_false, r_fails h.1.1, fcd, gb2_s, e2, b2i_f, r_slot1 S hs12, r_slot1 S ht12]
        rfl
      · have e := or_bad (q := kLs) hb (by decide)
        rw [e] at e3
        cases e9 : kLs (kA A s)
        · rw [e9] at e2
          refine ⟨1, 0, rfl, ?_⟩
          simp only [f_X5_rowIn_b128, f_X5_rowIn_b124, f_X5_rowIn_b70, f_X5_rowIn_b60, f_X5_rowIn_b47, f_X5_rowIn_b46, f_X5_rowIn_b19, f_X5_rowIn_b18, f_X5_rowIn, h.1.fs, beq_self_eq_true, gck_t, Option.bind_some, b2i_1, e20, e30, e40, e50, if_true, if_false, r_fails h.1.1, fcd, gb2_s, e2, e3, b2i_f, r_slot1 S hs12, r_slot1 S ht12]
          rfl
        · rw [e9] at e2
          refine ⟨1, 0, rfl, ?_⟩
          simp only [f_X5_rowIn_b128, f_X5_rowIn_b124, f_X5_rowIn_b70, f_X5_rowIn_b60, f_X5_rowIn_b47, f_X5_rowIn_b46, f_X5_rowIn_b19, f_X5_rowIn_b18, f_X5_rowIn, h.1.fs, beq_self_eq_true, gck_t, Option.bind_some, b2i_1, e20, e30, e40, e50, if_true, if_false, r_fails h.1.1, fcd, gb2_s, e2, e3, b2i_f, b2i_t, r_slot1 S hs12, r_slot1 S ht12]
          rfl
    · rw [if_neg hb]
      have es45 : kA A s ≠ 45 := fun z => hb (Or.inl (Or.inl z))
      have et45 : kA A t ≠ 45 := fun z => hb (Or.inr (Or.inl z))
      have es : kLs (kA A s) = true := by
        cases z : kLs (kA A s)
        · exact absurd (Or.inl (Or.inr z)) hb
        · rfl
      have et : kLs (kA A t) = true := by
        cases z : kLs (kA A t)
        · exact absurd (Or.inr (Or.inr z)) hb
        · rfl
      rw [es] at e2
      rw [et] at e3
      have hv := h.see hw hs12 es45
      have hv0 := h0.see hw hs12 es45
      have gv := h.see hw ht12 et45
      have gv0 := h0.see hw ht12 et45
      have h24 := hv.2.2.1
      have g24 := gv.2.2.1
      show _ = _
      simp only [f_X5_rowIn_b128, f_X5_rowIn_b124, f_X5_rowIn_b70, f_X5_rowIn_b60, f_X5_rowIn_b47, f_X5_rowIn_b46, f_X5_rowIn_b19, f_X5_rowIn_b18, f_X5_rowIn, h.1.fs, beq_self_eq_true, gck_t, Option.bind_some, b2i_1, e20, e30, e40, e50, if_true, if_false, r_fails h.1.1, fcd, gb2_s, h0.1.fs, e2, e3, b2i_t, r_slot1 S hs12, r_slot1 S ht12]
      unfold rIn
      by_cases hl : (vw A t).length ≤ (vw A s).length
      · rw [if_pos hl]
        obtain ⟨c, c1, n, c2⟩ := lpG0 (F := fun n (c : Int32) i => f_X5_rowIn_L87 r n (gsI S r 19 0) (nI s) (nI t) w c i) (fun i c => c = if w = 0 then rI0 (vw A s) (vw A t) i 0 else rI1 (vw A s) (vw A t) i) ((vw A s).length - (vw A t).length + 1) (fun n c i hi hc => by
          have q : ((vw A s).length < i + (vw A t).length) = False := eq_false (by omega)
          have hst := r_stands hv0 gv0 (p := i) (by omega)
          by_cases a : w = 0
          · rw [if_pos a] at hc
            refine ⟨if c = -1 then (if alk ((vw A s).drop i) (vw A t) = true then nI i else -1) else c, ?_, ?_⟩
            · rw [if_pos a, rI0_s i 0 (by omega), Nat.zero_add, ← hc]
            · simp (disch := omega) only [f_X5_rowIn_L87, f_X5_rowIn_b128, f_X5_rowIn_b124, h0.1.fs, beq_self_eq_true, gck_t, Option.bind_some, hv0.2.1, gv0.2.1, nI_add, nI_ltI, q, if_false, hst, b2i_0, nI_1, a, if_true]
              cases alk ((vw A s).drop i) (vw A t)
              · simp only [if_true, Bool.false_eq_true, if_false]
                by_cases b : c = -1
                · simp only [b, if_true]
                · simp only [b, if_false]
              · simp only [Bool.true_eq_false, if_false, if_true]
                by_cases b : c = -1
                · simp only [b, if_true]
                · simp only [b, if_false]
          · rw [if_neg a] at hc
            refine ⟨if alk ((vw A s).drop i) (vw A t) = true then nI i else c, ?_, ?_⟩
            · rw [if_neg a, rI1, ← hc]
            · simp (disch := omega) only [f_X5_rowIn_L87, f_X5_rowIn_b128, f_X5_rowIn_b124, h0.1.fs, beq_self_eq_true, gck_t, Option.bind_some, hv0.2.1, gv0.2.1, nI_add, nI_ltI, q, if_false, hst, b2i_0, nI_1, a]
              cases alk ((vw A s).drop i) (vw A t)
              · simp only [if_true, Bool.false_eq_true, if_false]
              · simp only [Bool.true_eq_false, if_false, if_true]) (by omega) (-1) (by
          by_cases a : w = 0
          · rw [if_pos a]; rfl
          · rw [if_neg a]; rfl)
        have q : ((vw A s).length < (vw A s).length - (vw A t).length + 1 + (vw A t).length) = True := eq_true (by omega)
        rw [c2]
        simp (disch := omega) only [f_X5_rowIn_L87, h0.1.fs, beq_self_eq_true, gck_t, Option.bind_some, hv0.2.1, gv0.2.1, nI_add, nI_ltI, q, if_true, c1]
      · rw [if_neg hl]
        show f_X5_rowIn_L87 r (4999 + 1) _ _ _ _ _ _ = _
        have q : ((vw A s).length < (vw A t).length) = True := eq_true (by omega)
        have z : (0 : Int32) + nI (vw A t).length = nI (vw A t).length := Int32.zero_add _
        rw [f_X5_rowIn_L87]
        simp (disch := omega) only [h0.1.fs, beq_self_eq_true, gck_t, Option.bind_some, hv0.2.1, gv0.2.1, z, nI_ltI, q, if_true]
theorem r_areApart (h : Rq r dq cap S hs A) (hw : WF A) (x y : Int32) : rAns [1, 2] S r (f_X5_areApart S r x y) (q_areApart A x y) := by
  have h0 := h.thr 0
  unfold q_areApart
  rcases c2s x y with e | ⟨s, hs12, rfl, e⟩ | ⟨s, t, hs12, rfl, ht12, rfl⟩
  · rw [nd2_no (Or.inl e)]
    refine ⟨0, 0, rfl, ?_⟩
    simp only [f_X5_areApart_b128, f_X5_areApart_b118, f_X5_areApart_b108, f_X5_areApart_b100, f_X5_areApart_b99, f_X5_areApart_b45, f_X5_areApart_b44, f_X5_areApart_b19, f_X5_areApart_b18, f_X5_areApart, h.1.fs, beq_self_eq_true, gck_t, Option.bind_some, b2i_1, e20, e30, e40, e50, if_true, if_false, r_fails h.1.1, fcd, gb2_s, r_slot0 S e]
    show f_X5_areApart_L53 S r (4999 + 1) _ _ _ _ _ _ = _
    rw [f_X5_areApart_L53]
    simp only [f_X5_areApart_b108, f_X5_areApart_b118, f_X5_areApart_b128, h.1.fs, beq_self_eq_true, gck_t, Option.bind_some, b2i_1, e20, e30, e40, e50, if_true, if_false, r_fails h.1.1, fcd, gb2_s]
    rfl
  · rw [nd2_no (Or.inr e)]
    refine ⟨0, 0, rfl, ?_⟩
    simp only [f_X5_areApart_b128, f_X5_areApart_b118, f_X5_areApart_b108, f_X5_areApart_b100, f_X5_areApart_b99, f_X5_areApart_b45, f_X5_areApart_b44, f_X5_areApart_b19, f_X5_areApart_b18, f_X5_areApart, h.1.fs, beq_self_eq_true, gck_t, Option.bind_some, b2i_1, e20, e30, e40, e50, if_true, if_false, r_fails h.1.1, fcd, gb2_s, r_slot0 S e, r_slot1 S hs12]
    show f_X5_areApart_L53 S r (4999 + 1) _ _ _ _ _ _ = _
    rw [f_X5_areApart_L53]
    simp only [f_X5_areApart_b108, f_X5_areApart_b118, f_X5_areApart_b128, h.1.fs, beq_self_eq_true, gck_t, Option.bind_some, b2i_1, e20, e30, e40, e50, if_true, if_false, r_fails h.1.1, fcd, gb2_s]
    rfl
  · rw [nd2_2 hs12 ht12]
    have e2 := r_isRow h hs12
    have e3 := r_isRow h ht12
    by_cases hb : (kA A s = 45 ∨ (fun k => kLs k || k == 118) (kA A s) = false) ∨ (kA A t = 45 ∨ (fun k => kLs k || k == 118) (kA A t) = false)
    · rw [if_pos hb]
      rcases hb with hb | hb
      · have e := or_bad (q := fun k => kLs k || k == 118) hb (by decide)
        rw [e] at e2
        refine ⟨1, 0, rfl, ?_⟩
        simp only [f_X5_areApart_b128, f_X5_areApart_b118, f_X5_areApart_b108, f_X5_areApart_b100, f_X5_areApart_b99, f_X5_areApart_b45, f_X5_areApart_b44, f_X5_areApart_b19, f_X5_areApart_b18, f_X5_areApart, h.1.fs, beq_self_eq_true, gck_t, Option.bind_some, b2i_1, e20, e30, e40, e50, if_true, if_false, r_fails h.1.1, fcd, gb2_s, e2, b2i_f, r_slot1 S hs12, r_slot1 S ht12]
        show f_X5_areApart_L53 S r (4999 + 1) _ _ _ _ _ _ = _
        rw [f_X5_areApart_L53]
        simp only [f_X5_areApart_b108, f_X5_areApart_b118, f_X5_areApart_b128, h.1.fs, beq_self_eq_true, gck_t, Option.bind_some, b2i_1, e20, e30, e40, e50, if_true, if_false, r_fails h.1.1, fcd, gb2_s]
        rfl
      · have e := or_bad (q := fun k => kLs k || k == 118) hb (by decide)
        rw [e] at e3
        cases e9 : (kLs (kA A s) || kA A s == 118)
        · rw [e9] at e2
          refine ⟨1, 0, rfl, ?_⟩
          simp only [f_X5_areApart_b128, f_X5_areApart_b118, f_X5_areApart_b108, f_X5_areApart_b100, f_X5_areApart_b99, f_X5_areApart_b45, f_X5_areApart_b44, f_X5_areApart_b19, f_X5_areApart_b18, f_X5_areApart, h.1.fs, beq_self_eq_true, gck_t, Option.bind_some, b2i_1, e20, e30, e40, e50, if_true, if_false, r_fails h.1.1, fcd, gb2_s, e2, e3, b2i_f, r_slot1 S hs12, r_slot1 S ht12]
          show f_X5_areApart_L53 S r (4999 + 1) _ _ _ _ _ _ = _
          rw [f_X5_areApart_L53]
          simp only [f_X5_areApart_b108, f_X5_areApart_b118, f_X5_areApart_b128, h.1.fs, beq_self_eq_true, gck_t, Option.bind_some, b2i_1, e20, e30, e40, e50, if_true, if_false, r_fails h.1.1, fcd, gb2_s]
          rfl
        · rw [e9] at e2
          refine ⟨1, 0, rfl, ?_⟩
          simp only [f_X5_areApart_b128, f_X5_areApart_b118, f_X5_areApart_b108, f_X5_areApart_b100, f_X5_areApart_b99, f_X5_areApart_b45, f_X5_areApart_b44, f_X5_areApart_b19, f_X5_areApart_b18, f_X5_areApart, h.1.fs, beq_self_eq_true, gck_t, Option.bind_some, b2i_1, e20, e30, e40, e50, if_true, if_false, r_fails h.1.1, fcd, gb2_s, e2, e3, b2i_f, b2i_t, r_slot1 S hs12, r_slot1 S ht12]
          show f_X5_areApart_L53 S r (4999 + 1) _ _ _ _ _ _ = _
          rw [f_X5_areApart_L53]
          simp only [f_X5_areApart_b108, f_X5_areApart_b118, f_X5_areApart_b128, h.1.fs, beq_self_eq_true, gck_t, Option.bind_some, b2i_1, e20, e30, e40, e50, if_true, if_false, r_fails h.1.1, fcd, gb2_s]
          rfl
    · rw [if_neg hb]
      have es45 : kA A s ≠ 45 := fun z => hb (Or.inl (Or.inl z))
      have et45 : kA A t ≠ 45 := fun z => hb (Or.inr (Or.inl z))
      have es : (kLs (kA A s) || kA A s == 118) = true := by
        cases z : (kLs (kA A s) || kA A s == 118)
        · exact absurd (Or.inl (Or.inr z)) hb
        · rfl
      have et : (kLs (kA A t) || kA A t == 118) = true := by
        cases z : (kLs (kA A t) || kA A t == 118)
        · exact absurd (Or.inr (Or.inr z)) hb
        · rfl
      rw [es] at e2
      rw [et] at e3
      have hv := h.see hw hs12 es45
      have hv0 := h0.see hw hs12 es45
      have gv := h.see hw ht12 et45
      have gv0 := h0.see hw ht12 et45
      have h24 := hv.2.2.1
      have g24 := gv.2.2.1
      show _ = _
      simp only [f_X5_areApart_b128, f_X5_areApart_b118, f_X5_areApart_b108, f_X5_areApart_b100, f_X5_areApart_b99, f_X5_areApart_b45, f_X5_areApart_b44, f_X5_areApart_b19, f_X5_areApart_b18, f_X5_areApart, h.1.fs, beq_self_eq_true, gck_t, Option.bind_some, b2i_1, e20, e30, e40, e50, if_true, if_false, r_fails h.1.1, fcd, gb2_s, e2, e3, b2i_t, r_slot1 S hs12, r_slot1 S ht12]
      have key := lpF (F := fun n (c : Bool) i => f_X5_areApart_L53 S r n (nI s) (nI t) 1 1 (b2i c) i) (vw A s) (fun c u => c && !((vw A t).any (isT u.2.1 u.2.2))) (fun c => some (b2i c, gsI S r 19 0)) (by omega) (fun n c => by
          simp only [f_X5_areApart_L53, f_X5_areApart_b108, f_X5_areApart_b118, f_X5_areApart_b128, h.1.fs, beq_self_eq_true, gck_t, Option.bind_some, b2i_1, e20, e30, e40, e50, if_true, if_false, r_fails h.1.1, fcd, gb2_s, hv.2.1, Int32.le_refl, b2i_0]
          cases c <;> rfl) (fun n c i hi => by
          have q : ((vw A s).length ≤ i) = False := eq_false (by omega)
          obtain ⟨g1, g2⟩ := hv.2.2.2 i hi
          simp (disch := omega) only [f_X5_areApart_L53, f_X5_areApart_b99, f_X5_areApart_b100, h.1.fs, beq_self_eq_true, gck_t, Option.bind_some, b2i_1, e20, e30, e40, e50, if_true, if_false, r_fails h.1.1, fcd, gb2_s, hv.2.1, nI_leI, q, b2i_0, g1, g2, r_has gv, nI_1]
          cases c
          · simp only [if_true, Bool.false_and]; rfl
          · simp only [Bool.true_eq_false, if_false, Bool.true_and]
            cases (vw A t).any (isT ((vw A s).getD i tz).2.1 ((vw A s).getD i tz).2.2)
            · simp only [if_true]; rfl
            · simp only [Bool.true_eq_false, if_false]; rfl) true
      rw [foldl_and, Bool.true_and, b2i_t] at key
      rw [key]
      refine congrArg (fun z => some (b2i z, gsI S r 19 0)) ?_
      refine congrArg (fun p => (vw A s).all p) (funext fun u => ?_)
      have := fIdx_any (q := isT u.2.1 u.2.2) (l := vw A t) (by omega)
      cases z : (vw A t).any (isT u.2.1 u.2.2)
      · rw [decide_eq_true (this.mpr z)]; rfl
      · rw [decide_eq_false (fun y => by rw [this.mp y] at z; cases z)]; rfl
theorem r_sameLists {s t : Nat} {V M : List Tr} (h : rVw S r s V) (g : rVw S r t M) : f_X5_sameLists S r (nI s) (nI t) = some (b2i (lik V M)) := by
  have h24 := h.2.2.1
  have g24 := g.2.2.1
  unfold lik
  simp (disch := omega) only [f_X5_sameLists, h.1, beq_self_eq_true, gck_t, h.2.1, g.2.1, Option.bind_some, nI_eq]
  by_cases e : V.length = M.length
  · have := r_stands h g (p := 0) (by omega)
    rw [nI_0] at this
    rw [if_pos e, this]
    simp only [Option.bind_some, List.drop_zero, b2i_0, decide_eq_true e, Bool.true_and]
    cases alk V M <;> rfl
  · rw [if_neg e, decide_eq_false e]; rfl
/-- a number's thing, in another map -/
def sNb (M : List Tr) (withT : Bool) (t : Tr) : Bool := if withT = true then mL1 M t else decide (0 ≤ fIdx (fun u => u.1 == t.1) M 0)
theorem r_sameNumbersL {s t : Nat} (h : Rq r dq cap S hs A) (hw : WF A) (hs12 : s < 12) (ht12 : t < 12) (ks : (kMp (kA A s) || kA A s == 107) = true) (kt : (kMp (kA A t) || kA A t == 107) = true) (wt : Bool) :
    ∀ (l : List Tr) (i n : Nat) (c : Bool), (vw A s).drop i = l → l.length < n → i ≤ (vw A s).length → f_X5_sameNumbers_L23 S r n (nI s) (nI t) (b2i wt) (b2i c) (nI i) = some (b2i (c && l.all (sNb (vw A t) wt))) := by
  obtain ⟨j, j1, j2, j3, j4, j5⟩ := h.ref hw hs12 (Or.inl ks)
  obtain ⟨k, k1, k2, k3, k4, k5⟩ := h.ref hw ht12 (Or.inl kt)
  have hj := h.nj hw j1
  have hk := h.nj hw k1
  rw [← j4] at hj
  rw [← k4] at hk
  have hv := h.see hw hs12 j5
  have gv := h.see hw ht12 k5
  have h24 := hv.2.2.1
  have g24 := gv.2.2.1
  intro l
  induction l with
  | nil =>
    intro i n c h1 h2 h3
    obtain ⟨n, rfl⟩ : ∃ k, n = k + 1 := ⟨n - 1, by omega⟩
    have q : ((vw A s).length ≤ i) = True := eq_true (gd_nil h1)
    simp (disch := omega) only [f_X5_sameNumbers_L23, f_X5_sameNumbers_b111, hv.1, beq_self_eq_true, gck_t, hv.2.1, Option.bind_some, nI_leI, q, if_true, b2i_n, b2i_0, List.all_nil, Bool.and_true]
    cases c <;> rfl
  | cons u l ih =>
    intro i n c h1 h2 h3
    obtain ⟨n, rfl⟩ : ∃ k, n = k + 1 := ⟨n - 1, by omega⟩
    obtain ⟨a1, a2, a3⟩ := gd_cons h1
    obtain ⟨b1, b2⟩ := hv.2.2.2 i a1
    have b0 := hj.2.2.2 i a1
    rw [a2] at b1 b2 b0
    have q : ((vw A s).length ≤ i) = False := eq_false (by omega)
    have ih2 := fun c => ih (i + 1) n c a3 (by simp only [List.length_cons] at h2; omega) (by omega)
    simp (disch := omega) only [f_X5_sameNumbers_L23, f_X5_sameNumbers_b111, f_X5_sameNumbers_b102, f_X5_sameNumbers_b98, f_X5_sameNumbers_b103, h.1.fs, beq_self_eq_true, gck_t, hv.2.1, Option.bind_some, nI_leI, q, if_false, b2i_n, b2i_0, j3, k3, hj.2.2.1, b0, b1, b2, r_placeOfNumber h.1 hk, nI_1, List.all_cons]
    cases c
    · simp only [if_true, Bool.false_and]
    · simp only [Bool.true_eq_false, if_false, Bool.true_and]
      rcases fIdx_find (fun w => w.1 == u.1) (M := vw A t) (vw A t) 0 rfl with ⟨g1, g2⟩ | ⟨p, g0, g1, g2⟩
      · have e9 : sNb (vw A t) wt u = false := by
          unfold sNb mL1
          rw [g1, g2]
          cases wt
          · show decide ((0 : Int32) ≤ -1) = false; decide
          · rfl
        rw [g2, e9]
        simp only [if_true, Bool.false_and]
        have := ih2 false
        rw [Bool.false_and] at this
        exact this
      · have e8 : (0 : Int32) ≤ nI p := nI_pos' (by omega)
        rw [g1]
        simp only [nI_m1 (show p < 2 ^ 31 by omega), if_false, r_alike gv g0, Option.bind_some, b2i_0]
        cases wt
        · have e9 : sNb (vw A t) false u = true := by
            unfold sNb
            rw [g1]
            simp [e8]
          rw [e9]
          simp only [if_true, Bool.true_and]
          have := ih2 true
          rw [Bool.true_and] at this
          exact this
        · have e9 : sNb (vw A t) true u = isT u.2.1 u.2.2 ((vw A t).getD p tz) := by
            unfold sNb mL1
            rw [g2]
            show isT _ _ u = _
            unfold isT
            rw [Bool.eq_iff_iff]
            simp only [Bool.and_eq_true, beq_iff_eq]
            exact ⟨fun z => ⟨z.1.symm, z.2.symm⟩, fun z => ⟨z.1.symm, z.2.symm⟩⟩
          rw [e9]
          simp only [Bool.true_eq_false, if_false]
          cases isT u.2.1 u.2.2 ((vw A t).getD p tz)
          · simp only [if_true, Bool.false_and]
            have := ih2 false
            rw [Bool.false_and] at this
            exact this
          · simp only [Bool.true_eq_false, if_false, Bool.true_and]
            have := ih2 true
            rw [Bool.true_and] at this
            exact this
theorem r_sameNumbers {s t : Nat} (h : Rq r dq cap S hs A) (hw : WF A) (hs12 : s < 12) (ht12 : t < 12) (ks : (kMp (kA A s) || kA A s == 107) = true) (kt : (kMp (kA A t) || kA A t == 107) = true) (wt : Bool) :
    f_X5_sameNumbers S r (nI s) (nI t) (b2i wt) = some (b2i ((vw A s).all (sNb (vw A t) wt) && decide ((vw A s).length = (vw A t).length))) := by
  obtain ⟨j, j1, j2, j3, j4, j5⟩ := h.ref hw hs12 (Or.inl ks)
  obtain ⟨k, k1, k2, k3, k4, k5⟩ := h.ref hw ht12 (Or.inl kt)
  have hv := h.see hw hs12 j5
  have gv := h.see hw ht12 k5
  have h24 := hv.2.2.1
  have g24 := gv.2.2.1
  have key := fun c => r_sameNumbersL h hw hs12 ht12 ks kt wt (vw A s) 0 gN c rfl (by simp only [gN]; omega) (Nat.zero_le _)
  simp only [nI_0] at key
  simp (disch := omega) only [f_X5_sameNumbers, f_X5_sameNumbers_b18, hv.1, beq_self_eq_true, gck_t, hv.2.1, gv.2.1, Option.bind_some, nI_eq]
  by_cases e : (vw A s).length = (vw A t).length
  · have := key true
    rw [b2i_t, Bool.true_and] at this
    rw [if_pos e, this, decide_eq_true e, Bool.and_true]
  · have := key false
    rw [b2i_f, Bool.false_and] at this
    rw [if_neg e, this, decide_eq_false e, Bool.and_false]
theorem r_isSame (h : Rq r dq cap S hs A) (hw : WF A) (x y : Int32) : rAns [1, 2] S r (f_X5_isSame S r x y) (q_isSame A x y) := by
  have h0 := h.thr 0
  unfold q_isSame
  rcases c2s x y with e | ⟨s, hs12, rfl, e⟩ | ⟨s, t, hs12, rfl, ht12, rfl⟩
  · rw [e]
    exact ⟨0, _, rfl, by simp only [f_X5_isSame_b131, f_X5_isSame_b130, f_X5_isSame_b111, f_X5_isSame_b99, f_X5_isSame_b98, f_X5_isSame_b72, f_X5_isSame_b71, f_X5_isSame_b45, f_X5_isSame_b44, f_X5_isSame_b19, f_X5_isSame_b18, f_X5_isSame, h.1.fs, beq_self_eq_true, gck_t, Option.bind_some, b2i_1, e20, e30, e40, e50, if_true, if_false, r_fails h.1.1, fcd, gb2_s, r_slot0 S e]; rfl⟩
  · rw [sIx_n hs12, e]
    exact ⟨0, _, rfl, by simp only [f_X5_isSame_b131, f_X5_isSame_b130, f_X5_isSame_b111, f_X5_isSame_b99, f_X5_isSame_b98, f_X5_isSame_b72, f_X5_isSame_b71, f_X5_isSame_b45, f_X5_isSame_b44, f_X5_isSame_b19, f_X5_isSame_b18, f_X5_isSame, h.1.fs, beq_self_eq_true, gck_t, Option.bind_some, b2i_1, e20, e30, e40, e50, if_true, if_false, r_fails h.1.1, fcd, gb2_s, r_slot0 S e, r_slot1 S hs12]; rfl⟩
  · rw [sIx_n hs12, sIx_n ht12]
    simp only
    have l1 := r_isList h hs12
    have l2 := r_isList h ht12
    have m1 := r_isMap h hs12
    have m2 := r_isMap h ht12
    have k1 := r_isKeys h hs12
    have k2 := r_isKeys h ht12
    have n1 : (kA A s == 107) = true ↔ kA A s = 107 := beq_iff_eq
    have n2 : (kA A t == 107) = true ↔ kA A t = 107 := beq_iff_eq
    have bad : (kA A s = 45 ∨ kA A t = 45) ∨ ((kLs (kA A s) && kLs (kA A t)) = false ∧ ¬ (kA A s = 107 ∧ kA A t = 107) ∧ (kMp (kA A s) && kMp (kA A t)) = false) → rAns [1, 2] S r (f_X5_isSame S r (nI s) (nI t)) (.inr 2) := by
      intro hb
      have b1 : (kLs (kA A s) && kLs (kA A t)) = false := by
        rcases hb with (z | z) | z
        · rw [z]; rfl
        · rw [z]; exact Bool.and_false _
        · exact z.1
      have b2 : ((kA A s == 107) && (kA A t == 107)) = false := by
        rcases hb with (z | z) | z
        · rw [z]; rfl
        · rw [z]; exact Bool.and_false _
        · cases z1 : (kA A s == 107)
          · rfl
          · cases z2 : (kA A t == 107)
            · rfl
            · exact absurd ⟨n1.mp z1, n2.mp z2⟩ z.2.1
      have b3 : (kMp (kA A s) && kMp (kA A t)) = false := by
        rcases hb with (z | z) | z
        · rw [z]; rfl
        · rw [z]; exact Bool.and_false _
        · exact z.2.2
      refine ⟨1, 0, rfl, ?_⟩
      cases d1 : kLs (kA A s) <;> cases d2 : kLs (kA A t) <;> cases d3 : (kA A s == 107) <;> cases d4 : (kA A t == 107) <;> cases d5 : kMp (kA A s) <;> cases d6 : kMp (kA A t) <;>
        first
        | (rw [d1, d2] at b1; exact absurd b1 (by decide))
        | (rw [d3, d4] at b2; exact absurd b2 (by decide))
        | (rw [d5, d6] at b3; exact absurd b3 (by decide))
        | (rw [d1] at l1; rw [d2] at l2; rw [d3] at k1; rw [d4] at k2; rw [d5] at m1; rw [d6] at m2
           simp only [f_X5_isSame_b131, f_X5_isSame_b130, f_X5_isSame_b111, f_X5_isSame_b99, f_X5_isSame_b98, f_X5_isSame_b72, f_X5_isSame_b71, f_X5_isSame_b45, f_X5_isSame_b44, f_X5_isSame_b19, f_X5_isSame_b18, f_X5_isSame, h.1.fs, beq_self_eq_true, gck_t, Option.bind_some, b2i_1, e20, e30, e40, e50, if_true, if_false, r_fails h.1.1, fcd, gb2_s, l1, l2, k1, k2, m1, m2, b2i_f, b2i_t, r_slot1 S hs12, r_slot1 S ht12]
           rfl)
    by_cases h45 : kA A s = 45 ∨ kA A t = 45
    · rw [if_pos h45]; exact bad (Or.inl h45)
    · rw [if_neg h45]
      have es45 : kA A s ≠ 45 := fun z => h45 (Or.inl z)
      have et45 : kA A t ≠ 45 := fun z => h45 (Or.inr z)
      have hv0 := h0.see hw hs12 es45
      have gv0 := h0.see hw ht12 et45
      cases b1 : (kLs (kA A s) && kLs (kA A t))
      · simp only [Bool.false_eq_true, if_false]
        by_cases b2 : kA A s = 107 ∧ kA A t = 107
        · rw [if_pos b2]
          show _ = _
          obtain ⟨c1, c2⟩ := b2
          have hsn := r_sameNumbers h0 hw hs12 ht12 (by rw [c1]; decide) (by rw [c2]; decide) false
          rw [b2i_f] at hsn
          rw [show kLs (kA A s) = false by rw [c1]; decide] at l1
          rw [show kMp (kA A s) = false by rw [c1]; decide] at m1
          rw [show (kA A s == 107) = true from n1.mpr c1] at k1
          rw [show (kA A t == 107) = true from n2.mpr c2] at k2
          simp only [f_X5_isSame_b131, f_X5_isSame_b130, f_X5_isSame_b111, f_X5_isSame_b99, f_X5_isSame_b98, f_X5_isSame_b72, f_X5_isSame_b71, f_X5_isSame_b45, f_X5_isSame_b44, f_X5_isSame_b19, f_X5_isSame_b18, f_X5_isSame, h.1.fs, beq_self_eq_true, gck_t, Option.bind_some, b2i_1, e20, e30, e40, e50, if_true, if_false, r_fails h.1.1, fcd, gb2_s, h0.1.fs, l1, k1, k2, m1, b2i_f, b2i_t, r_slot1 S hs12, r_slot1 S ht12, hsn, b2i_n]
          rfl
        · rw [if_neg b2]
          cases b3 : (kMp (kA A s) && kMp (kA A t))
          · simp only [Bool.false_eq_true, if_false]
            exact bad (Or.inr ⟨b1, b2, b3⟩)
          · simp only [if_true]
            show _ = _
            obtain ⟨c1, c2⟩ := (Bool.and_eq_true _ _).mp b3
            have hsn := r_sameNumbers h0 hw hs12 ht12 (by rw [c1]; rfl) (by rw [c2]; rfl) true
            rw [b2i_t] at hsn
            have d1 : kLs (kA A s) = false := by
              have z : kA A s = 109 ∨ kA A s = 70 := by unfold kMp at c1; simpa using c1
              rcases z with z | z <;> (rw [z]; decide)
            have d2 : (kA A s == 107) = false := by
              have z : kA A s = 109 ∨ kA A s = 70 := by unfold kMp at c1; simpa using c1
              rcases z with z | z <;> (rw [z]; decide)
            rw [d1] at l1
            rw [d2] at k1
            rw [c1] at m1
            rw [c2] at m2
            simp only [f_X5_isSame_b131, f_X5_isSame_b130, f_X5_isSame_b111, f_X5_isSame_b99, f_X5_isSame_b98, f_X5_isSame_b72, f_X5_isSame_b71, f_X5_isSame_b45, f_X5_isSame_b44, f_X5_isSame_b19, f_X5_isSame_b18, f_X5_isSame, h.1.fs, beq_self_eq_true, gck_t, Option.bind_some, b2i_1, e20, e30, e40, e50, if_true, if_false, r_fails h.1.1, fcd, gb2_s, h0.1.fs, l1, k1, m1, m2, b2i_f, b2i_t, r_slot1 S hs12, r_slot1 S ht12, hsn, b2i_n]
            rfl
      · simp only [if_true]
        show _ = _
        obtain ⟨c1, c2⟩ := (Bool.and_eq_true _ _).mp b1
        obtain ⟨y1, y2, y3, y4, y5⟩ := kLs_ne c1
        have d1 : (kA A s == 107) = false := beq_eq_false_iff_ne.mpr y1
        have d2 : kMp (kA A s) = false := by
          unfold kMp
          rw [beq_eq_false_iff_ne.mpr y3, beq_eq_false_iff_ne.mpr y4]; rfl
        rw [c1] at l1
        rw [c2] at l2
        rw [d1] at k1
        rw [d2] at m1
        simp only [f_X5_isSame_b131, f_X5_isSame_b130, f_X5_isSame_b111, f_X5_isSame_b99, f_X5_isSame_b98, f_X5_isSame_b72, f_X5_isSame_b71, f_X5_isSame_b45, f_X5_isSame_b44, f_X5_isSame_b19, f_X5_isSame_b18, f_X5_isSame, h.1.fs, beq_self_eq_true, gck_t, Option.bind_some, b2i_1, e20, e30, e40, e50, if_true, if_false, r_fails h.1.1, fcd, gb2_s, h0.1.fs, l1, l2, k1, m1, b2i_f, b2i_t, r_slot1 S hs12, r_slot1 S ht12, r_sameLists hv0 gv0, b2i_n]
theorem r_chkL (h : Rq r dq cap S hs A) (hw : WF A) : ∀ (d i n : Nat) (c : Int64), i + d = 12 → d < n → f_X5_checksum_L11 r n S c (nI i) = some ((List.range' i d).foldl (chk1 A) c, S) := by
  intro d
  induction d with
  | zero =>
    intro i n c h1 h2
    obtain ⟨n, rfl⟩ : ∃ k, n = k + 1 := ⟨n - 1, by omega⟩
    have q : (12 ≤ i) = True := eq_true (by omega)
    rw [f_X5_checksum_L11, n_12]
    simp (disch := omega) only [nI_leI, q, if_true]
    rfl
  | succ d ih =>
    intro i n c h1 h2
    obtain ⟨n, rfl⟩ : ∃ k, n = k + 1 := ⟨n - 1, by omega⟩
    have q : (12 ≤ i) = False := eq_false (by omega)
    have hi : i < 12 := by omega
    rw [f_X5_checksum_L11, n_12]
    simp (disch := omega) only [nI_leI, q, if_false, f_X5_checksum_b63, h.1.fs, beq_self_eq_true, gck_t, Option.bind_some, b2i_1, e20, e30, e40, e50, if_true, if_false, r_fails h.1.1, fcd, gb2_s, h.1.rs.1 i hi, h.kd hi, nI_1]
    rw [List.range'_succ, List.foldl_cons]
    by_cases e : kA A i = 45
    · have z : (45 : Int32).toInt64 = 45 := by decide
      have e2 : chk1 A c i = 31 * c + 45 := by unfold chk1; rw [if_pos e]
      rw [e2]
      simp only [e, if_true, z]
      exact ih (i + 1) n _ (by omega) (by omega)
    · have e2 : chk1 A c i = wlk (kA A i) (31 * (31 * c + (kA A i).toInt64) + (nI (vw A i).length).toInt64) 0 (vw A i) := by unfold chk1; rw [if_neg e]
      rw [e2]
      simp only [e, if_false, r_many h hw hi e, r_walked h hw hi e, Option.bind_some]
      exact ih (i + 1) n _ (by omega) (by omega)
theorem r_checksum (h : Rq r dq cap S hs A) (hw : WF A) : f_X5_checksum S r = some (q_checksum A, gsI S r 19 0) := by
  have := r_chkL (h.thr 0) hw 12 0 gN 7 (by omega) (by simp only [gN]; omega)
  rw [nI_0] at this
  simp only [f_X5_checksum, h.1.fs, Option.bind_some, this]
  unfold q_checksum
  rw [List.range_eq_range']
theorem r_isSound (h : Rq r dq cap S hs A) : f_X5_isSound S r = some (1, gsI S r 19 0) := by
  simp only [f_X5_isSound, h.1.fs, Option.bind_some]
end RAsk3
