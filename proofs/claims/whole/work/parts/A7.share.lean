/-! share, meanKey: both sides -/
def shF (c : Int32) (t : Tr) : Int32 := if t.2.1 ≤ 0 then c else c + 1
def mkF (c : Int32) (t : Tr) : Int32 := c + t.2.1
def q_share (A : AS) (x : Int32) : UInt32 ⊕ Nat := bnd (ndL A x isRw) fun s => if (vw A s).length = 0 then .inr 6 else .inl (FP.fdiv (FP.i2f ((vw A s).foldl shF 0)) (FP.i2f (nI (vw A s).length)))
def q_meanKey (A : AS) (x : Int32) : UInt64 ⊕ Nat := bnd (ndL A x isRw) fun s => if (vw A s).length = 0 then .inr 6 else .inl (FP.ddiv (FP.i2d ((vw A s).foldl mkF 0)) (FP.i2d (nI (vw A s).length)))
section ShMk
variable {b k hs r cap : Nat} {S : GS} {A : AS} {pa ch dq : Nat → Nat}
theorem c_share (h : Rcp b k pa ch S hs A) (hw : WF A) (x : Int32) : f_X4_share S b x = some (q_share A x) := by
  unfold f_X4_share q_share
  simp only [h.1.1.1, beq_self_eq_true, gck_t]
  rcases c_needRow (x := x) h hw with ⟨e, e1, e2⟩ | ⟨s, a, e1, e2, e3, e4, e5, e6⟩
  · have e1 : ndL A x isRw = .inr e := e1
    rw [e1, e2]; rfl
  · have e1 : ndL A x isRw = .inl s := e1
    have hv := e5.view
    have h24 := hv.2.2.1
    rw [e1, e6]
    simp only [gth_l, gtk_at hv.1, Option.bind_some, hv.2.2.2.1, bnd]
    by_cases c : (vw A s).length = 0
    · rw [if_pos c, c]
      rfl
    · rw [if_neg c, if_neg (fun z => nI_ne0 (by omega) (by omega) z)]
      refine lpF (F := fun n (c : Int32) i => f_X4_share_L29 S b n (some a) (nI (vw A s).length) c i) (vw A s) shF (fun c => some (.inl (FP.fdiv (FP.i2f c) (FP.i2f (nI (vw A s).length))))) (by omega) (fun n c => ?_) (fun n c i hi => ?_) 0
      · simp only [f_X4_share_L29, Int32.le_refl, if_true, gn_divF c (show 1 ≤ (vw A s).length by omega) h24, gck_t]
      · have q : ((vw A s).length ≤ i) = False := eq_false (by omega)
        obtain ⟨b1, -⟩ := hv.2.2.2.2 i hi
        simp (disch := omega) only [f_X4_share_L29, f_X4_share_b47, nI_leI, q, if_false, gtk_at hv.1, Option.bind_some, b1, nI_1]
        unfold shF
        by_cases e : ((vw A s).getD i tz).2.1 ≤ 0
        · rw [if_pos e, if_pos e]
        · rw [if_neg e, if_neg e]
theorem c_meanKey (h : Rcp b k pa ch S hs A) (hw : WF A) (x : Int32) : f_X4_meanKey S b x = some (q_meanKey A x) := by
  unfold f_X4_meanKey q_meanKey
  simp only [h.1.1.1, beq_self_eq_true, gck_t]
  rcases c_needRow (x := x) h hw with ⟨e, e1, e2⟩ | ⟨s, a, e1, e2, e3, e4, e5, e6⟩
  · have e1 : ndL A x isRw = .inr e := e1
    rw [e1, e2]; rfl
  · have e1 : ndL A x isRw = .inl s := e1
    have hv := e5.view
    have h24 := hv.2.2.1
    rw [e1, e6]
    simp only [gth_l, gtk_at hv.1, Option.bind_some, hv.2.2.2.1, bnd]
    by_cases c : (vw A s).length = 0
    · rw [if_pos c, c]
      rfl
    · rw [if_neg c, if_neg (fun z => nI_ne0 (by omega) (by omega) z)]
      refine lpF (F := fun n (c : Int32) i => f_X4_meanKey_L29 S b n (some a) (nI (vw A s).length) c i) (vw A s) mkF (fun c => some (.inl (FP.ddiv (FP.i2d c) (FP.i2d (nI (vw A s).length))))) (by omega) (fun n c => ?_) (fun n c i hi => ?_) 0
      · simp only [f_X4_meanKey_L29, Int32.le_refl, if_true, gn_divD c (show 1 ≤ (vw A s).length by omega) h24, gck_t]
      · have q : ((vw A s).length ≤ i) = False := eq_false (by omega)
        obtain ⟨b1, -⟩ := hv.2.2.2.2 i hi
        simp (disch := omega) only [f_X4_meanKey_L29, nI_leI, q, if_false, gtk_at hv.1, Option.bind_some, b1, nI_1]
        rfl
theorem r_share (h : Rq r dq cap S hs A) (hw : WF A) (x : Int32) : rAns [1, 2, 6] S r (f_X5_share S r x) (q_share A x) := by
  have h0 := h.thr 0
  have e60 : ((6 : Int32) = 0) = False := by decide
  unfold q_share
  rcases c3 (A := A) x isRw with e | ⟨s, hs12, rfl, e⟩ | ⟨s, hs12, rfl, e45, e⟩
  · rw [nd_no e]
    refine ⟨0, FP.fconst0, rfl, ?_⟩
    simp only [f_X5_share, h.1.1, beq_self_eq_true, gck_t, r_isRow_no h e, Option.bind_some]
    show f_X5_share_L11 S r (4999 + 1) _ _ _ _ = _
    rw [f_X5_share_L11]
    simp only [f_X5_share_b88, f_X5_share_b87, f_X5_share_b71, f_X5_share_b62, f_X5_share_b49, f_X5_share_b41, h.1.fs, beq_self_eq_true, gck_t, Option.bind_some, b2i_1, e20, e30, e40, e50, if_true, if_false, r_fails h.1.1, fcd, gb2_s, r_slot0 S e]
    rfl
  · rw [nd_bad hs12 e]
    have e : (kLs (kA A s) || kA A s == 118) = false := or_bad (q := isRw) e (by decide)
    have e2 := r_isRow h hs12
    rw [e] at e2
    refine ⟨1, FP.fconst0, rfl, ?_⟩
    simp only [f_X5_share, h.1.1, beq_self_eq_true, gck_t, e2, Option.bind_some, b2i_f]
    show f_X5_share_L11 S r (4999 + 1) _ _ _ _ = _
    rw [f_X5_share_L11]
    simp only [f_X5_share_b88, f_X5_share_b87, f_X5_share_b71, f_X5_share_b62, f_X5_share_b49, f_X5_share_b41, h.1.fs, beq_self_eq_true, gck_t, Option.bind_some, b2i_1, e20, e30, e40, e50, if_true, if_false, r_fails h.1.1, fcd, gb2_s, r_slot1 S hs12]
    rfl
  · rw [nd_ok hs12 e45 e]
    have e2 := r_isRow h hs12
    have e : (kLs (kA A s) || kA A s == 118) = true := e
    rw [e] at e2
    have hv := h.see hw hs12 e45
    have hv0 := h0.see hw hs12 e45
    have h24 := hv.2.2.1
    have key : f_X5_share_L11 S r gN (nI s) 1 0 0 = f_X5_share_b49 S r (nI s) 1 ((vw A s).foldl shF 0) := by
      refine lpF (F := fun n (c : Int32) i => f_X5_share_L11 S r n (nI s) 1 c i) (vw A s) shF (fun c => f_X5_share_b49 S r (nI s) 1 c) (by omega) (fun n c => ?_) (fun n c i hi => ?_) 0
      · simp only [f_X5_share_L11, e1z, if_false, h.1.1, beq_self_eq_true, gck_t, hv.2.1, Option.bind_some, Int32.le_refl, if_true]
      · have q : ((vw A s).length ≤ i) = False := eq_false (by omega)
        obtain ⟨b1, -⟩ := hv.2.2.2 i hi
        simp (disch := omega) only [f_X5_share_L11, f_X5_share_b41, e1z, h.1.1, beq_self_eq_true, gck_t, hv.2.1, Option.bind_some, nI_leI, q, if_false, b1, nI_1]
        unfold shF
        by_cases e : ((vw A s).getD i tz).2.1 ≤ 0
        · rw [if_pos e, if_pos e, Int32.add_zero]
        · rw [if_neg e, if_neg e]
    have hst : f_X5_share S r (nI s) = f_X5_share_b49 S r (nI s) 1 ((vw A s).foldl shF 0) := by
      simp only [f_X5_share, h.1.1, beq_self_eq_true, gck_t, e2, Option.bind_some, b2i_t]
      exact key
    by_cases c : (vw A s).length = 0
    · rw [if_pos c]
      refine ⟨2, FP.fconst0, rfl, ?_⟩
      have hm : f_X5_many S r (nI s) = some 0 := by rw [hv.2.1, c]; rfl
      rw [hst]
      simp only [f_X5_share_b88, f_X5_share_b87, f_X5_share_b71, f_X5_share_b62, f_X5_share_b49, f_X5_share_b41, h.1.fs, beq_self_eq_true, gck_t, Option.bind_some, b2i_1, e20, e30, e40, e50, if_true, if_false, r_fails h.1.1, fcd, gb2_s, r_slot1 S hs12, hm, e1z]
      rfl
    · rw [if_neg c]
      have c0 : (nI (vw A s).length = 0) = False := eq_false (fun z => nI_ne0 (by omega) (by omega) z)
      show f_X5_share S r (nI s) = some (_, gsI S r 19 0)
      rw [hst]
      simp only [f_X5_share_b88, f_X5_share_b87, f_X5_share_b71, f_X5_share_b62, f_X5_share_b49, f_X5_share_b41, h.1.fs, beq_self_eq_true, gck_t, Option.bind_some, b2i_1, e20, e30, e40, e50, if_true, if_false, r_fails h.1.1, fcd, gb2_s, r_slot1 S hs12, hv.2.1, c0, e1z, h0.1.1, hv0.2.1, gn_divF _ (show 1 ≤ (vw A s).length by omega) h24]
theorem r_meanKey (h : Rq r dq cap S hs A) (hw : WF A) (x : Int32) : rAns [1, 2, 6] S r (f_X5_meanKey S r x) (q_meanKey A x) := by
  have h0 := h.thr 0
  have e60 : ((6 : Int32) = 0) = False := by decide
  unfold q_meanKey
  rcases c3 (A := A) x isRw with e | ⟨s, hs12, rfl, e⟩ | ⟨s, hs12, rfl, e45, e⟩
  · rw [nd_no e]
    refine ⟨0, FP.dconst0, rfl, ?_⟩
    simp only [f_X5_meanKey, h.1.1, beq_self_eq_true, gck_t, r_isRow_no h e, Option.bind_some]
    show f_X5_meanKey_L11 S r (4999 + 1) _ _ _ _ = _
    rw [f_X5_meanKey_L11]
    simp only [f_X5_meanKey_b80, f_X5_meanKey_b79, f_X5_meanKey_b63, f_X5_meanKey_b54, f_X5_meanKey_b41, h.1.fs, beq_self_eq_true, gck_t, Option.bind_some, b2i_1, e20, e30, e40, e50, if_true, if_false, r_fails h.1.1, fcd, gb2_s, r_slot0 S e]
    rfl
  · rw [nd_bad hs12 e]
    have e : (kLs (kA A s) || kA A s == 118) = false := or_bad (q := isRw) e (by decide)
    have e2 := r_isRow h hs12
    rw [e] at e2
    refine ⟨1, FP.dconst0, rfl, ?_⟩
    simp only [f_X5_meanKey, h.1.1, beq_self_eq_true, gck_t, e2, Option.bind_some, b2i_f]
    show f_X5_meanKey_L11 S r (4999 + 1) _ _ _ _ = _
    rw [f_X5_meanKey_L11]
    simp only [f_X5_meanKey_b80, f_X5_meanKey_b79, f_X5_meanKey_b63, f_X5_meanKey_b54, f_X5_meanKey_b41, h.1.fs, beq_self_eq_true, gck_t, Option.bind_some, b2i_1, e20, e30, e40, e50, if_true, if_false, r_fails h.1.1, fcd, gb2_s, r_slot1 S hs12]
    rfl
  · rw [nd_ok hs12 e45 e]
    have e2 := r_isRow h hs12
    have e : (kLs (kA A s) || kA A s == 118) = true := e
    rw [e] at e2
    have hv := h.see hw hs12 e45
    have hv0 := h0.see hw hs12 e45
    have h24 := hv.2.2.1
    have key : f_X5_meanKey_L11 S r gN (nI s) 1 0 0 = f_X5_meanKey_b41 S r (nI s) 1 ((vw A s).foldl mkF 0) := by
      refine lpF (F := fun n (c : Int32) i => f_X5_meanKey_L11 S r n (nI s) 1 c i) (vw A s) mkF (fun c => f_X5_meanKey_b41 S r (nI s) 1 c) (by omega) (fun n c => ?_) (fun n c i hi => ?_) 0
      · simp only [f_X5_meanKey_L11, e1z, if_false, h.1.1, beq_self_eq_true, gck_t, hv.2.1, Option.bind_some, Int32.le_refl, if_true]
      · have q : ((vw A s).length ≤ i) = False := eq_false (by omega)
        obtain ⟨b1, -⟩ := hv.2.2.2 i hi
        simp (disch := omega) only [f_X5_meanKey_L11, e1z, h.1.1, beq_self_eq_true, gck_t, hv.2.1, Option.bind_some, nI_leI, q, if_false, b1, nI_1]
        rfl
    have hst : f_X5_meanKey S r (nI s) = f_X5_meanKey_b41 S r (nI s) 1 ((vw A s).foldl mkF 0) := by
      simp only [f_X5_meanKey, h.1.1, beq_self_eq_true, gck_t, e2, Option.bind_some, b2i_t]
      exact key
    by_cases c : (vw A s).length = 0
    · rw [if_pos c]
      refine ⟨2, FP.dconst0, rfl, ?_⟩
      have hm : f_X5_many S r (nI s) = some 0 := by rw [hv.2.1, c]; rfl
      rw [hst]
      simp only [f_X5_meanKey_b80, f_X5_meanKey_b79, f_X5_meanKey_b63, f_X5_meanKey_b54, f_X5_meanKey_b41, h.1.fs, beq_self_eq_true, gck_t, Option.bind_some, b2i_1, e20, e30, e40, e50, if_true, if_false, r_fails h.1.1, fcd, gb2_s, r_slot1 S hs12, hm, e1z]
      rfl
    · rw [if_neg c]
      have c0 : (nI (vw A s).length = 0) = False := eq_false (fun z => nI_ne0 (by omega) (by omega) z)
      show f_X5_meanKey S r (nI s) = some (_, gsI S r 19 0)
      rw [hst]
      simp only [f_X5_meanKey_b80, f_X5_meanKey_b79, f_X5_meanKey_b63, f_X5_meanKey_b54, f_X5_meanKey_b41, h.1.fs, beq_self_eq_true, gck_t, Option.bind_some, b2i_1, e20, e30, e40, e50, if_true, if_false, r_fails h.1.1, fcd, gb2_s, r_slot1 S hs12, hv.2.1, c0, e1z, h0.1.1, hv0.2.1, gn_divD _ (show 1 ≤ (vw A s).length by omega) h24]
end ShMk
