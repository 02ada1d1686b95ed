/-! what goes: keep, strip, keepKeys, drop; raise; maps -/
theorem cHd.go {b : Nat} {S S' : GS} (h : cHd S b) (g : gGo b S S') : cHd S' b := by
  obtain ⟨⟨p1, p2, p3, p4, p5⟩, ⟨p6, p7⟩, ⟨p8, p9⟩, ⟨p10, p11, p12⟩, p13, p14, p15, p16⟩ := h
  obtain ⟨g1, g2, g3, g4⟩ := g
  refine ⟨⟨?_, ?_, ?_, ?_, ?_⟩, ⟨?_, ?_⟩, ⟨?_, ?_⟩, ⟨?_, ?_, ?_⟩, ?_, ?_, ?_, ?_⟩ <;> first | (rw [g1]; assumption) | (rw [g2]; assumption) | (rw [g3]; assumption) | (rw [g4 _ _ (by omega)]; assumption)
section CMut4
variable {b k hs : Nat} {S : GS} {A : AS}
/-- a loop that marks: each step marks the next place by what is seen there -/
theorem c_markAll {a : Nat} {kd : Int32} {V : List Tr} {u : Option Nat} {f : Nat} {q : Tr → Bool} {I : GS → Prop} {F : Nat → GS → Int32 → Option ((Int32 × GS) ⊕ Nat)} {E : GS → Option ((Int32 × GS) ⊕ Nat)} (hI : ∀ S S', gGo b S S' → gT S (b + 26) = 12 → I S → I S')
    (h0 : ∀ (S : GS) (n i : Nat), cHd S b → cPn S a kd V u f → I S → V.length ≤ i → i < 2 ^ 31 → F (n + 1) S (nI i) = E S)
    (h1 : ∀ (S : GS) (n i : Nat), cHd S b → cPn S a kd V u f → I S → i < V.length → F (n + 1) S (nI i) = F n (gsI S (b + 26) i (b2i (q (V.getD i tz)))) (nI (i + 1))) :
    ∀ (d i : Nat) (S : GS) (n : Nat), cHd S b → cPn S a kd V u f → I S → i + d = V.length → d < n →
    ∃ S', F n S (nI i) = E S' ∧ gGo b S S' ∧ ∀ j, j < V.length → (i ≤ j → gI S' (b + 26) j = b2i (q (V.getD j tz))) ∧ (j < i → gI S' (b + 26) j = gI S (b + 26) j) := by
  intro d
  induction d with
  | zero =>
    intro i S n hH hp hi h2 h3
    obtain ⟨n, rfl⟩ : ∃ k, n = k + 1 := ⟨n - 1, by omega⟩
    have h24 := hp.view.2.2.1
    exact ⟨S, h0 S n i hH hp hi (by omega) (by omega), gGo.rf, fun j hj => ⟨fun e => by omega, fun _ => rfl⟩⟩
  | succ d ih =>
    intro i S n hH hp hi h2 h3
    obtain ⟨n, rfl⟩ : ∃ k, n = k + 1 := ⟨n - 1, by omega⟩
    have g1 : gGo b S (gsI S (b + 26) i (b2i (q (V.getD i tz)))) := gGo.one
    have ht := hH.2.2.1.1
    obtain ⟨S', y1, y2, y3⟩ := ih (i + 1) _ n (hH.go g1) (g1.pn ht hp) (hI _ _ g1 ht hi) (by omega) (by omega)
    refine ⟨S', (h1 S n i hH hp hi (by omega)).trans y1, g1.tr y2, fun j hj => ⟨fun e => ?_, fun e => ?_⟩⟩
    · by_cases e2 : j = i
      · subst e2; rw [(y3 j hj).2 (by omega), gI_gsI, if_pos ⟨rfl, rfl⟩]
      · exact (y3 j hj).1 (by omega)
    · rw [(y3 j hj).2 (by omega), gI_gsI, if_neg (by omega)]
theorem c_delEnd {s a : Nat} {pa ch : Nat → Nat} {q : Tr → Bool} {S1 : GS} (hr : Rcp b k pa ch S hs A) (hw : WF A) (e5 : has A S b s a) (ho : sO (slA A s) = true) (hk : k < 600) (hn : npA A ≤ k) (g : gGo b S S1) (hm : ∀ j, j < (vw A s).length → gI S1 (b + 26) j = b2i (q ((vw A s).getD j tz))) :
    cRes b k hs (gck (gT S1 b == 5) (gb2 (f_X4_removeGoing S1 b (some a) (some (stB b (sR (slA A s))))) fun v27 S28 => some (.inl (v27, S28)))) (m_del A s q) := by
  have ht := hr.1.2.2.1.1
  obtain ⟨S2, z1, z2⟩ := c_remG (q := q) (g.rcp hr) hw (e5.go g ht) (opn_of hw e5.1 e5.2.1 ho) hk hn hm
  rw [show gT S1 b = 5 from (g.2.1 b).trans hr.1.1.1]
  simp only [beq_self_eq_true, gck_t, z1, gb2_s]
  exact ⟨S2, rfl, z2⟩
theorem c_keep (h : Rc b k S hs A) (hk : k < 600) (x1 x2 x3 : Int32) : cRes b k hs (f_X4_keep S b x1 x2 x3) (m_keep A x1 x2 x3) := by
  obtain ⟨hw, hn, pa, ch, hr⟩ := h
  unfold f_X4_keep m_keep
  rcases c_need2 (x := x1) (y := x2) (q := isRw) hr hw (fun x => c_needRow (x := x) hr hw) (K := fun v7 v12 => gth (f_X4_openStore S v7) fun v16 => f_X4_keep_L29 b gN S x3 v7 v12 v16 0) with ⟨e, e1, e2⟩ | ⟨s, t, a, c, e1, -, -, e2, e3, e4, e5, e6⟩
  · rw [e1]; exact e2
  · rw [e1]
    have e6 := e6.trans (congrArg (fun z => gth z fun v16 => f_X4_keep_L29 b gN S x3 (some a) (some c) v16 0) (c_open e4 hw))
    rw [e6]
    show cRes b k hs _ (if sO (slA A s) = false then .inr 3 else m_del A s (q_keep (vw A t) x3))
    cases ho : sO (slA A s)
    · simp only [Bool.false_eq_true, if_false, if_true, gth_r]; rfl
    · simp only [if_true, gth_l, Bool.true_eq_false, if_false]
      have h24 := e4.view.2.2.1
      obtain ⟨S1, y1, y2, y3⟩ := c_markAll (b := b) (a := a) (V := vw A s) (q := q_keep (vw A t) x3) (I := fun S => cPn S c (kA A t) (vw A t) (if isC (slA A t) = true then none else some (stB b (sR (slA A t)))) (fsA A (slA A t)))
        (F := fun n S i => f_X4_keep_L29 b n S x3 (some a) (some c) (some (stB b (sR (slA A s)))) i) (E := fun S => gck (gT S b == 5) (gb2 (f_X4_removeGoing S b (some a) (some (stB b (sR (slA A s))))) fun v27 S28 => some (.inl (v27, S28))))
        (fun S S' g ht hp => g.pn ht hp) (fun S n i hH hp _ hi hi2 => by
          have hv := hp.view
          have := hv.2.2.1
          show f_X4_keep_L29 b (n + 1) S x3 (some a) (some c) (some (stB b (sR (slA A s)))) (nI i) = _
          rw [f_X4_keep_L29]
          simp (disch := omega) only [gtk_at hv.1, hv.2.2.2.1, Option.bind_some, nI_leI, eq_true hi, if_true])
        (fun S n i hH hp hq hi => by
          have hv := hp.view
          have hv2 := hq.view
          have := hv.2.2.1
          obtain ⟨b1, b2, -⟩ := hv.2.2.2.2 i hi
          have q1 : ((vw A s).length ≤ i) = False := eq_false (by omega)
          have ef : ∀ x y, fnd x y (vw A t) 0 = fIdx (isT x y) (vw A t) 0 := fun _ _ => rfl
          show f_X4_keep_L29 b (n + 1) S x3 (some a) (some c) (some (stB b (sR (slA A s)))) (nI i) = _
          rw [f_X4_keep_L29]
          simp (disch := omega) only [gtk_at hv.1, gtk_at hv2.1, hv.2.2.2.1, Option.bind_some, nI_leI, q1, if_false, b1, b2, f_find hv2, ef, f_X4_keep_b67, f_X4_keep_b83, gtk_at hH.1.1, c_mark hH (show i < 24 by omega) (show gnr .boolean (0 : Int32) = true by decide), c_mark hH (show i < 24 by omega) (show gnr .boolean (1 : Int32) = true by decide), nI_1]
          unfold q_keep
          by_cases c1 : fIdx (isT ((vw A s).getD i tz).2.1 ((vw A s).getD i tz).2.2) (vw A t) 0 < 0
          · rw [if_pos c1, if_pos c1]
            by_cases c2 : (0 : Int32) = x3
            · rw [if_pos c2, decide_eq_false (by rw [c2]; simp)]; rfl
            · rw [if_neg c2, decide_eq_true c2]; rfl
          · rw [if_neg c1, if_neg c1]
            by_cases c2 : (1 : Int32) = x3
            · rw [if_pos c2, decide_eq_false (by rw [c2]; simp)]; rfl
            · rw [if_neg c2, decide_eq_true c2]; rfl) (vw A s).length 0 S gN hr.1 e4.2.2.2.1 e5.2.2.2.1 (by omega) (by simp only [gN]; omega)
      rw [nI_0] at y1
      have y1 : f_X4_keep_L29 b gN S x3 (some a) (some c) (some (stB b (sR (slA A s)))) 0 = _ := y1
      rw [y1]
      exact c_delEnd hr hw e4 ho hk hn y2 (fun j hj => (y3 j hj).1 (by omega))
theorem c_keepKeys (h : Rc b k S hs A) (hk : k < 600) (x1 x2 x3 : Int32) : cRes b k hs (f_X4_keepKeys S b x1 x2 x3) (m_keepKeys A x1 x2 x3) := by
  obtain ⟨hw, hn, pa, ch, hr⟩ := h
  unfold f_X4_keepKeys m_keepKeys
  rcases c_need2 (x := x1) (y := x2) (q := fun k => k == 107) hr hw (fun x => c_needKeys (x := x) hr hw) (K := fun v7 v12 => gth (f_X4_openStore S v7) fun v16 => f_X4_keepKeys_L29 b gN S x3 v7 v12 v16 0) with ⟨e, e1, e2⟩ | ⟨s, t, a, c, e1, -, -, e2, e3, e4, e5, e6⟩
  · rw [e1]; exact e2
  · rw [e1]
    have e6 := e6.trans (congrArg (fun z => gth z fun v16 => f_X4_keepKeys_L29 b gN S x3 (some a) (some c) v16 0) (c_open e4 hw))
    rw [e6]
    show cRes b k hs _ (if sO (slA A s) = false then .inr 3 else m_del A s (q_keepK (vw A t) x3))
    have mt := map_facts hw e5.1 (Or.inr (Or.inr (Or.inl (beq_iff_eq.mp e3))))
    cases ho : sO (slA A s)
    · simp only [Bool.false_eq_true, if_false, if_true, gth_r]; rfl
    · simp only [if_true, gth_l, Bool.true_eq_false, if_false]
      have h24 := e4.view.2.2.1
      have hc0 : cPn S c (kA A t) (vw A t) (some (stB b (sR (slA A t)))) 0 := by
        have := e5.2.2.2.1
        rw [mt.2.2.1, mt.2.2.2.2.1] at this
        exact this
      obtain ⟨S1, y1, y2, y3⟩ := c_markAll (b := b) (a := a) (V := vw A s) (q := q_keepK (vw A t) x3) (I := fun S => cPn S c (kA A t) (vw A t) (some (stB b (sR (slA A t)))) 0 ∧ gR S c 3 = none)
        (F := fun n S i => f_X4_keepKeys_L29 b n S x3 (some a) (some c) (some (stB b (sR (slA A s)))) i) (E := fun S => gck (gT S b == 5) (gb2 (f_X4_removeGoing S b (some a) (some (stB b (sR (slA A s))))) fun v27 S28 => some (.inl (v27, S28))))
        (fun S S' g ht hp => ⟨g.pn ht hp.1, by rw [g.1]; exact hp.2⟩) (fun S n i hH hp _ hi hi2 => by
          have hv := hp.view
          have := hv.2.2.1
          show f_X4_keepKeys_L29 b (n + 1) S x3 (some a) (some c) (some (stB b (sR (slA A s)))) (nI i) = _
          rw [f_X4_keepKeys_L29]
          simp (disch := omega) only [gtk_at hv.1, hv.2.2.2.1, Option.bind_some, nI_leI, eq_true hi, if_true])
        (fun S n i hH hp hq hi => by
          have hv := hp.view
          have hv2 := hq.1.view
          have := hv.2.2.1
          obtain ⟨-, -, b3⟩ := hv.2.2.2.2 i hi
          have q1 : ((vw A s).length ≤ i) = False := eq_false (by omega)
          show f_X4_keepKeys_L29 b (n + 1) S x3 (some a) (some c) (some (stB b (sR (slA A s)))) (nI i) = _
          rw [f_X4_keepKeys_L29]
          simp (disch := omega) only [gtk_at hv.1, gtk_at hv2.1, hv.2.2.2.1, Option.bind_some, nI_leI, q1, if_false, b3, hq.1.find hq.2, f_X4_keepKeys_b59, f_X4_keepKeys_b75, gtk_at hH.1.1, c_mark hH (show i < 24 by omega) (show gnr .boolean (0 : Int32) = true by decide), c_mark hH (show i < 24 by omega) (show gnr .boolean (1 : Int32) = true by decide), nI_1]
          unfold q_keepK
          by_cases c1 : fIdx (fun u => u.1 == ((vw A s).getD i tz).1) (vw A t) 0 < 0
          · rw [if_pos c1, if_pos c1]
            by_cases c2 : (0 : Int32) = x3
            · rw [if_pos c2, decide_eq_false (by rw [c2]; simp)]; rfl
            · rw [if_neg c2, decide_eq_true c2]; rfl
          · rw [if_neg c1, if_neg c1]
            by_cases c2 : (1 : Int32) = x3
            · rw [if_pos c2, decide_eq_false (by rw [c2]; simp)]; rfl
            · rw [if_neg c2, decide_eq_true c2]; rfl) (vw A s).length 0 S gN hr.1 e4.2.2.2.1 ⟨hc0, e5.2.2.2.2.2 mt.2.2.2.1⟩ (by omega) (by simp only [gN]; omega)
      rw [nI_0] at y1
      have y1 : f_X4_keepKeys_L29 b gN S x3 (some a) (some c) (some (stB b (sR (slA A s)))) 0 = _ := y1
      rw [y1]
      exact c_delEnd hr hw e4 ho hk hn y2 (fun j hj => (y3 j hj).1 (by omega))
/-- a slot of some kind, as 'strip' and 'raise' look for it -/
theorem c_kind2 {pa ch : Nat → Nat} {x : Int32} {q : Int32 → Bool} {α : Type} {F : Nat → Option (α ⊕ Nat)} {G : Option Nat → Option (α ⊕ Nat)} (hr : Rcp b k pa ch S hs A) (hw : WF A) (hG0 : G none = some (.inr 2)) (hG : ∀ a, gT S a = 2 → G (some a) = if q (gI S a 0) = true then F a else some (.inr 2)) :
    (∃ e, (∀ (β : Type) (g : Nat → β ⊕ Nat), bnd (ndL A x q) g = .inr e) ∧ gth (f_X4_held S b x) G = some (.inr e)) ∨ ∃ s a, (∀ (β : Type) (g : Nat → β ⊕ Nat), bnd (ndL A x q) g = g s) ∧ q (sK (slA A s)) = true ∧ has A S b s a ∧ gth (f_X4_held S b x) G = F a := by
  unfold ndL
  rcases sIx_c x with ⟨e, -⟩ | ⟨s, h1, rfl, e⟩
  · rw [e]
    exact Or.inl ⟨1, fun β g => rfl, by rw [c_held_no e]; rfl⟩
  · rw [e, c_held hr.1 h1, gth_l]
    rcases c_slot hr hw h1 with ⟨k1, k2⟩ | ⟨k1, a, k2, k3⟩
    · rw [k2, hG0]
      exact Or.inl ⟨2, fun β g => by show bnd (if kA A s = 45 then _ else _) g = _; rw [if_pos k1]; rfl, rfl⟩
    · have hv := k2.view
      rw [k3, hG a hv.1, hv.2.1]
      by_cases hq : q (kA A s) = true
      · refine Or.inr ⟨s, a, fun β g => ?_, hq, k2, by rw [if_pos hq]⟩
        show bnd (if kA A s = 45 then _ else if q (kA A s) = true then _ else _) g = _
        rw [if_neg k1, if_pos hq]
        rfl
      · refine Or.inl ⟨2, fun β g => ?_, by rw [if_neg hq]⟩
        show bnd (if kA A s = 45 then _ else if q (kA A s) = true then _ else _) g = _
        rw [if_neg k1, if_neg hq]
        rfl
theorem c_strip (h : Rc b k S hs A) (hk : k < 600) (x1 x2 : Int32) : cRes b k hs (f_X4_strip S b x1 x2) (m_strip A x1 x2) := by
  obtain ⟨hw, hn, pa, ch, hr⟩ := h
  unfold f_X4_strip m_strip
  simp only [hr.1.1.1, beq_self_eq_true, gck_t]
  rcases c_kind2 (x := x1) (q := fun k => isRw k || k == 107) (F := fun a => f_X4_strip_b34 S b x2 (some a)) (G := fun v3 => if v3 = none then some (.inr 2) else (gtk S v3 2).bind fun a7 => (f_X1_isRow S a7).bind fun v11 => if v11 = 0 then (gfI S v3 2 0).bind fun v49 => (if v49 = 107 then f_X4_strip_b34 S b x2 v3 else some (.inr 2)) else f_X4_strip_b34 S b x2 v3) hr hw rfl (fun a ha => by
    simp only [reduceCtorEq, if_false, gtk_at ha, Option.bind_some, f_isRow ha rfl, b2i_0, gfI_at ha, isRw, Bool.or_eq_true, beq_iff_eq]
    by_cases c1 : kLs (gI S a 0) = true
    · simp [c1]
    · by_cases c2 : gI S a 0 = 118
      · simp [c2]
      · have c1' := Bool.eq_false_iff.mpr c1
        have c2' : (gI S a 0 == 118) = false := by simpa using c2
        simp [c1', c2, c2']) with ⟨e, e1, e2⟩ | ⟨s, a, e1, e2, e5, e6⟩
  · rw [e1]; exact e2
  · rw [e1]
    refine (congrArg (fun z => cRes b k hs z _) e6).mpr ?_
    unfold f_X4_strip_b34
    rw [c_open e5 hw]
    cases ho : sO (slA A s)
    · simp only [Bool.false_eq_true, if_false, if_true, gth_r]; rfl
    · simp only [if_true, gth_l, Bool.true_eq_false, if_false]
      by_cases r1 : x2 < 2
      · rw [if_pos r1, if_pos r1]; rfl
      · rw [if_neg r1, if_neg r1]
        by_cases r2 : x2 ≤ 9
        · rw [if_pos r2, if_pos r2]
          have h24 := e5.view.2.2.1
          have hx0 : ¬ x2 = 0 := by rintro rfl; exact r1 (by decide)
          obtain ⟨S1, y1, y2, y3⟩ := c_markAll (b := b) (a := a) (V := vw A s) (q := q_strip (kA A s) x2) (I := fun _ => True)
            (F := fun n S i => f_X4_strip_L62 b n S x2 (some a) (some (stB b (sR (slA A s)))) i) (E := fun S => gck (gT S b == 5) (gb2 (f_X4_removeGoing S b (some a) (some (stB b (sR (slA A s))))) fun v27 S28 => some (.inl (v27, S28))))
            (fun S S' g ht hp => trivial) (fun S n i hH hp _ hi hi2 => by
              have hv := hp.view
              have := hv.2.2.1
              show f_X4_strip_L62 b (n + 1) S x2 (some a) (some (stB b (sR (slA A s)))) (nI i) = _
              rw [f_X4_strip_L62]
              simp (disch := omega) only [gtk_at hv.1, hv.2.2.2.1, Option.bind_some, nI_leI, eq_true hi, if_true])
            (fun S n i hH hp hq hi => by
              have hv := hp.view
              have := hv.2.2.1
              obtain ⟨b1, -, b3⟩ := hv.2.2.2.2 i hi
              have q1 : ((vw A s).length ≤ i) = False := eq_false (by omega)
              show f_X4_strip_L62 b (n + 1) S x2 (some a) (some (stB b (sR (slA A s)))) (nI i) = _
              rw [f_X4_strip_L62]
              simp (disch := omega) only [gtk_at hv.1, hv.2.2.2.1, Option.bind_some, nI_leI, q1, if_false, b1, b3, gfI_at hv.1, hv.2.1, f_X4_strip_b95, f_X4_strip_b112, hx0, not_false_eq_true, decide_true, gck_t, gtk_at hH.1.1, c_mark hH (show i < 24 by omega) (show gnr .boolean (0 : Int32) = true by decide), c_mark hH (show i < 24 by omega) (show gnr .boolean (1 : Int32) = true by decide), nI_1]
              unfold q_strip
              have hkd : sK (slA A s) = kA A s := rfl
              rw [hkd]
              by_cases c1 : kA A s = 107
              · simp only [c1, if_true]
                by_cases c2 : ((vw A s).getD i tz).1 - ((vw A s).getD i tz).1 / x2 * x2 = 0
                · rw [if_pos c2, decide_eq_true c2]; rfl
                · rw [if_neg c2, decide_eq_false c2]; rfl
              · simp only [c1, if_false]
                by_cases c2 : ((vw A s).getD i tz).2.1 - ((vw A s).getD i tz).2.1 / x2 * x2 = 0
                · rw [if_pos c2, decide_eq_true c2]; rfl
                · rw [if_neg c2, decide_eq_false c2]; rfl) (vw A s).length 0 S gN hr.1 e5.2.2.2.1 trivial (by omega) (by simp only [gN]; omega)
          rw [nI_0] at y1
          have y1 : f_X4_strip_L62 b gN S x2 (some a) (some (stB b (sR (slA A s)))) 0 = _ := y1
          rw [y1]
          exact c_delEnd hr hw e5 ho hk hn y2 (fun j hj => (y3 j hj).1 (by omega))
        · rw [if_neg r2, if_neg r2]; rfl
theorem c_drop (h : Rc b k S hs A) (hk : k < 600) (x1 x2 x3 : Int32) : cRes b k hs (f_X4_drop S b x1 x2 x3) (m_drop A x1 x2 x3) := by
  obtain ⟨hw, hn, pa, ch, hr⟩ := h
  unfold f_X4_drop m_drop
  simp only [hr.1.1.1, beq_self_eq_true, gck_t]
  rcases c_needRow (x := x1) hr hw with ⟨e, e1, e2⟩ | ⟨s, a, e1, e2, e3, e4, e5, e6⟩
  · have e1 : ndL A x1 isRw = .inr e := e1
    rw [e1, e2]; rfl
  · have e1 : ndL A x1 isRw = .inl s := e1
    rw [e1, e6, gth_l, c_open e5 hw]
    simp only [bnd]
    cases ho : sO (slA A s)
    · simp only [Bool.false_eq_true, if_false, if_true, gth_r]; rfl
    · have hv := e5.view
      have h24 := hv.2.2.1
      have hop := opn_of hw e5.1 e5.2.1 ho
      obtain ⟨l1, l2, l3, l4, l5, l6, l7⟩ := opn_facts hw e5.1 hop
      have hst := (hr.2.1 _ l1).1
      have key : cRes b k hs (f_X4_drop_b40 S b x2 x3 (some a) (some (stB b (sR (slA A s))))) (if 0 ≤ fIdx (isT x2 x3) (vw A s) 0 then .inl (1, chgA A s ((vw A s).eraseIdx (fIdx (isT x2 x3) (vw A s) 0).toNatClampNeg)) else .inl (0, A)) := by
        have ef : fnd x2 x3 (vw A s) 0 = fIdx (isT x2 x3) (vw A s) 0 := rfl
        simp only [f_X4_drop_b40, gtk_at hv.1, Option.bind_some, f_find hv, ef]
        rcases fIdx_find (isT x2 x3) (M := vw A s) (vw A s) 0 rfl with ⟨-, g2⟩ | ⟨j, g0, g1, -⟩
        · have z : ¬ (0 : Int32) ≤ -1 := by decide
          rw [g2, if_neg z, if_neg z]
          exact ⟨S, rfl, hw, by omega, pa, ch, hr.mono (by omega) (by omega)⟩
        · rw [g1, if_pos (nI_pos' (by omega)), if_pos (nI_pos' (by omega)), nI_clamp (by omega)]
          simp only [e5.2.2.2.1.first, Option.bind_some, gtk_at hst.1.1, nI_add]
          obtain ⟨S1, q1, q2, q3⟩ := f_remove (p := fsA A (slA A s) + j) hst (by omega)
          rw [era_spl l4 g0, ← l5] at q2
          have hlen := len_era (V := vw A s) (i := j) g0
          have hwf := WF_sub (V := (vw A s).eraseIdx j) hw e5.1 hop (List.eraseIdx_sublist ..)
          obtain ⟨S2, y1, y2, y3⟩ := c_doneX (x2 := -1) hr hw e5 hop hk hn (hr.row l1 q3 q2) q3.1 q3.2.1 hwf ⟨fun z => absurd z (by decide), fun z => by omega⟩ (fun n h8 h9 => by rw [hlen]; exact nI_sm (by omega) h8)
          rw [q1]
          simp only [Option.bind_some, show gT S1 b = 5 from (q3.2.1 b).trans hr.1.1.1, beq_self_eq_true, gck_t, y1]
          exact ⟨S2, rfl, y2⟩
      simp only [if_true, gth_l, Bool.true_eq_false, if_false, gfI_at hv.1, hv.2.1, Option.bind_some]
      by_cases c1 : kA A s = 118
      · simp only [c1, if_true, true_and, gtk_at hv.1, Option.bind_some, f_twn hv, b2i_0]
        by_cases c2 : twn (vw A s) (vw A s) 0 = true
        · simp only [c2, if_true, Bool.true_eq_false, if_false]; rfl
        · simp only [Bool.eq_false_iff.mpr c2, if_true, Bool.false_eq_true, if_false]; exact key
      · simp only [c1, if_false, false_and]; exact key
end CMut4
