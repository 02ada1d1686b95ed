/-! more of the class's changes: what may grow, what goes -/
def isRw (k : Int32) : Bool := kLs k || k == 118
def m_fill (A : AS) (x k m : Int32) : (Int32 × AS) ⊕ Nat := bnd (ndL A x kLs) fun s =>
  if sO (slA A s) = false then .inr 3 else if thOk k m = false then .inr 4 else .inl (nI (vw A s).length, chgA A s ((vw A s).map fun t => (t.1, k, m)))
def m_weave (A : AS) (x k m : Int32) : (Int32 × AS) ⊕ Nat := bnd (ndL A x kLs) fun s =>
  if sO (slA A s) = false then .inr 3 else if thOk k m = false then .inr 4 else if 24 < (rwA A (sR (slA A s))).length + cKy k (vw A s) then .inr 5 else .inl (nI (cKy k (vw A s)), chgA A s (wvF k (0, k, m) (vw A s)))
def m_raise (A : AS) (x y : Int32) : (Int32 × AS) ⊕ Nat := bnd (ndL A x fun k => kLs k || kMp k) fun s =>
  if sO (slA A s) = false then .inr 3 else if y < -9 then .inr 4 else if y ≤ 9 then (if ((vw A s).all fun t => thOk (t.2.1 + y) t.2.2) = true then .inl (nI (vw A s).length, chgA A s ((vw A s).map fun t => (t.1, t.2.1 + y, t.2.2))) else .inr 4) else .inr 4
def m_wipe (A : AS) (x : Int32) : (Int32 × AS) ⊕ Nat := bnd (ndL A x fun _ => true) fun s => if sO (slA A s) = false then .inr 3 else .inl (nI (vw A s).length, chgA A s [])
def m_del (A : AS) (s : Nat) (q : Tr → Bool) : (Int32 × AS) ⊕ Nat := .inl (nI ((vw A s).countP q), chgA A s ((vw A s).filter fun t => !q t))
def q_strip (k y : Int32) (t : Tr) : Bool := decide ((if k = 107 then t.1 else t.2.1) - (if k = 107 then t.1 else t.2.1) / y * y = 0)
def m_strip (A : AS) (x y : Int32) : (Int32 × AS) ⊕ Nat := bnd (ndL A x fun k => isRw k || k == 107) fun s =>
  if sO (slA A s) = false then .inr 3 else if y < 2 then .inr 4 else if y ≤ 9 then m_del A s (q_strip (kA A s) y) else .inr 4
def q_keep (W : List Tr) (w : Int32) (t : Tr) : Bool := decide (¬ (if fIdx (isT t.2.1 t.2.2) W 0 < 0 then (0 : Int32) else 1) = w)
def m_keep (A : AS) (x y w : Int32) : (Int32 × AS) ⊕ Nat := match nd2 A x y isRw with
  | .inr e => .inr e
  | .inl (s, t) => if sO (slA A s) = false then .inr 3 else m_del A s (q_keep (vw A t) w)
def q_keepK (W : List Tr) (w : Int32) (t : Tr) : Bool := decide (¬ (if fIdx (fun u => u.1 == t.1) W 0 < 0 then (0 : Int32) else 1) = w)
def m_keepKeys (A : AS) (x y w : Int32) : (Int32 × AS) ⊕ Nat := match nd2 A x y (fun k => k == 107) with
  | .inr e => .inr e
  | .inl (s, t) => if sO (slA A s) = false then .inr 3 else m_del A s (q_keepK (vw A t) w)
def m_drop (A : AS) (x k m : Int32) : (Int32 × AS) ⊕ Nat := bnd (ndL A x isRw) fun s =>
  if sO (slA A s) = false then .inr 3 else if kA A s = 118 ∧ twn (vw A s) (vw A s) 0 = true then .inr 5 else
  if 0 ≤ fIdx (isT k m) (vw A s) 0 then .inl (1, chgA A s ((vw A s).eraseIdx (fIdx (isT k m) (vw A s) 0).toNatClampNeg)) else .inl (0, A)
section CMut3
variable {b k hs : Nat} {S : GS} {A : AS}
theorem opn_of {s : Nat} (hw : WF A) (hs : s < 12) (hk : sK (slA A s) ≠ 45) (ho : sO (slA A s) = true) : opn A s := by
  obtain ⟨v1, v2, v3, v4, v5, v6, -⟩ := hw.2.1 s hs hk
  have nf : ¬ (sK (slA A s) = 70 ∨ sK (slA A s) = 102 ∨ isC (slA A s) = true) := fun e => by rw [v6 e] at ho; cases ho
  have nc : isC (slA A s) ≠ true := fun e => nf (Or.inr (Or.inr e))
  unfold opn
  rcases v3 with h | h | h | h | h | h | h | h | h | h
  · exact Or.inl h
  · exact Or.inr (Or.inl h)
  · exact absurd (Or.inr (Or.inl h)) nf
  · exact Or.inr (Or.inr (Or.inl h))
  · exact absurd (Or.inl h) nf
  · exact Or.inr (Or.inr (Or.inr (Or.inl h)))
  · exact Or.inr (Or.inr (Or.inr (Or.inr h)))
  · exact absurd (by unfold isC; rw [h]; decide) nc
  · exact absurd (by unfold isC; rw [h]; decide) nc
  · exact absurd (by unfold isC; rw [h]; decide) nc
theorem c_fill (h : Rc b k S hs A) (hk : k < 600) (x1 x2 x3 : Int32) : cRes b k hs (f_X4_fill S b x1 x2 x3) (m_fill A x1 x2 x3) := by
  unfold f_X4_fill m_fill
  rcases c_lst (x := x1) h hk (K := fun v3 v7 => gth (f_X4_needThing S x2 x3) fun _ => f_X4_fill_L22 b gN S x2 x3 v3 v7 0) with ⟨e, e1, e2⟩ | ⟨s, e1, e2, e3⟩ | ⟨s, a, pa, ch, e1, e2, hr, e5, hk2, l1, l2, hst, hf, l4, l5, h24, e3⟩
  · rw [e1, e2]; rfl
  · rw [e1, e3, e2]; rfl
  · obtain ⟨hw, hn, -⟩ := h
    have hv := e5.view
    rw [e1, e3, e2]
    simp only [Bool.true_eq_false, if_false]
    rw [c_needThing]
    by_cases ht : thOk x2 x3 = true
    rotate_left
    · simp only [Bool.eq_false_iff.mpr ht, Bool.false_eq_true, if_false, if_true, gth_r]
      rfl
    · simp only [ht, if_true, gth_l, Bool.true_eq_false, if_false]
      have h4 := e5.2.2.2.1
      rw [l2] at h4
      obtain ⟨S1, q1, q2, q3⟩ := c_fillL (b := b) (k0 := x2) (m0 := x3) (vw A s).length 0 S (vw A s) _ gN h4 hst (by omega) (by simp only [gN]; omega)
      rw [mpL_map] at q3
      rw [nI_0] at q1
      obtain ⟨y1, y2⟩ := c_done0 (V := (vw A s).map fun t => (t.1, x2, x3)) hw e5 hk2 hk hn (hr.row (by omega) q2 q3) q2.1 (fun t ht' => by
        obtain ⟨u, -, rfl⟩ := List.mem_map.mp ht'
        exact thOk_in ht) (by rw [List.length_map])
      rw [q1]
      exact ⟨S1, rfl, y1⟩
theorem c_weave (h : Rc b k S hs A) (hk : k < 600) (x1 x2 x3 : Int32) : cRes b k hs (f_X4_weave S b x1 x2 x3) (m_weave A x1 x2 x3) := by
  unfold f_X4_weave m_weave
  rcases c_lst (x := x1) h hk (K := fun v3 v7 => gth (f_X4_needThing S x2 x3) fun _ => (gtk S v3 2).bind fun a14 => (f_X1_countKey S a14 x2).bind fun v18 => gth (f_X4_needRoom S v7 v18) fun _ => (gtk S v3 2).bind fun a23 => (f_X1_count S a23).bind fun v27 => f_X4_weave_L43 b gN S x2 x3 v3 v7 v18 (v27 - 1)) with ⟨e, e1, e2⟩ | ⟨s, e1, e2, e3⟩ | ⟨s, a, pa, ch, e1, e2, hr, e5, hk2, l1, l2, hst, hf, l4, l5, h24, e3⟩
  · rw [e1, e2]; rfl
  · rw [e1, e3, e2]; rfl
  · obtain ⟨hw, hn, -⟩ := h
    have hv := e5.view
    rw [e1, e3, e2]
    simp only [Bool.true_eq_false, if_false]
    rw [c_needThing]
    by_cases ht : thOk x2 x3 = true
    rotate_left
    · simp only [Bool.eq_false_iff.mpr ht, Bool.false_eq_true, if_false, if_true, gth_r]
      rfl
    · have hck : cKy x2 (vw A s) ≤ (vw A s).length := List.countP_le_length
      simp only [ht, if_true, gth_l, Bool.true_eq_false, if_false, gtk_at hv.1, Option.bind_some, f_countKey hv, hv.2.2.2.1]
      rw [c_needRoom hst (by omega)]
      by_cases hroom : (rwA A (sR (slA A s))).length + cKy x2 (vw A s) ≤ 24
      · rw [if_pos hroom, if_neg (by omega), gth_l]
        obtain ⟨g1, g2, g3⟩ := e5.keep hr
        rw [l2] at g2
        obtain ⟨m1, m2, m3, m4, m5, m6, m7⟩ := opn_facts hw e5.1 (hk2.elim Or.inl (fun h => Or.inr (Or.inl h)))
        have hsp := hst
        have esp : rwA A (sR (slA A s)) = spl (rwA A (sR (slA A s))) (fsA A (slA A s)) (vw A s).length (vw A s) := by
          refine tl_ext (by rw [spl_len l4]; omega) fun i hi => ?_
          rw [gd_spl l4]
          by_cases a : i < fsA A (slA A s)
          · rw [if_pos a]
          · rw [if_neg a]
            by_cases c : i < fsA A (slA A s) + (vw A s).length
            · rw [if_pos c]
              have : (vw A s).getD (i - fsA A (slA A s)) tz = (viw (rwA A (sR (slA A s))) (fsA A (slA A s)) (vw A s).length).getD (i - fsA A (slA A s)) tz := congrArg (fun L : List Tr => L.getD (i - fsA A (slA A s)) tz) l5
              rw [this, gd_viw (by omega)]
              exact congrArg (fun q => (rwA A (sR (slA A s))).getD q tz) (by omega)
            · rw [if_neg c]; exact congrArg (fun q => (rwA A (sR (slA A s))).getD q tz) (by omega)
        rw [esp] at hsp
        have hwl : (wvL x2 (0, x2, x3) (vw A s).length (vw A s)).length = (vw A s).length + cKy x2 (vw A s) := by rw [wvL_all, wvF_len]
        obtain ⟨S1, y1, y2, y3⟩ := c_weaveL (b := b) (a := a) (x2 := x2) (x3 := x3) (x6 := nI (cKy x2 (vw A s))) l4 (vw A s).length S (vw A s) gN hr.1 g1 g2 (by
          rw [g3]
          cases hp : sP (slA A s) with
          | none => exact Or.inl rfl
          | some p => obtain ⟨o1, o2, -⟩ := m3 p hp; exact Or.inr ⟨pa p, rfl, (hr.2.2.2.2.1 p o1 o2).1⟩) hf hsp (Nat.le_refl _) (by omega) (by simp only [gN]; omega)
        rw [wvL_all] at y3
        rw [y1, show gT S1 b = 5 from (y2.2.1 b).trans hr.1.1.1]
        simp only [beq_self_eq_true, gck_t]
        have hwf : (wvF x2 (0, x2, x3) (vw A s)).length = (vw A s).length + cKy x2 (vw A s) := wvF_len _
        obtain ⟨S2, ch2, z1, z2, z3, z4, z5⟩ := c_done (x2 := nI (cKy x2 (vw A s))) hr hw e5 hk2 hk hn (hr.row (by omega) y2 y3) y2.1 y2.2.1 (fun t ht' => by
          unfold wvF at ht'
          obtain ⟨u, hu, hut⟩ := List.mem_flatMap.mp ht'
          by_cases c : u.2.1 = x2
          · rw [if_pos c] at hut
            rcases List.mem_cons.mp hut with rfl | hut
            · exact m7 _ hu
            · rw [List.mem_singleton] at hut; subst hut; exact thOk_in ht
          · rw [if_neg c, List.mem_singleton] at hut; subst hut; exact m7 _ hu) (by omega) ⟨fun e => by
            have : cKy x2 (vw A s) = 0 := (nI_eq (by omega) (by omega)).mp (by rw [nI_0]; exact e)
            omega, fun e => by
            have : cKy x2 (vw A s) = 0 := by omega
            rw [this]; exact nI_0⟩ (fun n h8 h9 => by rw [hwf, nI_add]; exact congrArg nI (by omega))
        rw [z1]
        exact ⟨S2, rfl, z3, by rw [np_chg]; omega, pa, ch2, z2⟩
      · rw [if_neg hroom, if_pos (by omega)]
        rfl
theorem c_wipeL {a z st : Nat} {kd : Int32} {V : List Tr} {u : Option Nat} {f : Nat} : ∀ (d i : Nat) (S : GS) (n : Nat), cHd S b → cPn S a kd V u f → i + d = V.length → d < n →
    ∃ S', f_X4_wipe_L14 b n S (some a) (some st) (nI i) = gck (gT S' b == 5) (gb2 (f_X4_removeGoing S' b (some a) (some st)) fun v18 S19 => some (.inl (v18, S19))) ∧ gGo b S S' ∧ ∀ j, j < V.length → (i ≤ j → gI S' (b + 26) j = 1) ∧ (j < i → gI S' (b + 26) j = gI S (b + 26) j) := by
  intro d
  induction d with
  | zero =>
    intro i S n hH hp h1 h2
    obtain ⟨n, rfl⟩ : ∃ k, n = k + 1 := ⟨n - 1, by omega⟩
    have hv := hp.view
    have h24 := hv.2.2.1
    have q : (V.length ≤ i) = True := eq_true (by omega)
    refine ⟨S, ?_, gGo.rf, fun j hj => ⟨fun e => by omega, fun _ => rfl⟩⟩
    rw [f_X4_wipe_L14]
    simp (disch := omega) only [gtk_at hv.1, hv.2.2.2.1, Option.bind_some, nI_leI, q, if_true]
  | succ d ih =>
    intro i S n hH hp h1 h2
    obtain ⟨n, rfl⟩ : ∃ k, n = k + 1 := ⟨n - 1, by omega⟩
    have hv := hp.view
    have h24 := hv.2.2.1
    have q : (V.length ≤ i) = False := eq_false (by omega)
    have g1 : gGo b S (gsI S (b + 26) i 1) := gGo.one
    have hH' : cHd (gsI S (b + 26) i 1) b := by
      obtain ⟨p1, p2, p3, p4, p13, p14, p15⟩ := hH
      have := p3.1
      exact ⟨p1, p2, p3, p4, p13, by rw [gI_gsI, if_neg (by omega)]; exact p14, p15⟩
    obtain ⟨S', y1, y2, y3⟩ := ih (i + 1) (gsI S (b + 26) i 1) n hH' (g1.pn hH.2.2.1.1 hp) (by omega) (by omega)
    refine ⟨S', ?_, g1.tr y2, fun j hj => ⟨fun e => ?_, fun e => ?_⟩⟩
    · rw [f_X4_wipe_L14]
      simp (disch := omega) only [gtk_at hv.1, hv.2.2.2.1, Option.bind_some, nI_leI, q, if_false, hH.1.1, beq_self_eq_true, gck_t, c_mark hH (show i < 24 by omega) (show gnr .boolean (1 : Int32) = true by decide), nI_1]
      exact y1
    · by_cases e2 : j = i
      · subst e2; rw [(y3 j hj).2 (by omega), gI_gsI, if_pos ⟨rfl, rfl⟩]
      · exact (y3 j hj).1 (by omega)
    · rw [(y3 j hj).2 (by omega), gI_gsI, if_neg (by omega)]
theorem has.go {s a : Nat} {S S' : GS} (h : has A S b s a) (g : gGo b S S') (ht : gT S (b + 26) = 12) : has A S' b s a := by
  obtain ⟨h1, h2, h3, h4, h5, h6⟩ := h
  refine ⟨h1, h2, by rw [g.1]; exact h3, g.pn ht h4, ?_, fun e => by rw [g.1]; exact h6 e⟩
  have := h4.1
  rw [g.2.2.2 _ _ (fun e => by rw [e] at this; omega)]
  exact h5
theorem c_wipe (h : Rc b k S hs A) (hk : k < 600) (x : Int32) : cRes b k hs (f_X4_wipe S b x) (m_wipe A x) := by
  obtain ⟨hw, hn, pa, ch, hr⟩ := h
  unfold f_X4_wipe m_wipe
  simp only [hr.1.1.1, beq_self_eq_true, gck_t]
  rcases c_needSome (x := x) hr hw with ⟨e, e1, e2⟩ | ⟨s, a, e1, e2, e3, e4, e5, e6⟩
  · rw [e1, e2]; rfl
  · have hopen := c_open e5 hw
    rw [e1, e6, gth_l, hopen]
    simp only [bnd]
    cases ho : sO (slA A s)
    · simp only [Bool.false_eq_true, if_false, if_true, gth_r]; rfl
    · have hop := opn_of hw e5.1 e5.2.1 ho
      have h24 := e5.view.2.2.1
      obtain ⟨S1, y1, y2, y3⟩ := c_wipeL (z := 0) (st := stB b (sR (slA A s))) (vw A s).length 0 S gN hr.1 e5.2.2.2.1 (by show 0 + (vw A s).length = (vw A s).length; omega) (by simp only [gN]; omega)
      have ht := hr.1.2.2.1.1
      obtain ⟨S2, z1, z2⟩ := c_remG (q := fun _ => true) (y2.rcp hr) hw (e5.go y2 ht) hop hk hn (fun j hj => by rw [(y3 j hj).1 (by omega)]; rfl)
      simp only [if_true, gth_l, Bool.true_eq_false, if_false]
      rw [n_0, y1, show gT S1 b = 5 from (y2.2.1 b).trans hr.1.1.1]
      simp only [beq_self_eq_true, gck_t, z1, gb2_s]
      have c1 : (vw A s).countP (fun _ => true) = (vw A s).length := congrFun List.countP_true _
      have c2 : (vw A s).filter (fun t => !(fun _ => true) t) = [] := by simp
      rw [c2] at z2
      rw [c1]
      exact ⟨S2, rfl, z2⟩
end CMut3
