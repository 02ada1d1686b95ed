/-! alone, none, looks on maps, fixed ones, parts -/
section CNew2
variable {b k hs : Nat} {S : GS} {A : AS}
theorem c_alone (h : Rc b k S hs A) (hk : k < 600) (x1 x2 x3 : Int32) : cResA b k hs (f_X4_alone S hs b x1 x2 x3) (m_alone A x1 x2 x3) := by
  obtain ⟨hw, hn, pa, ch, hr⟩ := h
  unfold f_X4_alone m_alone
  rcases c_needPane2 S x1 with ⟨e1, e2⟩ | ⟨s, h4, h12, rfl, e1, e2⟩
  · rw [e1, e2]; rfl
  · rw [e1, e2, gth_l, c_needThing]
    simp only [bndO]
    by_cases ht : thOk x2 x3 = true
    rotate_left
    · simp only [Bool.eq_false_iff.mpr ht, Bool.false_eq_true, if_false, gth_r]; rfl
    · simp only [ht, if_true, gth_l]
      obtain ⟨⟨p1, p2, -⟩, ⟨p6, p7⟩, -⟩ := id hr.1
      obtain ⟨S2, q1, q2, q3, q4, q5, q6, q7, q8, q9, q10⟩ := e_initC (S := gnw S hs 2 0) (a := hs) (kd := 97) (n := 1) (k := x2) (m := x3) (by rw [gT_gnw, if_pos rfl]) (by decide)
      have g : gOne hs S S2 := gOne.new.tr q2
      have h2 := g.rcp hr
      obtain ⟨⟨u1, u2, -⟩, ⟨h14, z12⟩, -⟩ := id h2.1
      have h3 := Rcp.slot (s := s) (a := hs) (x := (97, 0, none, x2, x3, false)) h2 (show (97 : Int32) ≠ 45 by decide) q3 q4 q5 q6 q7 (fun _ => ⟨by rw [q8, n_1]; rfl, q9, q10⟩)
      have gp : gpn S2 (some hs) = true := by simp [gpn, q3]
      have hwf : WF (aSetS A s (97, 0, none, x2, x3, false)) := WF_slot hw h4 ⟨fun _ => ⟨rfl, by simp [cpy, sK], fun e => absurd e (by simp [sK])⟩, fun e => absurd e (by simp [isC, sK]), by simp [sK], fun e => absurd e (by simp [sK]), fun e => absurd e (by simp [sK]), fun _ => rfl, fun e => absurd e (by simp [sK]), fun e => absurd e (by simp [sK]), fun e => absurd e (by simp [sK])⟩ (fun _ _ => thOk_in ht) ⟨by simp [sK], by simp [sK]⟩
      have eS : slA (aSetS A s (97, 0, none, x2, x3, false)) s = (97, 0, none, x2, x3, false) := by rw [sl_set, if_pos rfl]
      obtain ⟨a', w1, w2, -⟩ := h3.pane hwf h12 (by rw [eS]; simp [sK])
      rw [gR_gsR, if_pos ⟨rfl, rfl⟩] at w1
      cases w1
      have hv := w2.view
      rw [eS] at hv
      have ev : vwA (aSetS A s (97, 0, none, x2, x3, false)) (97, 0, none, x2, x3, false) = [(0, x2, x3)] := by simp [vwA, isC, sK, cpy, sY, sM]
      rw [ev] at hv
      simp (disch := first | assumption | omega) only [Option.bind_some, q1, gp, gck_t, gfR_at u1, u2, saR]
      rw [hv.1, f_lHash hv]
      simp only [beq_self_eq_true, gck_t, Option.bind_some]
      exact ⟨_, _, rfl, by omega, hwf, by show npA A ≤ k + 1; omega, pa, ch, h3.mono (by omega) (by omega)⟩
theorem c_noneL {pa ch : Nat → Nat} (h : Rcp b k pa ch S hs A) (hw : WF A) : ∀ (d i n c : Nat), i + d = 12 → d < n → f_X4_none_L26 b n S hs (nI c) (nI i) = some (.inl (nI (c + (List.range' i d).countP fun s => decide (kA A s ≠ 45)), S, hs)) := by
  intro d
  induction d with
  | zero =>
    intro i n c h1 h2
    obtain ⟨n, rfl⟩ : ∃ k, n = k + 1 := ⟨n - 1, by omega⟩
    have q : (12 ≤ i) = True := eq_true (by omega)
    rw [f_X4_none_L26, n_12]
    simp (disch := omega) only [nI_leI, q, if_true, List.range'_zero, List.countP_nil, Nat.add_zero]
  | succ d ih =>
    intro i n c h1 h2
    obtain ⟨n, rfl⟩ : ∃ k, n = k + 1 := ⟨n - 1, by omega⟩
    have q : (12 ≤ i) = False := eq_false (by omega)
    obtain ⟨⟨p1, p2, p3, p4, p5⟩, ⟨p6, p7⟩, -⟩ := h.1
    rw [f_X4_none_L26, n_12, List.range'_succ, List.countP_cons]
    simp (disch := first | assumption | omega) only [nI_leI, q, if_false, gfR_at, p2, Option.bind_some, aR, f_X4_none_b44, nI_1]
    rcases c_slot h hw (show i < 12 by omega) with ⟨k1, k2⟩ | ⟨k1, a, k2, k3⟩
    · rw [k2, if_pos rfl, ih (i + 1) n c (by omega) (by omega)]
      simp [k1]
    · rw [k3, if_neg (by simp), ih (i + 1) n (c + 1) (by omega) (by omega)]
      simp [k1]
      exact congrArg nI (by omega)
theorem c_none (h : Rc b k S hs A) (hk : k < 600) (x1 : Int32) : cResA b k hs (f_X4_none S hs b x1) (m_none A x1) := by
  obtain ⟨hw, hn, pa, ch, hr⟩ := h
  unfold f_X4_none m_none
  rcases c_needPane2 S x1 with ⟨e1, e2⟩ | ⟨s, h4, h12, rfl, e1, e2⟩
  · rw [e1, e2]; rfl
  · rw [e1, e2, gth_l]
    simp only [bndO]
    obtain ⟨⟨p1, p2, -⟩, ⟨p6, p7⟩, -⟩ := id hr.1
    obtain ⟨S2, q1, q2, q3, q4, q5, q6, q7, q8, q9, q10⟩ := e_initC (S := gnw S hs 2 0) (a := hs) (kd := 101) (n := 0) (k := 0) (m := 0) (by rw [gT_gnw, if_pos rfl]) (by decide)
    have g : gOne hs S S2 := gOne.new.tr q2
    have h2 := g.rcp hr
    obtain ⟨⟨u1, u2, -⟩, ⟨h14, z12⟩, -⟩ := id h2.1
    have h3 := Rcp.slot (s := s) (a := hs) (x := (101, 0, none, 0, 0, false)) h2 (show (101 : Int32) ≠ 45 by decide) q3 q4 q5 q6 q7 (fun _ => ⟨by rw [q8, n_0]; rfl, q9, q10⟩)
    have gp : gpn S2 (some hs) = true := by simp [gpn, q3]
    have hwf : WF (aSetS A s (101, 0, none, 0, 0, false)) := WF_slot hw h4 ⟨fun _ => ⟨rfl, by simp [cpy, sK, sR], fun _ => rfl⟩, fun e => absurd e (by simp [isC, sK]), by simp [sK], fun e => absurd e (by simp [sK]), fun e => absurd e (by simp [sK]), fun _ => rfl, fun e => absurd e (by simp [sK]), fun e => absurd e (by simp [sK]), fun e => absurd e (by simp [sK])⟩ (fun _ e => absurd rfl e) ⟨by simp [sK], by simp [sK]⟩
    have hL := c_noneL h3 hwf 8 4 gN 0 (by omega) (by simp only [gN]; omega)
    rw [nI_0, ← n_4, Nat.zero_add] at hL
    simp (disch := first | assumption | omega) only [gfR_at p1, p2, Option.bind_some, q1, gp, gck_t, saR, hL]
    exact ⟨_, _, rfl, by omega, hwf, by show npA A ≤ k + 1; omega, pa, ch, h3.mono (by omega) (by omega)⟩
/-- a pane on a row of the class, made at hs, into slot s -/
theorem c_mkOn {s t a : Nat} {pa ch : Nat → Nat} {kd o : Int32} {S0 : GS} (hr : Rcp b k pa ch S hs A) (hw : WF A) (h4 : 4 ≤ s) (h12 : s < 12) (e5 : has A S b t a) (hC : isC (slA A t) = false) (x : Sl) (hx : sK x ≠ 45 ∧ isC x = false ∧ sK x ≠ 108 ∧ sK x ≠ 109) (hkd : kd = sK x) (ho : o = b2i (sO x)) (hxr : sR x = sR (slA A t)) (hxp : sP x = none ∨ sP x = sP (slA A t)) (hws : wSl A x) (hgn : gnr .char kd = true) (hS0 : S0 = gnw S hs 2 0) :
    ∃ S2, f_X1_init S0 hs kd o (some (stB b (sR (slA A t)))) (if sP x = none then none else (sP (slA A t)).map pa) = some S2 ∧ gpn S2 (some hs) = true ∧ gT S2 (b + 1) = 14 ∧ gZ S2 (b + 1) = 12 ∧ gT S2 b = 5 ∧ gR S2 b 0 = some (b + 1) ∧ WF (aSetS A s x) ∧ Rcp b k pa ch (gsR S2 (b + 1) s (some hs)) (hs + 1) (aSetS A s x) ∧ cVw (gsR S2 (b + 1) s (some hs)) a (kA A t) (vw A t) := by
  subst hS0
  obtain ⟨S2, q1, q2, q3, q4, q5, q6, q7⟩ := e_init (S := gnw S hs 2 0) (a := hs) (kd := kd) (o := o) (st := some (stB b (sR (slA A t)))) (p := if sP x = none then none else (sP (slA A t)).map pa) (by rw [gT_gnw, if_pos rfl]) hgn (by rw [ho]; exact b2i_n _)
  have g : gOne hs S S2 := gOne.new.tr q2
  have h2 := g.rcp hr
  obtain ⟨⟨u1, u2, -⟩, ⟨h14, z12⟩, -⟩ := id h2.1
  have gp : gpn S2 (some hs) = true := by simp [gpn, q3]
  have hwf : WF (aSetS A s x) := WF_slot hw h4 hws (fun e => by rw [hx.2.1] at e; cases e) hx.2.2
  have h3 := Rcp.slot (s := s) (a := hs) (x := x) h2 hx.1 q3 (q4.trans hkd) (q5.trans ho) (by rw [q6, hx.2.1, hxr]; rfl) (by
    rw [q7]
    rcases hxp with e | e
    · rw [e, if_pos rfl]; rfl
    · rw [e]
      cases sP (slA A t) <;> rfl) (fun e => by rw [hx.2.1] at e; cases e)
  refine ⟨S2, q1, gp, h14, z12, u1, u2, hwf, h3, ?_⟩
  -- the pane that is looked at is as it was
  have hcp := e5.2.2.2.1
  obtain ⟨k1, k2, k3, k4, k5⟩ := hcp
  have h0 := hr.2.2.2.2.2.2.1 hs (Nat.le_refl _)
  have na : ∀ y, gT S y ≠ 0 → y ≠ hs := fun y hy e => by rw [e] at hy; exact hy h0
  obtain ⟨g1, g2, g3, g4⟩ := id g
  have h14' := hr.1.2.1.1
  have nR : ∀ y i, gT S y ≠ 14 → gT S y ≠ 0 → gR (gsR S2 (b + 1) s (some hs)) y i = gR S y i := fun y i hy hy0 => by
    rw [gR_gsR, if_neg (by rintro ⟨rfl, -⟩; exact hy h14'), g4 _ _ (na y hy0)]
  have : cPn (gsR S2 (b + 1) s (some hs)) a (sK (slA A t)) (vwA A (slA A t)) (if isC (slA A t) = true then none else some (stB b (sR (slA A t)))) (fsA A (slA A t)) := by
    have na0 := na a (by omega)
    refine ⟨(g1 _ na0).trans k1, (g3 _ _ na0).trans k2, by rw [nR _ _ (by omega) (by omega)]; exact k3, (fun e => by rw [hC] at e; cases e), fun st e => ?_⟩
    obtain ⟨R, w1, w2, w3, w4⟩ := k5 st e
    have hst2 := g.st w1 h0
    refine ⟨R, ?_, w2, w3, ?_⟩
    · obtain ⟨⟨y1, y2, y3, y4, y5⟩, yy⟩ := hst2
      have := w1.1.1
      have ns := na st (by omega)
      refine ⟨⟨y1, ?_, ?_, ?_, y5⟩, yy⟩
      · rw [gR_gsR, if_neg (by rintro ⟨rfl, -⟩; omega)]; exact y2
      · rw [gR_gsR, if_neg (by rintro ⟨rfl, -⟩; omega)]; exact y3
      · rw [gR_gsR, if_neg (by rintro ⟨rfl, -⟩; omega)]; exact y4
    · rw [nR _ _ (by omega) (by omega)]
      rcases w4 with w | ⟨q, w5, w6, w7, w8⟩
      · exact Or.inl w
      · have nq := na q (by omega)
        exact Or.inr ⟨q, w5, (g1 _ nq).trans w6, (g3 _ _ nq).trans w7, (g3 _ _ nq).trans w8⟩
  exact this.view
theorem c_look (h : Rc b k S hs A) (hk : k < 600) (x1 x2 kd : Int32) (hkd : kd = 107 ∨ kd = 118) : cResA b k hs (f_X4_lookOnMap S hs b x1 x2 kd) (m_look A x1 x2 kd) := by
  obtain ⟨hw, hn, pa, ch, hr⟩ := h
  unfold f_X4_lookOnMap m_look
  rcases c_needPane2 S x1 with ⟨e1, e2⟩ | ⟨s, h4, h12, rfl, e1, e2⟩
  · rw [e1, e2]; rfl
  · rw [e1, e2, gth_l, hr.1.1.1]
    simp only [bndO, beq_self_eq_true, gck_t]
    rcases c_needMap (x := x2) hr hw with ⟨e, f1, f2⟩ | ⟨t, a, f1, f2, f3, f4, e5, f6⟩
    · rw [f1, f2]; rfl
    · rw [f1, f6, gth_l]
      simp only [bnd]
      have hm := kMp_or (x := slA A t) (by rw [f4]; rfl)
      obtain ⟨m1, m2, m3, m4, m5, m6⟩ := map_facts hw e5.1 hm
      obtain ⟨g1, g2, g3⟩ := e5.keep hr
      rw [m3] at g2
      have h0 := hr.2.2.2.2.2.2.1 hs (Nat.le_refl _)
      have na : a ≠ hs := fun e => by rw [e] at g1; omega
      have hx : sK (kd, sR (slA A t), none, 0, 0, sO (slA A t)) = kd := rfl
      obtain ⟨S2, q1, q2, q3, q4, q5, q6, q7, q8, q9⟩ := c_mkOn (s := s) (kd := kd) (o := b2i (sO (slA A t))) (S0 := gnw S hs 2 0) hr hw h4 h12 e5 m3 (kd, sR (slA A t), none, 0, 0, sO (slA A t)) (by rcases hkd with rfl | rfl <;> simp [sK, isC]) rfl rfl rfl (Or.inl rfl) (by
        refine ⟨fun e => absurd e (by rcases hkd with rfl | rfl <;> simp [isC, sK]), fun _ => ⟨m2, fun p hp => by cases hp⟩, by rcases hkd with rfl | rfl <;> simp [sK], fun e => absurd e (by rcases hkd with rfl | rfl <;> simp [sK]), fun _ => ⟨m1, rfl⟩, fun e => absurd e (by rcases hkd with rfl | rfl <;> simp [sK, isC]), fun e => absurd e (by rcases hkd with rfl | rfl <;> simp [sK]), fun e => absurd e (by rcases hkd with rfl | rfl <;> simp [sK]), fun e => absurd e (by rcases hkd with rfl | rfl <;> simp [sK])⟩) (by rcases hkd with rfl | rfl <;> decide) rfl
      have q1 : f_X1_init (gnw S hs 2 0) hs kd (b2i (sO (slA A t))) (some (stB b (sR (slA A t)))) none = some S2 := q1
      obtain ⟨⟨p1, p2, -⟩, -⟩ := id hr.1
      simp (disch := first | assumption | omega) only [gfR_at p1, p2, Option.bind_some, gfI_at (S := gnw S hs 2 0) (show gT (gnw S hs 2 0) a = 2 by rw [gT_gnw, if_neg na]; exact g1), gfR_at (S := gnw S hs 2 0) (show gT (gnw S hs 2 0) a = 2 by rw [gT_gnw, if_neg na]; exact g1), gI_gnw, gR_gnw, na, if_false, e5.2.2.2.2.1, g2, Bool.false_eq_true, q1, q2, gck_t, saR, gtk_at q9.1, q9.2.2.2.1]
      exact ⟨_, _, rfl, by omega, q7, by show npA A ≤ k + 1; omega, pa, ch, q8.mono (by omega) (by omega)⟩
theorem c_keys (h : Rc b k S hs A) (hk : k < 600) (x1 x2 : Int32) : cResA b k hs (f_X4_keys S hs b x1 x2) (m_look A x1 x2 107) := by
  have := c_look h hk x1 x2 107 (Or.inl rfl)
  unfold f_X4_keys
  obtain ⟨hw, hn, pa, ch, hr⟩ := h
  rw [hr.1.1.1]
  simp only [beq_self_eq_true, gck_t]
  cases hz : m_look A x1 x2 107 with
  | inr e => rw [hz] at this; have this : f_X4_lookOnMap S hs b x1 x2 107 = some (.inr e) := this; rw [this]; rfl
  | inl v =>
    obtain ⟨v, A'⟩ := v
    rw [hz] at this
    obtain ⟨S', hs', y1, y2⟩ := this
    rw [y1]
    exact ⟨S', hs', rfl, y2⟩
theorem c_values (h : Rc b k S hs A) (hk : k < 600) (x1 x2 : Int32) : cResA b k hs (f_X4_values S hs b x1 x2) (m_look A x1 x2 118) := by
  have := c_look h hk x1 x2 118 (Or.inr rfl)
  unfold f_X4_values
  obtain ⟨hw, hn, pa, ch, hr⟩ := h
  rw [hr.1.1.1]
  simp only [beq_self_eq_true, gck_t]
  cases hz : m_look A x1 x2 118 with
  | inr e => rw [hz] at this; have this : f_X4_lookOnMap S hs b x1 x2 118 = some (.inr e) := this; rw [this]; rfl
  | inl v =>
    obtain ⟨v, A'⟩ := v
    rw [hz] at this
    obtain ⟨S', hs', y1, y2⟩ := this
    rw [y1]
    exact ⟨S', hs', rfl, y2⟩
end CNew2
