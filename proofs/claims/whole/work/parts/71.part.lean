/-! fixed ones; parts -/
def aAddP (A : AS) (x : Pt) : AS := (A.1, A.2.1, A.2.2.1 + 1, upf A.2.2.2 A.2.2.1 x)
theorem pt_add {A : AS} {x : Pt} {p : Nat} : ptA (aAddP A x) p = if p = npA A then x else ptA A p := rfl
def m_part (A : AS) (x y f t : Int32) : (Int32 × AS) ⊕ Nat := bndO (pnS x) fun s => bnd (ndL A y fun k => k == 108 || k == 112) fun u =>
  if f < 0 then .inr 4 else if t < f then .inr 4 else if t ≤ nI (vw A u).length then
    .inl (t - f, aSetS (aAddP A (sR (slA A u), sP (slA A u), fsA A (slA A u) + f.toNatClampNeg, t.toNatClampNeg - f.toNatClampNeg, false)) s (112, sR (slA A u), some (npA A), 0, 0, true)) else .inr 4
section CPart
variable {b k hs : Nat} {S : GS} {A : AS}
theorem c_fixed (h : Rc b k S hs A) (hk : k < 600) (x1 x2 : Int32) : cResA b k hs (f_X4_fixed S hs b x1 x2) (m_fixed A x1 x2) := by
  obtain ⟨hw, hn, pa, ch, hr⟩ := h
  unfold f_X4_fixed m_fixed
  rcases c_needPane2 S x1 with ⟨e1, e2⟩ | ⟨s, h4, h12, rfl, e1, e2⟩
  · rw [e1, e2]; rfl
  · rw [e1, e2, gth_l, hr.1.1.1]
    simp only [bndO, beq_self_eq_true, gck_t]
    rcases c_kind2 (x := x2) (q := fun k => k == 108 || k == 112 || k == 109) (F := fun a => f_X4_fixed_b49 S hs b (nI s) (some a)) (G := fun v7 => if v7 = none then some (.inr 2) else (gfI S v7 2 0).bind fun v11 => (if v11 = 108 then f_X4_fixed_b49 S hs b (nI s) v7 else (gfI S v7 2 0).bind fun v37 => (if v37 = 112 then f_X4_fixed_b49 S hs b (nI s) v7 else (gfI S v7 2 0).bind fun v40 => (if v40 = 109 then f_X4_fixed_b49 S hs b (nI s) v7 else some (.inr 2))))) hr hw rfl (fun a ha => by
      simp only [reduceCtorEq, if_false, gfI_at ha, Option.bind_some, Bool.or_eq_true, beq_iff_eq]
      by_cases c1 : gI S a 0 = 108
      · simp [c1]
      · by_cases c2 : gI S a 0 = 112
        · simp [c2]
        · by_cases c3 : gI S a 0 = 109
          · simp [c3]
          · simp [c1, c2, c3]) with ⟨e, f1, f2⟩ | ⟨t, a, f1, f4, e5, f6⟩
    · rw [f1]; exact f2
    · rw [f1]
      refine (congrArg (fun z => cResA b k hs z _) f6).mpr ?_
      have hkt : sK (slA A t) = 108 ∨ sK (slA A t) = 112 ∨ sK (slA A t) = 109 := by
        simp only [Bool.or_eq_true, beq_iff_eq] at f4
        rcases f4 with (h | h) | h
        · exact Or.inl h
        · exact Or.inr (Or.inl h)
        · exact Or.inr (Or.inr h)
      have hop : opn A t := by rcases hkt with h | h | h; exact Or.inl h; exact Or.inr (Or.inl h); exact Or.inr (Or.inr (Or.inl h))
      obtain ⟨l1, l2, l3, l4, l5, l6, l7⟩ := opn_facts hw e5.1 hop
      obtain ⟨g1, g2, g3⟩ := e5.keep hr
      rw [l2] at g2
      have h0 := hr.2.2.2.2.2.2.1 hs (Nat.le_refl _)
      have na : a ≠ hs := fun e => by rw [e] at g1; omega
      have hgT : gT (gnw S hs 2 0) a = 2 := by rw [gT_gnw, if_neg na]; exact g1
      obtain ⟨⟨p1, p2, -⟩, -⟩ := id hr.1
      have key : ∀ kd : Int32, (kd = 70 ∧ sK (slA A t) = 109) ∨ (kd = 102 ∧ sK (slA A t) ≠ 109) → ∃ S', f_X4_fixed_b74 b (gnw S hs 2 0) (hs + 1) (some a) (some (b + 1)) (nI s) (some hs) (some hs) kd = some (.inl (nI (vw A t).length, S', hs + 1)) ∧ Rc b (k + 1) S' (hs + 1) (aSetS A s (kd, sR (slA A t), sP (slA A t), 0, 0, false)) := by
        intro kd hkd
        have hkd2 : kd = 70 ∨ kd = 102 := hkd.elim (fun h => Or.inl h.1) (fun h => Or.inr h.1)
        obtain ⟨S2, q1, q2, q3, q4, q5, q6, q7, q8, q9⟩ := c_mkOn (s := s) (kd := kd) (o := 0) (S0 := gnw S hs 2 0) hr hw h4 h12 e5 l2 (kd, sR (slA A t), sP (slA A t), 0, 0, false) (by rcases hkd2 with rfl | rfl <;> simp [sK, isC]) rfl rfl rfl (Or.inr rfl) (by
          refine ⟨fun e => absurd e (by rcases hkd2 with rfl | rfl <;> simp [isC, sK]), fun _ => ⟨l1, fun p hp => ?_⟩, by rcases hkd2 with rfl | rfl <;> simp [sK], fun e => ?_, fun e => ?_, fun _ => rfl, fun e => absurd e (by rcases hkd2 with rfl | rfl <;> simp [sK]), fun e => absurd e (by rcases hkd2 with rfl | rfl <;> simp [sK]), fun e => absurd e (by rcases hkd2 with rfl | rfl <;> simp [sK])⟩
          · obtain ⟨o1, o2, o3⟩ := l3 p hp
            exact ⟨o1, o2, o3, by have := ((hw.2.1 t e5.1 e5.2.1).2.1 l2).2 p hp; exact this.2.2.2⟩
          · rcases hkd with ⟨rfl, -⟩ | ⟨rfl, hne⟩
            · exact absurd e (by simp [sK])
            · obtain ⟨v1, v2, v3, v4, -⟩ := hw.2.1 t e5.1 e5.2.1
              exact v4 (by rcases hkt with h | h | h; exact Or.inl h; exact Or.inr (Or.inl h); exact absurd h hne)
          · rcases hkd with ⟨rfl, h109⟩ | ⟨rfl, hne⟩
            · obtain ⟨m1, m2, m3, m4, m5, m6⟩ := map_facts hw e5.1 (Or.inl h109)
              exact ⟨m1, m4⟩
            · exact absurd e (by simp [sK])) (by rcases hkd2 with rfl | rfl <;> decide) rfl
        have q1 : f_X1_init (gnw S hs 2 0) hs kd 0 (some (stB b (sR (slA A t)))) (if sP (slA A t) = none then none else (sP (slA A t)).map pa) = some S2 := q1
        have e9 : (if sP (slA A t) = none then none else (sP (slA A t)).map pa) = (sP (slA A t)).map pa := by cases sP (slA A t) <;> rfl
        rw [e9] at q1
        refine ⟨gsR S2 (b + 1) s (some hs), ?_, q7, by show npA A ≤ k + 1; omega, pa, ch, q8.mono (by omega) (by omega)⟩
        simp (disch := first | assumption | omega) only [f_X4_fixed_b74, gfR_at, gR_gnw, na, if_false, g2, g3, Bool.false_eq_true, Option.bind_some, q1, q2, gck_t, saR, gtk_at q9.1, q9.2.2.2.1]
      have hgI : gI (gnw S hs 2 0) a 0 = sK (slA A t) := by rw [gI_gnw, if_neg na]; exact e5.2.2.2.1.2.1
      simp only [f_X4_fixed_b49, gfR_at p1, p2, Option.bind_some, gfI_at hgT, hgI]
      by_cases c : sK (slA A t) = 109
      · obtain ⟨S', y1, y2⟩ := key 70 (Or.inl ⟨rfl, c⟩)
        have c' : kA A t = 109 := c
        rw [if_pos c, y1, if_pos c']
        exact ⟨S', hs + 1, rfl, by omega, y2⟩
      · obtain ⟨S', y1, y2⟩ := key 102 (Or.inr ⟨rfl, c⟩)
        have c' : ¬ kA A t = 109 := c
        rw [if_neg c, y1, if_neg c']
        exact ⟨S', hs + 1, rfl, by omega, y2⟩
/-- a part more -/
theorem Rcp.part {pa ch : Nat → Nat} {S' : GS} {x : Pt} (h : Rcp b k pa ch S hs A) (hw : WF A) (g : gOne hs S S') (hx : pG x = false) (hA : ∀ q, pA x = some q → q < npA A) (e1 : gT S' hs = 3) (e2 : gR S' hs 0 = (pA x).map pa) (e3 : gI S' hs 1 = nI (pF x)) (e4 : gI S' hs 2 = nI (pZ x)) (e5 : gI S' hs 3 = 0) :
    Rcp b k (upf pa (npA A) hs) ch S' (hs + 1) (aAddP A x) := by
  have h0 := h.2.2.2.2.2.2.1 hs (Nat.le_refl _)
  obtain ⟨r1, r2, r3, r4, r5, r6, r7⟩ := g.rcp h
  have hup : ∀ q, q < npA A → upf pa (npA A) hs q = pa q := fun q hq => by unfold upf; rw [if_neg (by omega)]
  have hmap : ∀ o : Option Nat, (∀ q, o = some q → q < npA A) → o.map (upf pa (npA A) hs) = o.map pa := fun o ho => by
    cases o with
    | none => rfl
    | some q => simp only [Option.map_some, hup q (ho q rfl)]
  have hne : ∀ p, p < npA A → pG (ptA A p) = false → pa p ≠ hs := fun p hp hg e => by
    have := (h.2.2.2.2.1 p hp hg).1
    rw [e] at this
    omega
  refine ⟨r1, r2, r3, fun s hs12 => ?_, fun p hp hg => ?_, fun p q hp hq hg hh e => ?_, r7⟩
  · obtain ⟨c1, c2⟩ := r4 s hs12
    refine ⟨c1, fun e => ?_⟩
    obtain ⟨a, d1, d2, d3, d4, d5, d6, d7⟩ := c2 e
    exact ⟨a, d1, d2, d3, d4, d5, by rw [d6]; exact (hmap _ (fun q hq => (hw.wS s hs12 e q hq).1)).symm, d7⟩
  · rw [pt_add] at hg ⊢
    by_cases e : p = npA A
    · rw [if_pos e]
      have : upf pa (npA A) hs p = hs := by unfold upf; rw [if_pos e]
      rw [this]
      exact ⟨e1, by rw [e2, hmap _ hA], e3, e4, 0, Nat.zero_le _, by rw [e5]; exact n_0⟩
    · rw [if_neg e] at hg ⊢
      have hp' : p < npA A := by have : p < npA A + 1 := hp; omega
      rw [hup p hp']
      obtain ⟨d1, d2, d3⟩ := r5 p hp' hg
      exact ⟨d1, by rw [d2]; exact (hmap _ (fun q hq => by have := (hw.wC p hp' hg q hq).1; omega)).symm, d3⟩
  · rw [pt_add] at hg hh
    have hp : p < npA A + 1 := hp
    have hq : q < npA A + 1 := hq
    by_cases ep : p = npA A
    · by_cases eq : q = npA A
      · omega
      · rw [if_neg eq] at hh
        have : upf pa (npA A) hs p = hs := by unfold upf; rw [if_pos ep]
        rw [this, hup q (by omega)] at e
        exact absurd e.symm (hne q (by omega) hh)
    · rw [if_neg ep] at hg
      by_cases eq : q = npA A
      · have : upf pa (npA A) hs q = hs := by unfold upf; rw [if_pos eq]
        rw [this, hup p (by omega)] at e
        exact absurd e (hne p (by omega) hg)
      · rw [if_neg eq] at hh
        rw [hup p (by omega), hup q (by omega)] at e
        exact r6 p q (by omega) (by omega) hg hh e
theorem WF_part {x : Pt} (hw : WF A) (h1 : pL x < 2) (h2 : pF x + pZ x ≤ (rwA A (pL x)).length) (h3 : ∀ q, pA x = some q → q < npA A ∧ pG (ptA A q) = false ∧ pL (ptA A q) = pL x ∧ pF (ptA A q) ≤ pF x ∧ pF x + pZ x ≤ pF (ptA A q) + pZ (ptA A q)) : WF (aAddP A x) := by
  obtain ⟨w1, w2, w3, w4, w5, w6, w7, w8⟩ := hw
  refine ⟨w1, fun s hs hk => ?_, w3, w4, w5, fun p hp hg => ?_, w7, w8⟩
  · obtain ⟨v1, v2, v3⟩ := w2 s hs hk
    refine ⟨v1, fun hc => ⟨(v2 hc).1, fun p hp => ?_⟩, v3⟩
    obtain ⟨x1, x2⟩ := (v2 hc).2 p hp
    rw [pt_add, if_neg (by omega)]
    exact ⟨by show p < npA A + 1; omega, x2⟩
  · have hp : p < npA A + 1 := hp
    rw [pt_add] at hg ⊢
    by_cases e : p = npA A
    · rw [if_pos e]
      refine ⟨h1, h2, fun q hq => ?_⟩
      obtain ⟨y1, y2⟩ := h3 q hq
      rw [pt_add, if_neg (by omega)]
      exact ⟨by omega, y2⟩
    · rw [if_neg e] at hg ⊢
      obtain ⟨x1, x2, x3⟩ := w6 p (by omega) hg
      refine ⟨x1, x2, fun q hq => ?_⟩
      obtain ⟨y1, y2⟩ := x3 q hq
      rw [pt_add, if_neg (by omega)]
      exact ⟨y1, y2⟩
theorem c_part (h : Rc b k S hs A) (hk : k < 600) (x1 x2 x3 x4 : Int32) : cResA b k hs (f_X4_part S hs b x1 x2 x3 x4) (m_part A x1 x2 x3 x4) := by
  obtain ⟨hw, hn, pa, ch, hr⟩ := h
  unfold f_X4_part m_part
  rcases c_needPane2 S x1 with ⟨e1, e2⟩ | ⟨s, h4, h12, rfl, e1, e2⟩
  · rw [e1, e2]; rfl
  · rw [e1, e2, gth_l, hr.1.1.1]
    simp only [bndO, beq_self_eq_true, gck_t]
    rcases c_kind2 (x := x2) (q := fun k => k == 108 || k == 112) (F := fun a => f_X4_part_b44 S hs b (nI s) x3 x4 (some a)) (G := fun v7 => if v7 = none then some (.inr 2) else (gfI S v7 2 0).bind fun v11 => (if v11 = 108 then f_X4_part_b44 S hs b (nI s) x3 x4 v7 else (gfI S v7 2 0).bind fun v44 => (if v44 = 112 then f_X4_part_b44 S hs b (nI s) x3 x4 v7 else some (.inr 2)))) hr hw rfl (fun a ha => by
      simp only [reduceCtorEq, if_false, gfI_at ha, Option.bind_some, Bool.or_eq_true, beq_iff_eq]
      by_cases c1 : gI S a 0 = 108
      · simp [c1]
      · by_cases c2 : gI S a 0 = 112
        · simp [c2]
        · simp [c1, c2]) with ⟨e, f1, f2⟩ | ⟨t, a, f1, f4, e5, f6⟩
    · rw [f1]; exact f2
    · rw [f1]
      refine (congrArg (fun z => cResA b k hs z _) f6).mpr ?_
      have hkt : sK (slA A t) = 108 ∨ sK (slA A t) = 112 := by
        simp only [Bool.or_eq_true, beq_iff_eq] at f4
        exact f4
      obtain ⟨l1, l2, l3, l4, l5, l6, l7, l8⟩ := lst_facts hw e5.1 (hkt.elim Or.inl (fun h => Or.inr (Or.inl h)))
      obtain ⟨g1, g2, g3⟩ := e5.keep hr
      rw [l2] at g2
      have hv := e5.view
      have h24 := hv.2.2.1
      have h0 := hr.2.2.2.2.2.2.1 hs (Nat.le_refl _)
      have h01 := hr.2.2.2.2.2.2.1 (hs + 1) (by omega)
      have na : a ≠ hs := fun e => by rw [e] at g1; omega
      have na1 : a ≠ hs + 1 := fun e => by rw [e] at g1; omega
      obtain ⟨⟨p1, p2, -⟩, ⟨p6, p7⟩, -⟩ := id hr.1
      unfold f_X4_part_b44
      by_cases r1 : x3 < 0
      · rw [if_pos r1, if_pos r1]; rfl
      · rw [if_neg r1, if_neg r1]
        by_cases r2 : x4 < x3
        · rw [if_pos r2, if_pos r2]; rfl
        · rw [if_neg r2, if_neg r2]
          simp only [gtk_at hv.1, hv.2.2.2.1, Option.bind_some]
          by_cases r3 : x4 ≤ nI (vw A t).length
          rotate_left
          · rw [if_neg r3, if_neg r3]; rfl
          · rw [if_pos r3, if_pos r3]
            have r4 : ¬ x4 < 0 := by
              rw [Int32.lt_iff_toInt_lt] at r1 r2 ⊢
              omega
            obtain ⟨i, i1, rfl⟩ := nI_of r1
            obtain ⟨j, j1, rfl⟩ := nI_of r4
            have hij : i ≤ j := by rw [nI_ltI (by omega) (by omega)] at r2; omega
            have hjl : j ≤ (vw A t).length := (nI_leI (by omega) (by omega)).mp r3
            rw [nI_clamp i1, nI_clamp j1, pk_sub hij]
            -- the part
            obtain ⟨S1, q1, q2, q3, q4, q5, q6, q7⟩ := e_initP (S := gnw S hs 3 0) (a := hs) (p := (sP (slA A t)).map pa) (f := nI (fsA A (slA A t) + i)) (z := nI (j - i)) (by rw [gT_gnw, if_pos rfl])
            have ga : gOne hs S S1 := gOne.new.tr q2
            have hP := hr.part (x := (sR (slA A t), sP (slA A t), fsA A (slA A t) + i, j - i, false)) hw ga rfl (fun q hq => (l3 q hq).1) q3 q4 q5 q6 (by rw [q7, gI_gnw, if_pos rfl])
            have hwP : WF (aAddP A (sR (slA A t), sP (slA A t), fsA A (slA A t) + i, j - i, false)) := WF_part hw l1 (by show fsA A (slA A t) + i + (j - i) ≤ (rwA A (sR (slA A t))).length; omega) (fun q hq => by
              obtain ⟨o1, o2, o3⟩ := l3 q hq
              obtain ⟨z1, z2⟩ := l6 q hq
              refine ⟨o1, o2, o3, ?_, ?_⟩
              · show pF (ptA A q) ≤ fsA A (slA A t) + i; omega
              · show fsA A (slA A t) + i + (j - i) ≤ pF (ptA A q) + pZ (ptA A q); omega)
            -- the pane
            obtain ⟨S2, w1, w2, w3, w4, w5, w6, w7⟩ := e_init (S := gnw S1 (hs + 1) 2 0) (a := hs + 1) (kd := 112) (o := 1) (st := some (stB b (sR (slA A t)))) (p := some hs) (by rw [gT_gnw, if_pos rfl]) (by decide) (by decide)
            have gb : gOne (hs + 1) S1 S2 := gOne.new.tr w2
            have h2 := gb.rcp hP
            obtain ⟨⟨u1, u2, -⟩, ⟨h14, z12⟩, -⟩ := id h2.1
            have hup : (some (npA A)).map (upf pa (npA A) hs) = some hs := by simp [upf]
            have h3 := Rcp.slot (s := s) (a := hs + 1) (x := (112, sR (slA A t), some (npA A), 0, 0, true)) h2 (by simp [sK]) w3 w4 (by rw [w5]; rfl) (by rw [w6]; rfl) (by rw [w7]; exact hup.symm) (fun e => absurd e (by simp [isC, sK]))
            have hwf : WF (aSetS (aAddP A (sR (slA A t), sP (slA A t), fsA A (slA A t) + i, j - i, false)) s (112, sR (slA A t), some (npA A), 0, 0, true)) := WF_slot hwP h4 ⟨fun e => absurd e (by simp [isC, sK]), fun _ => ⟨by show sR (slA A t) < 4; omega, fun p hp => by
              have : npA A = p := Option.some.inj hp
              subst this
              rw [pt_add, if_pos rfl]
              exact ⟨by show npA A < npA A + 1; omega, rfl, rfl, l1⟩⟩, by simp [sK], fun _ => l1, fun e => absurd e (by simp [sK]), fun e => absurd e (by simp [sK, isC]), fun _ => rfl, fun _ => by simp [sP], fun e => absurd e (by simp [sK])⟩ (fun e => absurd e (by simp [isC, sK])) ⟨by simp [sK], by simp [sK]⟩
            have gp : gpn S2 (some (hs + 1)) = true := by simp [gpn, w3]
            have e22 : gT (gnw S hs 3 0) a = 2 := by rw [gT_gnw, if_neg na]; exact g1
            have e23 : gR (gnw S hs 3 0) a 3 = (sP (slA A t)).map pa := by rw [gR_gnw, if_neg na]; exact g3
            have h14' := p6
            have nb0 : b ≠ hs := fun e => by rw [e] at p1; omega
            have gS1 := ga
            have first22 : f_X1_first (gnw S hs 3 0) a = some (nI (fsA A (slA A t))) := by
              have hcp := e5.2.2.2.1.first
              unfold f_X1_first at hcp ⊢
              rw [gfR_at e22, e23]
              rw [gfR_at g1, g3] at hcp
              cases hp : sP (slA A t) with
              | none => rw [hp] at hcp; exact hcp
              | some p =>
                obtain ⟨o1, o2, -⟩ := l3 p hp
                have hpt := (hr.2.2.2.2.1 p o1 o2).1
                have np : pa p ≠ hs := fun e => by rw [e] at hpt; omega
                rw [hp] at hcp e23
                simp only [Option.map_some, Option.bind_some, reduceCtorEq, if_false] at hcp ⊢
                rw [gfI_at (show gT (gnw S hs 3 0) (pa p) = 3 by rw [gT_gnw, if_neg np]; exact hpt), gI_gnw, if_neg np]
                rw [gfI_at hpt] at hcp
                exact hcp
            have e32 : gT S1 b = 5 := (ga.1 b nb0).trans p1
            have e33 : gR S1 b 0 = some (b + 1) := (ga.2.2.2 b 0 nb0).trans p2
            have e35 : gT (gnw S1 (hs + 1) 2 0) a = 2 := by rw [gT_gnw, if_neg na1]; exact (ga.1 a na).trans g1
            have e36 : gR (gnw S1 (hs + 1) 2 0) a 2 = some (stB b (sR (slA A t))) := by rw [gR_gnw, if_neg na1]; exact (ga.2.2.2 a 2 na).trans g2
            simp (disch := first | assumption | omega) only [gfR_at e22, e23, Option.bind_some, gtk_at e22, first22, nI_add, q1, gfR_at e32, e33, gfR_at e35, e36, w1, gp, gck_t, saR]
            exact ⟨_, _, rfl, by omega, hwf, by show npA A + 1 ≤ k + 1; omega, _, ch, h3.mono (by omega) (by omega)⟩
end CPart
