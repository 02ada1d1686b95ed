/-! raise, putAll; what enters a map and is struck -/
def nd22 (A : AS) (x y : Int32) (q1 q2 : Int32 → Bool) : (Nat × Nat) ⊕ Nat := match sIx x, sIx y with
  | some s, some t => if (kA A s = 45 ∨ q1 (kA A s) = false) ∨ (kA A t = 45 ∨ q2 (kA A t) = false) then .inr 2 else .inl (s, t)
  | _, _ => .inr 1
def m_putAll (A : AS) (x y z : Int32) : (Int32 × AS) ⊕ Nat := match nd22 A x z kLs isRw with
  | .inr e => .inr e
  | .inl (s, t) => if sO (slA A s) = false then .inr 3 else if inP y ((vw A s).length + 1) = false then .inr 4 else if 24 < (rwA A (sR (slA A s))).length + (vw A t).length then .inr 5 else
    .inl (nI ((vw A s).length + (vw A t).length), chgA A s ((vw A s).take y.toNatClampNeg ++ (vw A t).map n0 ++ (vw A s).drop y.toNatClampNeg))
def m_strike (A : AS) (x n : Int32) : (Int32 × AS) ⊕ Nat := bnd (ndL A x fun k => kMp k || k == 107) fun s =>
  if sO (slA A s) = false then .inr 3 else if 0 ≤ fIdx (fun t => t.1 == n) (vw A s) 0 then .inl (1, chgA A s ((vw A s).eraseIdx (fIdx (fun t => t.1 == n) (vw A s) 0).toNatClampNeg)) else .inl (0, A)
def pEA (A : AS) (s : Nat) (n : Int32) : Nat := if sR (slA A s) = 3 then pEn n (vw A s) (vw A s).length else (vw A s).length
def m_enter (A : AS) (x n k m : Int32) : (Int32 × AS) ⊕ Nat := bnd (ndL A x kMp) fun s =>
  if sO (slA A s) = false then .inr 3 else if thOk k m = false then .inr 4 else
  if 0 ≤ fIdx (fun t => t.1 == n) (vw A s) 0 then .inl (1, chgA A s ((vw A s).set (fIdx (fun t => t.1 == n) (vw A s) 0).toNatClampNeg (n, k, m))) else
  if 24 < (vw A s).length + 1 then .inr 5 else .inl (0, chgA A s ((vw A s).insertIdx (pEA A s n) (n, k, m)))
section CMut5
variable {b k hs : Nat} {S : GS} {A : AS}
theorem c_need22 {pa ch : Nat → Nat} (h : Rcp b k pa ch S hs A) (hw : WF A) {x y : Int32} {q1 q2 : Int32 → Bool} {f g : GS → Nat → Int32 → Option (Option Nat ⊕ Nat)}
    (hf : ∀ x, (∃ e, ndL A x q1 = .inr e ∧ f S b x = some (.inr e)) ∨ ∃ s a, ndL A x q1 = .inl s ∧ sIx x = some s ∧ x = nI s ∧ q1 (sK (slA A s)) = true ∧ has A S b s a ∧ f S b x = some (.inl (some a)))
    (hg : ∀ x, (∃ e, ndL A x q2 = .inr e ∧ g S b x = some (.inr e)) ∨ ∃ s a, ndL A x q2 = .inl s ∧ sIx x = some s ∧ x = nI s ∧ q2 (sK (slA A s)) = true ∧ has A S b s a ∧ g S b x = some (.inl (some a))) {α : Type} {K : Option Nat → Option Nat → Option (α ⊕ Nat)} :
    (∃ e, nd22 A x y q1 q2 = .inr e ∧ (gth (f_X4_needSlots S x y) fun _ => gck (gT S b == 5) (gth (f S b x) fun v7 => gck (gT S b == 5) (gth (g S b y) fun v12 => K v7 v12))) = some (.inr e)) ∨
    ∃ s t a c, nd22 A x y q1 q2 = .inl (s, t) ∧ q1 (kA A s) = true ∧ q2 (kA A t) = true ∧ has A S b s a ∧ has A S b t c ∧ (gth (f_X4_needSlots S x y) fun _ => gck (gT S b == 5) (gth (f S b x) fun v7 => gck (gT S b == 5) (gth (g S b y) fun v12 => K v7 v12))) = K (some a) (some c) := by
  rw [c_needSlots]
  simp only [h.1.1.1, beq_self_eq_true, gck_t]
  unfold nd22
  have why : ∀ (q : Int32 → Bool) (x : Int32) (s e : Nat), sIx x = some s → ndL A x q = .inr e → e = 2 ∧ (kA A s = 45 ∨ q (kA A s) = false) := by
    intro q x s e hs he
    unfold ndL at he
    rw [hs] at he
    unfold kA
    by_cases z : sK (slA A s) = 45
    · simp only [z, if_true] at he; cases he; exact ⟨rfl, Or.inl z⟩
    · cases z2 : q (sK (slA A s))
      · simp only [z, z2, if_false, Bool.false_eq_true] at he; cases he; exact ⟨rfl, Or.inr rfl⟩
      · simp only [z, z2, if_false, if_true] at he; cases he
  rcases sIx_c x with ⟨e, -⟩ | ⟨s, h1, rfl, e⟩
  · rw [e]; exact Or.inl ⟨1, rfl, rfl⟩
  · rcases sIx_c y with ⟨e', -⟩ | ⟨t, h2, rfl, e'⟩
    · rw [e, e']; exact Or.inl ⟨1, rfl, rfl⟩
    · rw [e, e']
      simp only [gth_l]
      rcases hf (nI s) with ⟨e1, e2, e3⟩ | ⟨s', a, e1, e2, e3, e4, e5, e6⟩
      · obtain ⟨rfl, hq⟩ := why q1 _ s e1 e e2
        refine Or.inl ⟨2, by rw [if_pos (Or.inl hq)], ?_⟩
        rw [e3]; rfl
      · rw [e] at e2
        cases e2
        rcases hg (nI t) with ⟨f1, f2, f3⟩ | ⟨t', c, f1, f2, f3, f4, f5, f6⟩
        · obtain ⟨rfl, hq⟩ := why q2 _ t f1 e' f2
          refine Or.inl ⟨2, by rw [if_pos (Or.inr hq)], ?_⟩
          rw [e6, f3]; rfl
        · rw [e'] at f2
          cases f2
          refine Or.inr ⟨s, t, a, c, ?_, e4, f4, e5, f5, by rw [e6, f6]; rfl⟩
          have n1 := e5.2.1
          have n2 := f5.2.1
          unfold kA
          rw [e4, f4]
          simp [n1, n2]
theorem c_putAll (h : Rc b k S hs A) (hk : k < 600) (x1 x2 x3 : Int32) : cRes b k hs (f_X4_putAll S b x1 x2 x3) (m_putAll A x1 x2 x3) := by
  obtain ⟨hw, hn, pa, ch, hr⟩ := h
  unfold f_X4_putAll m_putAll
  rcases c_need22 (x := x1) (y := x3) (q1 := kLs) (q2 := isRw) hr hw (fun x => c_needList (x := x) hr hw) (fun x => c_needRow (x := x) hr hw) (K := fun v7 v12 => gth (f_X4_openStore S v7) fun v16 => gth (f_X4_needPlaceToPut S v7 x2) fun _ => (gtk S v12 2).bind fun a23 => (f_X1_count S a23).bind fun v27 => gth (f_X4_needRoom S v16 v27) fun _ => (gfR S (some b) 5 1).bind fun v32 => (gtk S v32 4).bind fun a34 => (f_X3_copyThings S a34 v12).bind fun S38 => f_X4_putAll_L54 b gN S38 x2 v7 v16 0) with ⟨e, e1, e2⟩ | ⟨s, t, a, c, e1, e2, e3, e4, e5, e6⟩
  · rw [e1]; exact e2
  · rw [e1]
    refine (congrArg (fun z => cRes b k hs z _) e6).mpr ?_
    show cRes b k hs _ (if sO (slA A s) = false then .inr 3 else if inP x2 ((vw A s).length + 1) = false then .inr 4 else if 24 < (rwA A (sR (slA A s))).length + (vw A t).length then .inr 5 else
      .inl (nI ((vw A s).length + (vw A t).length), chgA A s ((vw A s).take x2.toNatClampNeg ++ (vw A t).map n0 ++ (vw A s).drop x2.toNatClampNeg)))
    rw [c_open e4 hw]
    by_cases ho : sO (slA A s) = true
    rotate_left
    · simp only [Bool.eq_false_iff.mpr ho, Bool.false_eq_true, if_false, if_true, gth_r]; rfl
    · have hv := e4.view
      have hv2 := e5.view
      have h24 := hv.2.2.1
      have h24' := hv2.2.2.1
      have hk2 := kLs_op hw e4.1 e2 ho
      obtain ⟨l1, l2, l3, l4, l5, l6, l7⟩ := opn_facts hw e4.1 (hk2.elim Or.inl (fun h => Or.inr (Or.inl h)))
      have hst := (hr.2.1 _ l1).1
      obtain ⟨⟨p1, p2, p3, p4, p5⟩, -⟩ := id hr.1
      obtain ⟨g1, g2, g3⟩ := e4.keep hr
      rw [l2] at g2
      simp only [ho, if_true, gth_l, Bool.true_eq_false, if_false]
      rw [c_needPut hv]
      rcases inP_c x2 (n := (vw A s).length + 1) (by omega) with ⟨e, -⟩ | ⟨i, i1, rfl, e, i2⟩
      · rw [e]; rfl
      · rw [e, i2]
        simp only [if_true, gth_l, Bool.true_eq_false, if_false, gtk_at hv2.1, hv2.2.2.2.1, Option.bind_some]
        rw [c_needRoom hst h24']
        by_cases hroom : (rwA A (sR (slA A s))).length + (vw A t).length ≤ 24
        rotate_left
        · rw [if_neg hroom, if_pos (by omega)]; rfl
        · rw [if_pos hroom, if_neg (by omega), gth_l]
          obtain ⟨L0, hL0⟩ := hr.2.2.1.1
          simp only [gfR_at p1, p3, Option.bind_some, gtk_at hL0.1.1]
          obtain ⟨S1, q1, q2, q3⟩ := c_copy (w := b + 22) (fun st hst => by
            by_cases hc : isC (slA A t) = true
            · rw [if_pos hc] at hst; cases hst
            · rw [if_neg hc] at hst
              cases hst
              have := (hw.2.1 t e5.1 e5.2.1).2.1 (Bool.eq_false_iff.mpr hc)
              unfold stB; omega) e5.2.2.2.1 hL0
          have q3 : cSt S1 (b + 22) (nb 0 (vw A t)) := q3
          have hr1 := hr.aside (Or.inl rfl) q2 q3
          have hst1 := (hr1.2.1 _ l1).1
          have esp : rwA A (sR (slA A s)) = spl (rwA A (sR (slA A s))) (fsA A (slA A s)) (vw A s).length (vw A s) := by
            refine tl_ext (by rw [spl_len l4]; omega) fun i hi => ?_
            rw [gd_spl l4]
            by_cases a : i < fsA A (slA A s)
            · rw [if_pos a]
            · rw [if_neg a]
              by_cases c : i < fsA A (slA A s) + (vw A s).length
              · rw [if_pos c]
                have : (vw A s).getD (i - fsA A (slA A s)) tz = (viw (rwA A (sR (slA A s))) (fsA A (slA A s)) (vw A s).length).getD (i - fsA A (slA A s)) tz := congrArg (fun L : List Tr => L.getD (i - fsA A (slA A s)) tz) l5
                rw [this, gd_viw (by omega)]
                exact congrArg (fun q => (rwA A (sR (slA A s))).getD q tz) (by omega)
              · rw [if_neg c]; exact congrArg (fun q => (rwA A (sR (slA A s))).getD q tz) (by omega)
          have hsp := hst1
          rw [esp] at hsp
          have hp3 : gR S a 3 = none ∨ ∃ q, gR S a 3 = some q ∧ gT S q = 3 := by
            rw [g3]
            cases hp : sP (slA A s) with
            | none => exact Or.inl rfl
            | some p => obtain ⟨o1, o2, -⟩ := l3 p hp; exact Or.inr ⟨pa p, rfl, (hr.2.2.2.2.1 p o1 o2).1⟩
          have hlC := nb_len (vw A t) 0
          obtain ⟨S2, y1, y2, y3⟩ := c_putL (b := b) (a := a) (p := i) l4 (show stB b (sR (slA A s)) + 3 < b + 22 ∨ b + 22 + 3 < stB b (sR (slA A s)) by unfold stB; omega) (nb 0 (vw A t)) 0 S1 (vw A s) gN hr1.1 ((q2.2.1 a).trans g1) (hp3.elim (fun e => Or.inl ((q2.1 a 3).trans e)) (fun ⟨q, w1, w2⟩ => Or.inr ⟨q, (q2.1 a 3).trans w1, (q2.2.1 q).trans w2⟩)) (first_kept hL0.1 q2 g1 hp3 e4.2.2.2.1.first) hsp q3 rfl (Nat.zero_le _) (by omega) (by omega) (by simp only [gN]; omega)
          rw [inL_take (by omega)] at y3
          have en : (nb 0 (vw A t)).map n0 = (vw A t).map n0 := by
            refine tl_ext (by rw [List.length_map, List.length_map, hlC]) fun j hj => ?_
            rw [List.length_map, hlC] at hj
            rw [gd_eq, gd_eq, List.getElem?_map, List.getElem?_map, List.getElem?_eq_getElem (by omega), List.getElem?_eq_getElem hj]
            have e1 := gd_nb (vw A t) 0 j hj
            rw [gd_eq, gd_eq, List.getElem?_eq_getElem (by omega), List.getElem?_eq_getElem hj] at e1
            show n0 _ = n0 _
            have e1 : (nb 0 (vw A t))[j]'(by omega) = _ := e1
            rw [e1]
            rfl
          rw [en] at y3
          have hVl : ((vw A s).take i ++ (vw A t).map n0 ++ (vw A s).drop i).length = (vw A s).length + (vw A t).length := by simp; omega
          have h1 : Rcp b k pa ch S2 hs (rowC A s ((vw A s).take i ++ (vw A t).map n0 ++ (vw A s).drop i)) := hr1.row l1 y2 y3
          have inT : ∀ u ∈ vw A t, inB u := fun u hu => by
            cases hc : isC (slA A t)
            · have hkt : sR (slA A t) < 4 := ((hw.2.1 t e5.1 e5.2.1).2.1 hc).1
              have : vw A t = viw (rwA A (sR (slA A t))) (fsA A (slA A t)) (szA A (slA A t)) := by unfold vw vwA; rw [hc]; rfl
              rw [this] at hu
              exact (hw.1 _ hkt).2 u (List.mem_of_mem_drop (List.mem_of_mem_take hu))
            · have : vw A t = List.replicate (cpy (slA A t)) (0, sY (slA A t), sM (slA A t)) := by unfold vw vwA; rw [hc]; rfl
              rw [this] at hu
              obtain ⟨hne, rfl⟩ := List.mem_replicate.mp hu
              refine hw.2.2.1 t e5.1 hc (fun e => hne ?_)
              unfold cpy
              rw [e, if_neg (by decide)]
              exact ((hw.2.1 t e5.1 e5.2.1).1 hc).2.2 e
          obtain ⟨S3, ch2, z1, z2, z3, z4, z5⟩ := c_done (x2 := nI (vw A t).length) hr hw e4 hk2 hk hn h1 (fun x i => (y2.1 x i).trans (q2.1 x i)) (fun x => (y2.2.1 x).trans (q2.2.1 x)) (fun u hu => by
            simp only [List.mem_append] at hu
            rcases hu with (hu | hu) | hu
            · exact l7 u (List.mem_of_mem_take hu)
            · obtain ⟨v, hv, rfl⟩ := List.mem_map.mp hu; exact inT v hv
            · exact l7 u (List.mem_of_mem_drop hu)) (by omega) ⟨fun e => by
            have : (vw A t).length = 0 := (nI_eq (by omega) (by omega)).mp (by rw [nI_0]; exact e)
            omega, fun e => by
            have : (vw A t).length = 0 := by omega
            rw [this]; exact nI_0⟩ (fun n h8 h9 => by rw [hVl, nI_add]; exact congrArg nI (by omega))
          rw [q1]
          simp only [Option.bind_some]
          rw [n_0, y1, show gT S2 b = 5 from ((y2.2.1 b).trans (q2.2.1 b)).trans hr.1.1.1, hlC]
          simp only [beq_self_eq_true, gck_t, z1, Option.bind_some, gtk_at z4.1, z4.2.2.2.1, hVl]
          exact ⟨S3, rfl, z3, by rw [np_chg]; omega, pa, ch2, z2⟩
theorem mem_of_map {V : List Tr} {g : Tr → Tr} {t : Tr} (h : t ∈ V.map g) : ∃ u ∈ V, g u = t := List.mem_map.mp h
theorem c_raise (h : Rc b k S hs A) (hk : k < 600) (x1 x2 : Int32) : cRes b k hs (f_X4_raise S b x1 x2) (m_raise A x1 x2) := by
  obtain ⟨hw, hn, pa, ch, hr⟩ := h
  unfold f_X4_raise m_raise
  simp only [hr.1.1.1, beq_self_eq_true, gck_t]
  rcases c_kind2 (x := x1) (q := fun k => kLs k || kMp k) (F := fun a => f_X4_raise_b32 S b x2 (some a)) (G := fun v3 => if v3 = none then some (.inr 2) else (gtk S v3 2).bind fun a7 => (f_X1_isList S a7).bind fun v11 => if v11 = 0 then (gtk S v3 2).bind fun a70 => (f_X1_isMap S a70).bind fun v74 => (if v74 = 0 then some (.inr 2) else f_X4_raise_b32 S b x2 v3) else f_X4_raise_b32 S b x2 v3) hr hw rfl (fun a ha => by
    simp only [reduceCtorEq, if_false, gtk_at ha, Option.bind_some, f_isList ha rfl, f_isMap ha rfl, b2i_0]
    cases c1 : kLs (gI S a 0)
    · cases c2 : kMp (gI S a 0) <;> simp
    · simp) with ⟨e, e1, e2⟩ | ⟨s, a, e1, e2, e5, e6⟩
  · rw [e1]; exact e2
  · rw [e1]
    refine (congrArg (fun z => cRes b k hs z _) e6).mpr ?_
    unfold f_X4_raise_b32
    rw [c_open e5 hw]
    by_cases ho : sO (slA A s) = true
    rotate_left
    · simp only [Bool.eq_false_iff.mpr ho, Bool.false_eq_true, if_false, if_true, gth_r]; rfl
    · have hv := e5.view
      have h24 := hv.2.2.1
      have hop := opn_of hw e5.1 e5.2.1 ho
      obtain ⟨l1, l2, l3, l4, l5, l6, l7⟩ := opn_facts hw e5.1 hop
      have hst := (hr.2.1 _ l1).1
      simp only [ho, if_true, gth_l, Bool.true_eq_false, if_false]
      by_cases r1 : x2 < -9
      · rw [if_pos r1, if_pos r1]; rfl
      · rw [if_neg r1, if_neg r1]
        by_cases r2 : x2 ≤ 9
        rotate_left
        · rw [if_neg r2, if_neg r2]; rfl
        · rw [if_pos r2, if_pos r2]
          have hc := c_raiseC (b := b) (st := stB b (sR (slA A s))) (y := x2) hv (vw A s) 0 gN rfl (by simp only [gN]; omega) (by omega)
          rw [nI_0] at hc
          rw [hc]
          by_cases hall : ((vw A s).all fun t => thOk (t.2.1 + x2) t.2.2) = true
          rotate_left
          · rw [if_neg hall, if_neg hall]; rfl
          · rw [if_pos hall, if_pos hall]
            have h4 := e5.2.2.2.1
            rw [l2] at h4
            obtain ⟨S1, q1, q2, q3⟩ := c_raiseL (b := b) (y := x2) (vw A s).length 0 S (vw A s) _ gN h4 hst (by omega) (by simp only [gN]; omega)
            rw [mpL_map] at q3
            rw [nI_0] at q1
            have hV : ∀ t ∈ (vw A s).map fun t => (t.1, t.2.1 + x2, t.2.2), inB t := fun t ht => by
              obtain ⟨u, hu, rfl⟩ := List.mem_map.mp ht
              exact thOk_in (List.all_eq_true.mp hall u hu)
            have hlen : ((vw A s).map fun t => (t.1, t.2.1 + x2, t.2.2)).length = (vw A s).length := List.length_map ..
            have hwf : WF (chgA A s ((vw A s).map fun t => (t.1, t.2.1 + x2, t.2.2))) := by
              have h24r := (hw.1 _ l1).1
              by_cases hl : sK (slA A s) = 108 ∨ sK (slA A s) = 112
              · exact WF_chg hw e5.1 hl hV (by omega)
              · have hm : sK (slA A s) = 109 ∨ sK (slA A s) = 70 ∨ sK (slA A s) = 107 ∨ sK (slA A s) = 118 := by
                  rcases hop with h | h | h | h | h
                  · exact absurd (Or.inl h) hl
                  · exact absurd (Or.inr h) hl
                  · exact Or.inl h
                  · exact Or.inr (Or.inr (Or.inl h))
                  · exact Or.inr (Or.inr (Or.inr h))
                obtain ⟨m1, m2, m3, m4, m5, m6⟩ := map_facts hw e5.1 hm
                refine WF_chgM hw e5.1 hm hV (by omega) ?_ (fun e => ?_)
                · rw [List.map_map, m6]; exact hw.2.2.2.2.2.2.1 _ m1 m2
                · rw [List.map_map, m6, e]; exact hw.2.2.2.2.2.2.2
            have e0 : chgA A s ((vw A s).map fun t => (t.1, t.2.1 + x2, t.2.2)) = rowC A s ((vw A s).map fun t => (t.1, t.2.1 + x2, t.2.2)) := by unfold chgA chgP; rw [if_pos hlen.symm]
            have h1 : Rcp b k pa ch S1 hs (rowC A s ((vw A s).map fun t => (t.1, t.2.1 + x2, t.2.2))) := hr.row l1 q2 q3
            rw [q1]
            refine ⟨S1, rfl, hwf, by rw [np_chg]; omega, pa, ch, ?_⟩
            rw [e0]
            exact h1.mono (by omega) (by omega)
end CMut5
