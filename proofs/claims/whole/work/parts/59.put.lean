/-! THE CLASS'S CHANGES. Rc: the class holds the state -/
def Rc (b k : Nat) (S : GS) (hs : Nat) (A : AS) : Prop := WF A ∧ npA A ≤ k ∧ ∃ pa ch, Rcp b k pa ch S hs A
def cRes (b k hs : Nat) (f : Option ((Int32 × GS) ⊕ Nat)) (z : (Int32 × AS) ⊕ Nat) : Prop := match z with
  | .inr e => f = some (.inr e)
  | .inl (v, A) => ∃ S', f = some (.inl (v, S')) ∧ Rc b (k + 1) S' hs A
def m_put (A : AS) (x y k m : Int32) : (Int32 × AS) ⊕ Nat := bnd (ndL A x kLs) fun s =>
  if sO (slA A s) = false then .inr 3 else if inP y ((vw A s).length + 1) = false then .inr 4 else if thOk k m = false then .inr 4 else
  if 24 < (rwA A (sR (slA A s))).length + 1 then .inr 5 else .inl (nI ((vw A s).length + 1), chgA A s ((vw A s).insertIdx y.toNatClampNeg (0, k, m)))
def m_set (A : AS) (x y k m : Int32) : (Int32 × AS) ⊕ Nat := bnd (ndL A x kLs) fun s =>
  if sO (slA A s) = false then .inr 3 else if inP y (vw A s).length = false then .inr 4 else if thOk k m = false then .inr 4 else
  .inl (hsh ((vw A s).getD y.toNatClampNeg tz), chgA A s ((vw A s).set y.toNatClampNeg (((vw A s).getD y.toNatClampNeg tz).1, k, m)))
def m_take (A : AS) (x y : Int32) : (Int32 × AS) ⊕ Nat := bnd (ndL A x kLs) fun s =>
  if sO (slA A s) = false then .inr 3 else if inP y (vw A s).length = false then .inr 4 else
  .inl (hsh ((vw A s).getD y.toNatClampNeg tz), chgA A s ((vw A s).eraseIdx y.toNatClampNeg))
def m_turn (A : AS) (x : Int32) : (Int32 × AS) ⊕ Nat := bnd (ndL A x kLs) fun s =>
  if sO (slA A s) = false then .inr 3 else .inl (nI (vw A s).length, chgA A s (vw A s).reverse)
def m_swap (A : AS) (x y z : Int32) : (Int32 × AS) ⊕ Nat := bnd (ndL A x kLs) fun s =>
  if sO (slA A s) = false then .inr 3 else if inP y (vw A s).length = false then .inr 4 else if inP z (vw A s).length = false then .inr 4 else
  .inl (nI (vw A s).length, chgA A s (swp (vw A s) y.toNatClampNeg z.toNatClampNeg))
def m_rotate (A : AS) (x y : Int32) : (Int32 × AS) ⊕ Nat := bnd (ndL A x kLs) fun s =>
  if sO (slA A s) = false then .inr 3 else if y < -100 then .inr 4 else if y ≤ 100 then .inl (nI (vw A s).length, chgA A s (roL (vw A s) (rot y (vw A s).length))) else .inr 4
def m_sort (A : AS) (x w : Int32) : (Int32 × AS) ⊕ Nat := bnd (ndL A x kLs) fun s =>
  if sO (slA A s) = false then .inr 3 else if w = 107 ∨ w = 75 ∨ w = 109 ∨ w = 77 then .inl (nI (vw A s).length, srtA A s (ord (rkw w) 0 ((vw A s).length - 1) 1 (vw A s))) else .inr 4
theorem inB_row {A : AS} {s : Nat} {t : Tr} (hw : WF A) (hs : s < 12) (hk : sK (slA A s) = 108 ∨ sK (slA A s) = 112) (h : t ∈ vw A s) : inB t := by
  obtain ⟨l1, l2, l3, l4, l5, -⟩ := lst_facts hw hs (by rcases hk with h | h; exact Or.inl h; exact Or.inr (Or.inl h))
  rw [l5] at h
  exact (hw.1 _ (show sR (slA A s) < 4 by omega)).2 t (List.mem_of_mem_drop (List.mem_of_mem_take h))
theorem gd_mem {V : List Tr} {i : Nat} (h : i < V.length) : V.getD i tz ∈ V := by
  rw [gd_eq, List.getElem?_eq_getElem h]
  exact List.getElem_mem h
section CMut
variable {b k hs : Nat} {S : GS} {A : AS}
/-- an open list, or a part of one, ready for a change -/
theorem c_lst (h : Rc b k S hs A) (hk : k < 600) {x : Int32} {α : Type} {K : Option Nat → Option Nat → Option (α ⊕ Nat)} :
    (∃ e, (∀ (β : Type) (g : Nat → β ⊕ Nat), bnd (ndL A x kLs) g = .inr e) ∧ (gck (gT S b == 5) (gth (f_X4_needList S b x) fun v3 => gth (f_X4_openStore S v3) fun v7 => K v3 v7)) = some (.inr e)) ∨
    (∃ s, (∀ (β : Type) (g : Nat → β ⊕ Nat), bnd (ndL A x kLs) g = g s) ∧ sO (slA A s) = false ∧ (gck (gT S b == 5) (gth (f_X4_needList S b x) fun v3 => gth (f_X4_openStore S v3) fun v7 => K v3 v7)) = some (.inr 3)) ∨
    ∃ s a pa ch, (∀ (β : Type) (g : Nat → β ⊕ Nat), bnd (ndL A x kLs) g = g s) ∧ sO (slA A s) = true ∧ Rcp b k pa ch S hs A ∧ has A S b s a ∧ (sK (slA A s) = 108 ∨ sK (slA A s) = 112) ∧ sR (slA A s) < 2 ∧ isC (slA A s) = false ∧ cSt S (stB b (sR (slA A s))) (rwA A (sR (slA A s))) ∧
      f_X1_first S a = some (nI (fsA A (slA A s))) ∧ fsA A (slA A s) + (vw A s).length ≤ (rwA A (sR (slA A s))).length ∧ vw A s = viw (rwA A (sR (slA A s))) (fsA A (slA A s)) (vw A s).length ∧ (rwA A (sR (slA A s))).length ≤ 24 ∧
      (gck (gT S b == 5) (gth (f_X4_needList S b x) fun v3 => gth (f_X4_openStore S v3) fun v7 => K v3 v7)) = K (some a) (some (stB b (sR (slA A s)))) := by
  obtain ⟨hw, hn, pa, ch, hr⟩ := h
  simp only [hr.1.1.1, beq_self_eq_true, gck_t]
  rcases c_needList (x := x) hr hw with ⟨e, e1, e2⟩ | ⟨s, a, e1, e2, e3, e4, e5, e6⟩
  · exact Or.inl ⟨e, fun β g => by rw [e1]; rfl, by rw [e2]; rfl⟩
  · have hopen := c_open e5 hw
    cases ho : sO (slA A s)
    · refine Or.inr (Or.inl ⟨s, fun β g => by rw [e1]; rfl, ho, ?_⟩)
      rw [e6, gth_l, hopen, ho]
      rfl
    · have hk2 := kLs_op hw e5.1 e4 ho
      obtain ⟨l1, l2, l3, l4, l5, l6, l7, l8⟩ := lst_facts hw e5.1 (by rcases hk2 with h | h; exact Or.inl h; exact Or.inr (Or.inl h))
      have hst := (hr.2.1 (sR (slA A s)) (by omega)).1
      refine Or.inr (Or.inr ⟨s, a, pa, ch, fun β g => by rw [e1]; rfl, ho, hr, e5, hk2, l1, l2, hst, e5.2.2.2.1.first, l4, l5, hst.2.2.1, ?_⟩)
      rw [e6, gth_l, hopen, ho]
      rfl
theorem nI_s1 {n z : Nat} (h1 : z ≤ n) : nI n + 1 = nI (n + (z + 1) - z) := by rw [nI_1]; exact congrArg nI (by omega)
theorem nI_sm {n z : Nat} (h0 : 0 < z) (h1 : z ≤ n) : nI n + (-1) = nI (n + (z - 1) - z) := by
  obtain ⟨n, rfl⟩ : ∃ k, n = k + 1 := ⟨n - 1, by omega⟩
  rw [pk_m1]; exact congrArg nI (by omega)
theorem np_chg {s : Nat} {V : List Tr} : npA (chgA A s V) = npA A := by
  unfold chgA chgP
  by_cases h : (vw A s).length = V.length
  · rw [if_pos h]; rfl
  · rw [if_neg h]; rfl
theorem c_put (h : Rc b k S hs A) (hk : k < 600) (x y z w : Int32) : cRes b k hs (f_X4_put S b x y z w) (m_put A x y z w) := by
  unfold f_X4_put m_put
  rcases c_lst (x := x) h hk (K := fun v3 v7 => gth (f_X4_needPlaceToPut S v3 y) fun _ => gth (f_X4_needThing S z w) fun _ => gth (f_X4_needRoom S v7 1) fun _ => (gtk S v3 2).bind fun a22 => (f_X1_first S a22).bind fun v26 => (gtk S v7 4).bind fun a27 => (f_X3_insert S a27 (v26 + y) 0 z w).bind fun S31 => gck (gT S31 b == 5) ((f_X4_settle S31 b v3 1).bind fun S34 => (gtk S34 v3 2).bind fun a35 => (f_X1_count S34 a35).bind fun v39 => some (.inl (v39, S34)))) with ⟨e, e1, e2⟩ | ⟨s, e1, e2, e3⟩ | ⟨s, a, pa, ch, e1, e2, hr, e5, hk2, l1, l2, hst, hf, l4, l5, h24, e3⟩
  · rw [e1, e2]; rfl
  · rw [e1, e3, e2]; rfl
  · obtain ⟨hw, hn, -⟩ := h
    have hv := e5.view
    rw [e1, e3, e2]
    simp only [Bool.true_eq_false, if_false]
    rw [c_needPut hv]
    rcases inP_c y (n := (vw A s).length + 1) (by omega) with ⟨e, -⟩ | ⟨i, i1, rfl, e, i2⟩
    · rw [e]; rfl
    · rw [e, c_needThing, i2]
      simp only [if_true, gth_l, Bool.true_eq_false, if_false]
      cases ht : thOk z w
      · rfl
      · rw [n_1, c_needRoom hst (by omega)]
        simp only [if_true, gth_l, Bool.true_eq_false, if_false]
        by_cases hroom : (rwA A (sR (slA A s))).length + 1 ≤ 24
        · rw [if_pos hroom, if_neg (by omega), gth_l, gtk_at hv.1, Option.bind_some, hf, Option.bind_some, gtk_at hst.1.1, Option.bind_some, nI_add]
          obtain ⟨S1, q1, q2, q3⟩ := f_insert (p := fsA A (slA A s) + i) (nu := 0) (k := z) (m := w) hst (by omega) (by omega)
          rw [q1]
          rw [ins_spl l4 (by omega), ← l5] at q2
          have h1 : Rcp b k pa ch S1 hs (rowC A s ((vw A s).insertIdx i (0, z, w))) := hr.row (by omega) q3 q2
          have hlen := len_ins (V := vw A s) (x := ((0 : Int32), z, w)) (i := i) (by omega)
          obtain ⟨S2, ch2, y1, y2, y3, y4, y5⟩ := c_done (x2 := 1) hr hw e5 hk2 hk hn h1 q3.1 q3.2.1 (fun t ht' => by
            rcases mem_ins ht' with rfl | h9
            · exact thOk_in ht
            · exact inB_row hw e5.1 hk2 h9) (by omega) ⟨fun z => absurd z (by decide), fun z => by omega⟩ (fun n h8 h9 => by rw [hlen]; exact nI_s1 h8)
          rw [← n_1, Option.bind_some, show gT S1 b = 5 from (q3.2.1 b).trans hr.1.1.1]
          simp only [beq_self_eq_true, gck_t, y1, Option.bind_some, gtk_at y4.1, y4.2.2.2.1, hlen]
          exact ⟨S2, rfl, y3, by rw [np_chg]; omega, pa, ch2, y2⟩
        · rw [if_neg hroom, if_pos (by omega)]; rfl
end CMut
