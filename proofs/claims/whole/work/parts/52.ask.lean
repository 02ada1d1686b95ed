/-! what is asked of the state; the class answers so -/
def bnd {α : Type} (z : Nat ⊕ Nat) (k : Nat → α ⊕ Nat) : α ⊕ Nat := match z with
  | .inr e => .inr e
  | .inl s => k s
def vw (A : AS) (s : Nat) : List Tr := vwA A (slA A s)
def kA (A : AS) (s : Nat) : Int32 := sK (slA A s)
theorem has.view {A : AS} {S : GS} {b s a : Nat} (h : has A S b s a) : cVw S a (kA A s) (vw A s) := h.2.2.2.1.view
theorem kLs_ne {k : Int32} (h : kLs k = true) : k ≠ 107 ∧ k ≠ 118 ∧ k ≠ 109 ∧ k ≠ 70 ∧ k ≠ 45 := by
  refine ⟨?_, ?_, ?_, ?_, ?_⟩ <;> (rintro rfl; exact absurd h (by decide))
theorem isC_no {x : Sl} (h : sK x = 107 ∨ sK x = 118 ∨ kMp (sK x) = true ∨ sK x = 108 ∨ sK x = 112 ∨ sK x = 102) : isC x = false := by
  unfold isC
  rcases h with h | h | h | h | h | h
  · rw [h]; decide
  · rw [h]; decide
  · unfold kMp at h
    simp only [Bool.or_eq_true, beq_iff_eq] at h
    rcases h with h | h <;> (rw [h]; decide)
  · rw [h]; decide
  · rw [h]; decide
  · rw [h]; decide
/-- the numbers of a map, or of what looks on one -/
theorem has.find {A : AS} {S : GS} {b s a : Nat} {x : Int32} (h : has A S b s a) (hw : WF A) (hk : (kMp (kA A s) || kA A s == 107) = true) : f_X1_findNumber S a x = some (fIdx (fun t => t.1 == x) (vw A s) 0) := by
  obtain ⟨h1, h2, h3, h4, h5, h6⟩ := h
  have hk2 : sK (slA A s) = 109 ∨ sK (slA A s) = 70 ∨ sK (slA A s) = 107 := by
    unfold kMp kA at hk
    simp only [Bool.or_eq_true, beq_iff_eq] at hk
    rcases hk with (h | h) | h
    · exact Or.inl h
    · exact Or.inr (Or.inl h)
    · exact Or.inr (Or.inr h)
  have hC : isC (slA A s) = false := by
    unfold isC
    rcases hk2 with h | h | h <;> (rw [h]; decide)
  obtain ⟨v1, v2, v3, v4, v5, -⟩ := hw.2.1 s h1 h2
  have hp : sP (slA A s) = none := (v5 (by rcases hk2 with h | h | h <;> simp [h])).2
  have hf : fsA A (slA A s) = 0 := by unfold fsA; rw [hp]
  rw [hC, hf] at h4
  exact h4.find (h6 hp)
def q_size (A : AS) (x : Int32) : Int32 ⊕ Nat := bnd (ndL A x fun _ => true) fun s => .inl (nI (vw A s).length)
def q_walk (A : AS) (x w : Int32) : Int64 ⊕ Nat := bnd (ndL A x fun _ => true) fun s => if w = 0 then .inl (wlk (kA A s) 7 w (vw A s)) else if kLs (kA A s) = true then .inl (wlk (kA A s) 7 w (vw A s)) else .inr 4
def q_hash (A : AS) (x : Int32) : Int32 ⊕ Nat := bnd (ndL A x fun _ => true) fun s => if kLs (kA A s) = true then .inl ((vw A s).foldl hL 1) else if kA A s = 107 then .inl ((vw A s).foldl hK 0) else if kMp (kA A s) = true then .inl ((vw A s).foldl hM 0) else .inr 2
def q_keyAt (A : AS) (x y : Int32) : Int32 ⊕ Nat := bnd (ndL A x kLs) fun s => if inP y (vw A s).length = true then .inl ((vw A s).getD y.toNatClampNeg tz).2.1 else .inr 4
def q_markAt (A : AS) (x y : Int32) : Int32 ⊕ Nat := bnd (ndL A x kLs) fun s => if inP y (vw A s).length = true then .inl ((vw A s).getD y.toNatClampNeg tz).2.2 else .inr 4
def q_placeOf (A : AS) (x k m w : Int32) : Int32 ⊕ Nat := bnd (ndL A x kLs) fun s => .inl (fnd k m (vw A s) w)
def q_search (A : AS) (x k : Int32) : Int32 ⊕ Nat := bnd (ndL A x kLs) fun s => if rsL (vw A s) = true then .inl (sKy k (vw A s) 0) else .inr 5
def q_hasNumber (A : AS) (x n : Int32) : Int32 ⊕ Nat := bnd (ndL A x fun k => kMp k || k == 107) fun s => .inl (if fIdx (fun t => t.1 == n) (vw A s) 0 < 0 then 0 else 1)
def q_thingOf (A : AS) (x n : Int32) : Int32 ⊕ Nat := bnd (ndL A x kMp) fun s => match (vw A s).find? (fun t => t.1 == n) with
  | some t => .inl (hsh t)
  | none => .inr 4
def q_numberAt (A : AS) (x y : Int32) : Int32 ⊕ Nat := bnd (ndL A x fun k => kMp k || k == 107) fun s => if inP y (vw A s).length = true then .inl ((vw A s).getD y.toNatClampNeg tz).1 else .inr 4
def q_kind (A : AS) (x : Int32) : Int32 ⊕ Nat := match sIx x with
  | none => .inr 1
  | some s => .inl (kA A s)
section CAsk
variable {b k hs : Nat} {pa ch : Nat → Nat} {S : GS} {A : AS}
theorem c_size (h : Rcp b k pa ch S hs A) (hw : WF A) (x : Int32) : f_X4_size S b x = some (q_size A x) := by
  unfold f_X4_size q_size
  simp only [h.1.1.1, beq_self_eq_true, gck_t]
  rcases c_needSome (x := x) h hw with ⟨e, e1, e2⟩ | ⟨s, a, e1, e2, e3, e4, e5, e6⟩
  · rw [e1, e2]; rfl
  · have hv := e5.view
    rw [e1, e6]
    simp only [gth_l, gtk_at hv.1, Option.bind_some, hv.2.2.2.1, bnd]
theorem c_walk (h : Rcp b k pa ch S hs A) (hw : WF A) (x w : Int32) : f_X4_walk S b x w = some (q_walk A x w) := by
  unfold f_X4_walk q_walk
  simp only [h.1.1.1, beq_self_eq_true, gck_t]
  rcases c_needSome (x := x) h hw with ⟨e, e1, e2⟩ | ⟨s, a, e1, e2, e3, e4, e5, e6⟩
  · rw [e1, e2]; rfl
  · have hv := e5.view
    rw [e1, e6]
    simp only [gth_l, gtk_at hv.1, Option.bind_some, bnd, f_X4_walk_b25, f_addAll hv, f_isList hv.1 hv.2.1, b2i_0]
    by_cases hw0 : w = 0
    · simp only [hw0, if_true]
    · cases kLs (kA A s) <;> simp [hw0]
theorem c_hash (h : Rcp b k pa ch S hs A) (hw : WF A) (x : Int32) : f_X4_hash S b x = some (q_hash A x) := by
  unfold f_X4_hash q_hash
  simp only [h.1.1.1, beq_self_eq_true, gck_t]
  rcases c_needSome (x := x) h hw with ⟨e, e1, e2⟩ | ⟨s, a, e1, e2, e3, e4, e5, e6⟩
  · rw [e1, e2]; rfl
  · have hv := e5.view
    rw [e1, e6]
    simp only [gth_l, gtk_at hv.1, Option.bind_some, bnd, f_lHash hv, f_kHash hv, f_mHash hv, f_isList hv.1 hv.2.1, f_isMap hv.1 hv.2.1, gfI_at hv.1, hv.2.1, b2i_0]
    cases kLs (kA A s)
    · by_cases h107 : kA A s = 107
      · simp [h107]
      · cases kMp (kA A s) <;> simp [h107]
    · simp
theorem c_needPlace {a : Nat} {kd y : Int32} {L : List Tr} (hv : cVw S a kd L) : f_X4_needPlace S (some a) y = some (if inP y L.length = true then .inl () else .inr 4) := by
  have h3 := hv.2.2.1
  unfold f_X4_needPlace
  simp only [gtk_at hv.1, hv.2.2.2.1, Option.bind_some]
  rcases inP_c y (n := L.length) (by omega) with ⟨e, h1 | ⟨h1, h2⟩⟩ | ⟨i, h1, rfl, e, e2⟩
  · rw [if_pos h1, e]; rfl
  · rw [if_neg h1, if_neg h2, e]; rfl
  · rw [if_neg (nI_pos (by omega)), if_pos (nI_lt h1 (by omega)), e]; rfl
theorem c_needPut {a : Nat} {kd y : Int32} {L : List Tr} (hv : cVw S a kd L) : f_X4_needPlaceToPut S (some a) y = some (if inP y (L.length + 1) = true then .inl () else .inr 4) := by
  have h3 := hv.2.2.1
  unfold f_X4_needPlaceToPut
  simp only [gtk_at hv.1, hv.2.2.2.1, Option.bind_some]
  have e9 : ¬ y < nI (L.length + 1) ↔ ¬ y ≤ nI L.length := by
    rw [Int32.lt_iff_toInt_lt, Int32.le_iff_toInt_le, nI_toInt (by omega), nI_toInt (by omega)]
    omega
  rcases inP_c y (n := L.length + 1) (by omega) with ⟨e, h1 | ⟨h1, h2⟩⟩ | ⟨i, h1, rfl, e, e2⟩
  · rw [if_pos h1, e]; rfl
  · rw [if_neg h1, if_neg (e9.mp h2), e]; rfl
  · rw [if_neg (nI_pos (by omega)), if_pos (nI_le (by omega) (by omega)), e]; rfl
theorem c_keyAt (h : Rcp b k pa ch S hs A) (hw : WF A) (x y : Int32) : f_X4_keyAt S b x y = some (q_keyAt A x y) := by
  unfold f_X4_keyAt q_keyAt
  simp only [h.1.1.1, beq_self_eq_true, gck_t]
  rcases c_needList (x := x) h hw with ⟨e, e1, e2⟩ | ⟨s, a, e1, e2, e3, e4, e5, e6⟩
  · rw [e1, e2]; rfl
  · have hv := e5.view
    have h3 := hv.2.2.1
    rw [e1, e6]
    simp only [gth_l, c_needPlace hv, bnd]
    rcases inP_c y (n := (vw A s).length) (by omega) with ⟨e, h1⟩ | ⟨i, h1, rfl, e, e2⟩
    · rw [e]; rfl
    · rw [e, e2]
      simp only [if_true, gth_l, gtk_at hv.1, Option.bind_some, (hv.2.2.2.2 i h1).1]
theorem c_markAt (h : Rcp b k pa ch S hs A) (hw : WF A) (x y : Int32) : f_X4_markAt S b x y = some (q_markAt A x y) := by
  unfold f_X4_markAt q_markAt
  simp only [h.1.1.1, beq_self_eq_true, gck_t]
  rcases c_needList (x := x) h hw with ⟨e, e1, e2⟩ | ⟨s, a, e1, e2, e3, e4, e5, e6⟩
  · rw [e1, e2]; rfl
  · have hv := e5.view
    have h3 := hv.2.2.1
    rw [e1, e6]
    simp only [gth_l, c_needPlace hv, bnd]
    rcases inP_c y (n := (vw A s).length) (by omega) with ⟨e, h1⟩ | ⟨i, h1, rfl, e, e2⟩
    · rw [e]; rfl
    · rw [e, e2]
      simp only [if_true, gth_l, gtk_at hv.1, Option.bind_some, (hv.2.2.2.2 i h1).2.1]
theorem c_placeOf (h : Rcp b k pa ch S hs A) (hw : WF A) (x y z w : Int32) : f_X4_placeOf S b x y z w = some (q_placeOf A x y z w) := by
  unfold f_X4_placeOf q_placeOf
  simp only [h.1.1.1, beq_self_eq_true, gck_t]
  rcases c_needList (x := x) h hw with ⟨e, e1, e2⟩ | ⟨s, a, e1, e2, e3, e4, e5, e6⟩
  · rw [e1, e2]; rfl
  · have hv := e5.view
    rw [e1, e6]
    simp only [gth_l, gtk_at hv.1, Option.bind_some, f_find hv, bnd]
theorem c_search (h : Rcp b k pa ch S hs A) (hw : WF A) (x y : Int32) : f_X4_search S b x y = some (q_search A x y) := by
  unfold f_X4_search q_search
  simp only [h.1.1.1, beq_self_eq_true, gck_t]
  rcases c_needList (x := x) h hw with ⟨e, e1, e2⟩ | ⟨s, a, e1, e2, e3, e4, e5, e6⟩
  · rw [e1, e2]; rfl
  · have hv := e5.view
    rw [e1, e6]
    simp only [gth_l, gtk_at hv.1, Option.bind_some, f_rising hv, f_search hv, b2i_0, bnd]
    cases rsL (vw A s) <;> simp
theorem c_hasNumber (h : Rcp b k pa ch S hs A) (hw : WF A) (x y : Int32) : f_X4_hasNumber S b x y = some (q_hasNumber A x y) := by
  unfold f_X4_hasNumber q_hasNumber
  simp only [h.1.1.1, beq_self_eq_true, gck_t]
  rcases c_needNumbers (x := x) h hw with ⟨e, e1, e2⟩ | ⟨s, a, e1, e2, e3, e4, e5, e6⟩
  · rw [e1, e2]; rfl
  · have hv := e5.view
    rw [e1, e6]
    simp only [gth_l, gtk_at hv.1, Option.bind_some, e5.find hw e4, bnd]
    by_cases q : fIdx (fun t => t.1 == y) (vw A s) 0 < 0
    · rw [if_pos q, if_pos q]
    · rw [if_neg q, if_neg q]
theorem c_thingOf (h : Rcp b k pa ch S hs A) (hw : WF A) (x y : Int32) : f_X4_thingOf S b x y = some (q_thingOf A x y) := by
  unfold f_X4_thingOf q_thingOf
  simp only [h.1.1.1, beq_self_eq_true, gck_t]
  rcases c_needMap (x := x) h hw with ⟨e, e1, e2⟩ | ⟨s, a, e1, e2, e3, e4, e5, e6⟩
  · rw [e1, e2]; rfl
  · have hv := e5.view
    have h3 := hv.2.2.1
    have e7 : kMp (kA A s) = true := e4
    rw [e1, e6]
    simp only [gth_l, gtk_at hv.1, Option.bind_some, e5.find (x := y) hw (by rw [e7]; rfl), bnd]
    rcases fIdx_find (fun t => t.1 == y) (M := vw A s) (vw A s) 0 rfl with ⟨g1, g2⟩ | ⟨j, g0, g1, g2⟩
    · rw [g1, g2]; rfl
    · rw [g1, g2, if_pos (nI_pos' (by omega)), f_hashOf hv g0]; rfl
theorem c_numberAt (h : Rcp b k pa ch S hs A) (hw : WF A) (x y : Int32) : f_X4_numberAt S b x y = some (q_numberAt A x y) := by
  unfold f_X4_numberAt q_numberAt
  simp only [h.1.1.1, beq_self_eq_true, gck_t]
  rcases c_needNumbers (x := x) h hw with ⟨e, e1, e2⟩ | ⟨s, a, e1, e2, e3, e4, e5, e6⟩
  · rw [e1, e2]; rfl
  · have hv := e5.view
    have h3 := hv.2.2.1
    rw [e1, e6]
    simp only [gth_l, c_needPlace hv, bnd]
    rcases inP_c y (n := (vw A s).length) (by omega) with ⟨e, h1⟩ | ⟨i, h1, rfl, e, e2⟩
    · rw [e]; rfl
    · rw [e, e2]
      simp only [if_true, gth_l, gtk_at hv.1, Option.bind_some, (hv.2.2.2.2 i h1).2.2]
theorem c_kind (h : Rcp b k pa ch S hs A) (hw : WF A) (x : Int32) : f_X4_kind S b x = some (q_kind A x) := by
  unfold f_X4_kind q_kind
  simp only [h.1.1.1, beq_self_eq_true, gck_t]
  rcases sIx_c x with ⟨e, h1⟩ | ⟨s, h1, rfl, e⟩
  · rw [e, c_held_no e]; rfl
  · rw [e, c_held h.1 h1]
    by_cases hk : sK (slA A s) = 45
    · rw [(h.2.2.2.1 s h1).1 hk]
      simp only [gth_l, if_true, kA, hk]
    · obtain ⟨a, g1, g2, g3, g4⟩ := h.pane hw h1 hk
      rw [g1]
      have hv := hw.2.1 s h1 hk
      have hn : gnr .char (sK (slA A s)) = true := by
        rcases hv.2.2.1 with q | q | q | q | q | q | q | q | q | q <;> (rw [q]; decide)
      simp only [gth_l, reduceCtorEq, if_false, gfI_at g2.1, g2.2.1, Option.bind_some, hn, gck_t, kA]
end CAsk
