def rI0 (V W : List Tr) : Nat → Nat → Int32
  | 0, _ => -1
  | d + 1, p => if alk (V.drop p) W = true then nI p else rI0 V W d (p + 1)
def rI1 (V W : List Tr) : Nat → Int32
  | 0 => -1
  | d + 1 => if alk (V.drop d) W = true then nI d else rI1 V W d
def rIn (V W : List Tr) (w : Int32) : Int32 := if W.length ≤ V.length then (if w = 0 then rI0 V W (V.length - W.length + 1) 0 else rI1 V W (V.length - W.length + 1)) else -1
def q_isSame (A : AS) (x y : Int32) : Int32 ⊕ Nat := match sIx x, sIx y with
  | some s, some t => if kA A s = 45 ∨ kA A t = 45 then .inr 2 else
      if (kLs (kA A s) && kLs (kA A t)) = true then .inl (b2i (lik (vw A s) (vw A t))) else
      if kA A s = 107 ∧ kA A t = 107 then .inl (b2i (nLk (vw A t) (vw A s) && decide ((vw A s).length = (vw A t).length))) else
      if (kMp (kA A s) && kMp (kA A t)) = true then .inl (b2i (mLk (vw A t) (vw A s) && decide ((vw A s).length = (vw A t).length))) else .inr 2
  | _, _ => .inr 1
def nd2 (A : AS) (x y : Int32) (q : Int32 → Bool) : (Nat × Nat) ⊕ Nat := match sIx x, sIx y with
  | some s, some t => if (kA A s = 45 ∨ q (kA A s) = false) ∨ (kA A t = 45 ∨ q (kA A t) = false) then .inr 2 else .inl (s, t)
  | _, _ => .inr 1
def q_rowIn (A : AS) (x y w : Int32) : Int32 ⊕ Nat := match nd2 A x y kLs with
  | .inr e => .inr e
  | .inl (s, t) => .inl (rIn (vw A s) (vw A t) w)
def q_areApart (A : AS) (x y : Int32) : Int32 ⊕ Nat := match nd2 A x y (fun k => kLs k || k == 118) with
  | .inr e => .inr e
  | .inl (s, t) => .inl (b2i ((vw A s).all fun u => decide (fIdx (isT u.2.1 u.2.2) (vw A t) 0 < 0)))
def q_often (A : AS) (x k m : Int32) : Int32 ⊕ Nat := bnd (ndL A x fun k => kLs k || k == 118) fun s => .inl (nI ((vw A s).countP (isT k m)))
def ends (w : Int32) (c : Int32) (t : Tr) : Int32 := if w = 0 then gmin c t.2.1 else gmax c t.2.1
def q_end (A : AS) (x w : Int32) : Int32 ⊕ Nat := bnd (ndL A x fun k => kLs k || k == 118) fun s => match vw A s with
  | [] => .inr 5
  | t :: l => .inl (l.foldl (ends w) t.2.1)
def chk1 (A : AS) (s : Int64) (i : Nat) : Int64 := if kA A i = 45 then 31 * s + 45 else wlk (kA A i) (31 * (31 * s + (kA A i).toInt64) + (nI (vw A i).length).toInt64) 0 (vw A i)
def q_checksum (A : AS) : Int64 := (List.range 12).foldl (chk1 A) 7
section CAsk2
variable {b k hs : Nat} {pa ch : Nat → Nat} {S : GS} {A : AS}
theorem c_slot (h : Rcp b k pa ch S hs A) (hw : WF A) {s : Nat} (hs12 : s < 12) : (kA A s = 45 ∧ gR S (b + 1) s = none) ∨ (kA A s ≠ 45 ∧ ∃ a, has A S b s a ∧ gR S (b + 1) s = some a) := by
  by_cases hk : sK (slA A s) = 45
  · exact Or.inl ⟨hk, (h.2.2.2.1 s hs12).1 hk⟩
  · obtain ⟨a, g1, g2, g3, g4⟩ := h.pane hw hs12 hk
    exact Or.inr ⟨hk, a, ⟨hs12, hk, g1, g2, g3, fun hp => by rw [g4, hp]; rfl⟩, g1⟩
theorem c_isSame (h : Rcp b k pa ch S hs A) (hw : WF A) (x y : Int32) : f_X4_isSame S b x y = some (q_isSame A x y) := by
  unfold f_X4_isSame q_isSame
  simp only [h.1.1.1, beq_self_eq_true, gck_t]
  rcases sIx_c x with ⟨e, -⟩ | ⟨s, h1, rfl, e⟩
  · rw [e, c_held_no e]; rfl
  · rw [e, c_held h.1 h1, gth_l]
    rcases sIx_c y with ⟨e, -⟩ | ⟨t, h2, rfl, e⟩
    · rw [e, c_held_no e]; rfl
    · rw [e, c_held h.1 h2, gth_l]
      rcases c_slot h hw h1 with ⟨k1, k2⟩ | ⟨k1, a, k2, k3⟩
      · rw [k2]
        simp only [k1, true_or, if_true]
      · rcases c_slot h hw h2 with ⟨l1, l2⟩ | ⟨l1, c, l2, l3⟩
        · rw [k3, l2]
          simp only [l1, or_true, if_true, reduceCtorEq, if_false]
        · rw [k3, l3]
          have v1 := k2.view
          have v2 := l2.view
          simp only [k1, l1, or_self, reduceCtorEq, if_false, gtk_at v1.1, gtk_at v2.1, Option.bind_some, f_isList v1.1 v1.2.1, f_isList v2.1 v2.2.1, f_isMap v1.1 v1.2.1, f_isMap v2.1 v2.2.1, gfI_at v1.1, gfI_at v2.1, v1.2.1, v2.2.1, b2i_0, f_X4_isSame_b52, f_X4_isSame_b78, f_listLike v1 v2, b2i_n, gck_t]
          have hmap : f_X4_isSame_b78 S b (some a) (some c) = some (if (kMp (kA A s) && kMp (kA A t)) = true then .inl (b2i (mLk (vw A t) (vw A s) && decide ((vw A s).length = (vw A t).length))) else .inr 2) := by
            simp only [f_X4_isSame_b78, gtk_at v1.1, gtk_at v2.1, Option.bind_some, f_isMap v1.1 v1.2.1, f_isMap v2.1 v2.2.1, b2i_0]
            cases m1 : kMp (kA A s)
            · simp
            · cases m2 : kMp (kA A t)
              · simp
              · simp only [Bool.true_eq_false, if_false, f_mapLike v1 v2 (fun x => l2.find (x := x) hw (by rw [m2]; rfl)), Option.bind_some, b2i_n, gck_t, Bool.and_self, if_true]
          have hkey : f_X4_isSame_b52 S b (some a) (some c) = some (if kA A s = 107 ∧ kA A t = 107 then .inl (b2i (nLk (vw A t) (vw A s) && decide ((vw A s).length = (vw A t).length))) else if (kMp (kA A s) && kMp (kA A t)) = true then .inl (b2i (mLk (vw A t) (vw A s) && decide ((vw A s).length = (vw A t).length))) else .inr 2) := by
            simp only [f_X4_isSame_b52, gtk_at v1.1, gfI_at v1.1, gfI_at v2.1, v1.2.1, v2.2.1, Option.bind_some]
            by_cases m1 : kA A s = 107
            · by_cases m2 : kA A t = 107
              · simp only [m1, m2, if_true, f_numsLike v1 v2 (fun x => l2.find (x := x) hw (by rw [m2]; decide)), Option.bind_some, b2i_n, gck_t, and_self]
              · simp only [m2, if_false, and_false, hmap]
                simp [m1]
            · simp only [m1, if_false, false_and, hmap]
          simp only [f_X4_isSame_b52, f_X4_isSame_b78, gtk_at v1.1, gtk_at v2.1, gfI_at v1.1, gfI_at v2.1, v1.2.1, v2.2.1, Option.bind_some, f_isMap v1.1 v1.2.1, f_isMap v2.1 v2.2.1, b2i_0] at hkey
          cases m1 : kLs (kA A s)
          · simp only [if_true, Bool.false_and, Bool.false_eq_true, if_false]
            exact hkey
          · cases m2 : kLs (kA A t)
            · simp only [Bool.true_eq_false, if_false, if_true, Bool.and_false, Bool.false_eq_true]
              exact hkey
            · simp
theorem c_rI0 {a c : Nat} {V W : List Tr} {kd ke : Int32} (v1 : cVw S a kd V) (v2 : cVw S c ke W) (hl : W.length ≤ V.length) : ∀ (d p n : Nat), p + d = V.length - W.length + 1 → d < n → f_X4_rowIn_L35 S b n 0 (some a) (some c) (nI (V.length - W.length)) (nI p) = some (.inl (rI0 V W d p)) := by
  have h3 := v1.2.2.1
  intro d
  induction d with
  | zero =>
    intro p n h1 h2
    obtain ⟨n, rfl⟩ : ∃ k, n = k + 1 := ⟨n - 1, by omega⟩
    have q : (V.length - W.length < p) = True := eq_true (by omega)
    rw [f_X4_rowIn_L35]
    simp (disch := omega) only [nI_ltI, q, if_true, rI0]
  | succ d ih =>
    intro p n h1 h2
    obtain ⟨n, rfl⟩ : ∃ k, n = k + 1 := ⟨n - 1, by omega⟩
    have q : (V.length - W.length < p) = False := eq_false (by omega)
    rw [f_X4_rowIn_L35]
    simp (disch := omega) only [nI_ltI, q, if_false, if_true, f_X4_rowIn_b56, gtk_at v1.1, Option.bind_some, f_stands v1 v2 (show p + W.length ≤ V.length by omega), b2i_0, rI0, nI_1]
    cases alk (V.drop p) W
    · simp only [if_true, Bool.false_eq_true, if_false]
      exact ih (p + 1) n (by omega) (by omega)
    · simp
theorem c_rI1 {a c : Nat} {V W : List Tr} {kd ke w : Int32} (v1 : cVw S a kd V) (v2 : cVw S c ke W) (hl : W.length ≤ V.length) (hw : ¬ w = 0) : ∀ (d p n : Nat), p + d = V.length - W.length + 1 → d < n → f_X4_rowIn_L35 S b n w (some a) (some c) (nI (V.length - W.length)) (nI p) = some (.inl (rI1 V W d)) := by
  have h3 := v1.2.2.1
  intro d
  induction d with
  | zero =>
    intro p n h1 h2
    obtain ⟨n, rfl⟩ : ∃ k, n = k + 1 := ⟨n - 1, by omega⟩
    have q : (V.length - W.length < p) = True := eq_true (by omega)
    rw [f_X4_rowIn_L35]
    simp (disch := omega) only [nI_ltI, q, if_true, rI1]
  | succ d ih =>
    intro p n h1 h2
    obtain ⟨n, rfl⟩ : ∃ k, n = k + 1 := ⟨n - 1, by omega⟩
    have q : (V.length - W.length < p) = False := eq_false (by omega)
    have e1 : nI (V.length - W.length) - nI p = nI d := by rw [pk_sub (by omega)]; exact congrArg nI (by omega)
    rw [f_X4_rowIn_L35]
    simp (disch := omega) only [nI_ltI, q, if_false, hw, e1, f_X4_rowIn_b56, gtk_at v1.1, Option.bind_some, f_stands v1 v2 (show d + W.length ≤ V.length by omega), b2i_0, rI1, nI_1]
    cases alk (V.drop d) W
    · simp only [if_true, Bool.false_eq_true, if_false]
      exact ih (p + 1) n (by omega) (by omega)
    · simp
theorem c_need2 (h : Rcp b k pa ch S hs A) (hw : WF A) {x y : Int32} {q : Int32 → Bool} {f : GS → Nat → Int32 → Option (Option Nat ⊕ Nat)}
    (hf : ∀ x, (∃ e, ndL A x q = .inr e ∧ f S b x = some (.inr e)) ∨ ∃ s a, ndL A x q = .inl s ∧ sIx x = some s ∧ x = nI s ∧ q (sK (slA A s)) = true ∧ has A S b s a ∧ f S b x = some (.inl (some a))) {α : Type} {K : Option Nat → Option Nat → Option (α ⊕ Nat)} :
    (∃ e, nd2 A x y q = .inr e ∧ (gth (f_X4_needSlots S x y) fun _ => gck (gT S b == 5) (gth (f S b x) fun v7 => gck (gT S b == 5) (gth (f S b y) fun v12 => K v7 v12))) = some (.inr e)) ∨
    ∃ s t a c, nd2 A x y q = .inl (s, t) ∧ sIx x = some s ∧ sIx y = some t ∧ q (kA A s) = true ∧ q (kA A t) = true ∧ has A S b s a ∧ has A S b t c ∧ (gth (f_X4_needSlots S x y) fun _ => gck (gT S b == 5) (gth (f S b x) fun v7 => gck (gT S b == 5) (gth (f S b y) fun v12 => K v7 v12))) = K (some a) (some c) := by
  rw [c_needSlots]
  simp only [h.1.1.1, beq_self_eq_true, gck_t]
  unfold nd2
  rcases sIx_c x with ⟨e, -⟩ | ⟨s, h1, rfl, e⟩
  · rw [e]; exact Or.inl ⟨1, rfl, rfl⟩
  · rcases sIx_c y with ⟨e', -⟩ | ⟨t, h2, rfl, e'⟩
    · rw [e, e']; exact Or.inl ⟨1, rfl, rfl⟩
    · rw [e, e']
      simp only [gth_l]
      rcases hf (nI s) with ⟨e1, e2, e3⟩ | ⟨s', a, e1, e2, e3, e4, e5, e6⟩
      · have : e1 = 2 ∧ (kA A s = 45 ∨ q (kA A s) = false) := by
          unfold ndL at e2
          rw [e] at e2
          unfold kA
          by_cases z : sK (slA A s) = 45
          · simp only [z, if_true] at e2; cases e2; exact ⟨rfl, Or.inl z⟩
          · cases z2 : q (sK (slA A s))
            · simp only [z, z2, if_false, Bool.false_eq_true] at e2; cases e2; exact ⟨rfl, Or.inr rfl⟩
            · simp only [z, z2, if_false, if_true] at e2; cases e2
        obtain ⟨rfl, hq⟩ := this
        refine Or.inl ⟨2, by rw [if_pos (Or.inl hq)], ?_⟩
        rw [e3]; rfl
      · rw [e] at e2
        cases e2
        rcases hf (nI t) with ⟨f1, f2, f3⟩ | ⟨t', c, f1, f2, f3, f4, f5, f6⟩
        · have : f1 = 2 ∧ (kA A t = 45 ∨ q (kA A t) = false) := by
            unfold ndL at f2
            rw [e'] at f2
            unfold kA
            by_cases z : sK (slA A t) = 45
            · simp only [z, if_true] at f2; cases f2; exact ⟨rfl, Or.inl z⟩
            · cases z2 : q (sK (slA A t))
              · simp only [z, z2, if_false, Bool.false_eq_true] at f2; cases f2; exact ⟨rfl, Or.inr rfl⟩
              · simp only [z, z2, if_false, if_true] at f2; cases f2
          obtain ⟨rfl, hq⟩ := this
          refine Or.inl ⟨2, by rw [if_pos (Or.inr hq)], ?_⟩
          rw [e6, f3]; rfl
        · rw [e'] at f2
          cases f2
          refine Or.inr ⟨s, t, a, c, ?_, rfl, rfl, e4, f4, e5, f5, by rw [e6, f6]; rfl⟩
          have n1 := e5.2.1
          have n2 := f5.2.1
          unfold kA
          rw [e4, f4]
          simp [n1, n2]
theorem c_rowIn (h : Rcp b k pa ch S hs A) (hw : WF A) (x y w : Int32) : f_X4_rowIn S b x y w = some (q_rowIn A x y w) := by
  unfold f_X4_rowIn q_rowIn
  rcases c_need2 (x := x) (y := y) h hw (fun x => c_needList (x := x) h hw) (K := fun v7 v12 => (gtk S v7 2).bind fun a15 => (f_X1_count S a15).bind fun v19 => (gtk S v12 2).bind fun a20 => (f_X1_count S a20).bind fun v24 => f_X4_rowIn_L35 S b gN w v7 v12 (v19 - v24) 0) with ⟨e, e1, e2⟩ | ⟨s, t, a, c, e1, -, -, e2, e3, e4, e5, e6⟩
  · rw [e1]; exact e2
  · rw [e1]
    refine e6.trans ?_
    have v1 := e4.view
    have v2 := e5.view
    have g1 := v1.2.2.1
    have g2 := v2.2.2.1
    simp only [gtk_at v1.1, gtk_at v2.1, Option.bind_some, v1.2.2.2.1, v2.2.2.2.1]
    unfold rIn
    by_cases hl : (vw A t).length ≤ (vw A s).length
    · rw [if_pos hl, pk_sub hl, n_0]
      by_cases hw0 : w = nI 0
      · rw [if_pos hw0, hw0]
        have := c_rI0 (b := b) v1 v2 hl ((vw A s).length - (vw A t).length + 1) 0 gN (by omega) (by simp only [gN]; omega)
        rw [n_0] at this
        exact this
      · rw [if_neg hw0]
        exact c_rI1 (b := b) v1 v2 hl (by rw [n_0]; exact hw0) ((vw A s).length - (vw A t).length + 1) 0 gN (by omega) (by simp only [gN]; omega)
    · rw [if_neg hl]
      have q : (nI (vw A s).length - nI (vw A t).length < 0) = True := eq_true (pk_sneg (by omega) (by omega))
      show f_X4_rowIn_L35 S b (4999 + 1) _ _ _ _ _ = _
      rw [f_X4_rowIn_L35]
      simp only [q, if_true]
theorem c_apartL {a c : Nat} {V W : List Tr} {kd ke : Int32} (v1 : cVw S a kd V) (v2 : cVw S c ke W) : ∀ (l : List Tr) (i n : Nat), V.drop i = l → l.length < n → i ≤ V.length → f_X4_areApart_L21 S b n (some a) (some c) (nI i) = some (.inl (b2i (l.all fun u => decide (fIdx (isT u.2.1 u.2.2) W 0 < 0)))) := by
  have g3 := v1.2.2.1
  intro l
  induction l with
  | nil =>
    intro i n h1 h2 h4
    obtain ⟨n, rfl⟩ : ∃ k, n = k + 1 := ⟨n - 1, by omega⟩
    have q : (V.length ≤ i) = True := eq_true (gd_nil h1)
    rw [f_X4_areApart_L21]
    simp (disch := omega) only [gtk_at v1.1, v1.2.2.2.1, Option.bind_some, nI_leI, q, if_true]
    rfl
  | cons t l ih =>
    intro i n h1 h2 h4
    obtain ⟨n, rfl⟩ : ∃ k, n = k + 1 := ⟨n - 1, by omega⟩
    obtain ⟨a1, a2, a3⟩ := gd_cons h1
    obtain ⟨b1, b2, b3⟩ := v1.2.2.2.2 i a1
    rw [a2] at b1 b2
    have q : (V.length ≤ i) = False := eq_false (by omega)
    have e1 : fnd t.2.1 t.2.2 W 0 = fIdx (isT t.2.1 t.2.2) W 0 := rfl
    rw [f_X4_areApart_L21]
    simp (disch := omega) only [gtk_at v1.1, gtk_at v2.1, v1.2.2.2.1, Option.bind_some, nI_leI, q, if_false, b1, b2, f_find v2, e1, nI_1]
    by_cases e : fIdx (isT t.2.1 t.2.2) W 0 < 0
    · rw [if_pos e, ih (i + 1) n a3 (by simp only [List.length_cons] at h2; omega) (by omega)]
      simp [e]
    · rw [if_neg e]
      simp [e, b2i]
theorem c_areApart (h : Rcp b k pa ch S hs A) (hw : WF A) (x y : Int32) : f_X4_areApart S b x y = some (q_areApart A x y) := by
  unfold f_X4_areApart q_areApart
  rcases c_need2 (x := x) (y := y) h hw (fun x => c_needRow (x := x) h hw) (K := fun v7 v12 => f_X4_areApart_L21 S b gN v7 v12 0) with ⟨e, e1, e2⟩ | ⟨s, t, a, c, e1, -, -, e2, e3, e4, e5, e6⟩
  · rw [e1]; exact e2
  · rw [e1]
    refine e6.trans ?_
    have g1 := e4.view.2.2.1
    have := c_apartL (b := b) e4.view e5.view (vw A s) 0 gN rfl (by simp only [gN]; omega) (by omega)
    rw [nI_0] at this
    exact this
theorem c_oftenL {a : Nat} {V : List Tr} {kd x y : Int32} (v1 : cVw S a kd V) : ∀ (l : List Tr) (i n c : Nat), V.drop i = l → l.length < n → i ≤ V.length → f_X4_often_L13 S b n x y (some a) (nI c) (nI i) = some (.inl (nI (c + l.countP (isT x y)))) := by
  have g3 := v1.2.2.1
  intro l
  induction l with
  | nil =>
    intro i n c h1 h2 h4
    obtain ⟨n, rfl⟩ : ∃ k, n = k + 1 := ⟨n - 1, by omega⟩
    have q : (V.length ≤ i) = True := eq_true (gd_nil h1)
    rw [f_X4_often_L13]
    simp (disch := omega) only [gtk_at v1.1, v1.2.2.2.1, Option.bind_some, nI_leI, q, if_true, List.countP_nil, Nat.add_zero]
  | cons t l ih =>
    intro i n c h1 h2 h4
    obtain ⟨n, rfl⟩ : ∃ k, n = k + 1 := ⟨n - 1, by omega⟩
    obtain ⟨a1, a2, a3⟩ := gd_cons h1
    have q : (V.length ≤ i) = False := eq_false (by omega)
    rw [f_X4_often_L13]
    simp (disch := omega) only [gtk_at v1.1, v1.2.2.2.1, Option.bind_some, nI_leI, q, if_false, f_isThing v1 a1, a2, b2i_0, f_X4_often_b38, nI_1, List.countP_cons]
    cases e : isT x y t
    · simp only [if_true, Bool.false_eq_true, if_false, Nat.add_zero]
      exact ih (i + 1) n c a3 (by simp only [List.length_cons] at h2; omega) (by omega)
    · simp only [Bool.true_eq_false, if_false, if_true]
      rw [ih (i + 1) n (c + 1) a3 (by simp only [List.length_cons] at h2; omega) (by omega)]
      rw [show c + 1 + List.countP (isT x y) l = c + (List.countP (isT x y) l + 1) by omega]
theorem c_often (h : Rcp b k pa ch S hs A) (hw : WF A) (x y z : Int32) : f_X4_often S b x y z = some (q_often A x y z) := by
  unfold f_X4_often q_often
  simp only [h.1.1.1, beq_self_eq_true, gck_t]
  rcases c_needRow (x := x) h hw with ⟨e, e1, e2⟩ | ⟨s, a, e1, e2, e3, e4, e5, e6⟩
  · rw [e1, e2]; rfl
  · have hv := e5.view
    have g1 := hv.2.2.1
    rw [e1, e6]
    simp only [gth_l, bnd]
    have := c_oftenL (b := b) (x := y) (y := z) hv (vw A s) 0 gN 0 rfl (by simp only [gN]; omega) (by omega)
    rw [nI_0, Nat.zero_add] at this
    exact this
theorem c_endL {a : Nat} {V : List Tr} {kd w : Int32} (v1 : cVw S a kd V) : ∀ (l : List Tr) (i n : Nat) (c : Int32), V.drop i = l → l.length < n → i ≤ V.length → f_X4_end_L31 S b n w (some a) c (nI i) = some (.inl (l.foldl (ends w) c)) := by
  have g3 := v1.2.2.1
  intro l
  induction l with
  | nil =>
    intro i n c h1 h2 h4
    obtain ⟨n, rfl⟩ : ∃ k, n = k + 1 := ⟨n - 1, by omega⟩
    have q : (V.length ≤ i) = True := eq_true (gd_nil h1)
    rw [f_X4_end_L31]
    simp (disch := omega) only [gtk_at v1.1, v1.2.2.2.1, Option.bind_some, nI_leI, q, if_true, List.foldl_nil]
  | cons t l ih =>
    intro i n c h1 h2 h4
    obtain ⟨n, rfl⟩ : ∃ k, n = k + 1 := ⟨n - 1, by omega⟩
    obtain ⟨a1, a2, a3⟩ := gd_cons h1
    obtain ⟨b1, b2, b3⟩ := v1.2.2.2.2 i a1
    rw [a2] at b1
    have q : (V.length ≤ i) = False := eq_false (by omega)
    have e : ends w c t = if w = 0 then gmin c t.2.1 else gmax c t.2.1 := rfl
    rw [f_X4_end_L31]
    simp (disch := omega) only [gtk_at v1.1, v1.2.2.2.1, Option.bind_some, nI_leI, q, if_false, b1, f_X4_end_b69, nI_1, List.foldl_cons]
    by_cases hw0 : w = 0
    · rw [if_pos hw0]
      rw [if_pos hw0] at e
      rw [e]
      exact ih (i + 1) n _ a3 (by simp only [List.length_cons] at h2; omega) (by omega)
    · rw [if_neg hw0]
      rw [if_neg hw0] at e
      rw [e]
      exact ih (i + 1) n _ a3 (by simp only [List.length_cons] at h2; omega) (by omega)
theorem c_end (h : Rcp b k pa ch S hs A) (hw : WF A) (x w : Int32) : f_X4_end S b x w = some (q_end A x w) := by
  unfold f_X4_end q_end
  simp only [h.1.1.1, beq_self_eq_true, gck_t]
  rcases c_needRow (x := x) h hw with ⟨e, e1, e2⟩ | ⟨s, a, e1, e2, e3, e4, e5, e6⟩
  · rw [e1, e2]; rfl
  · have hv := e5.view
    have g1 := hv.2.2.1
    rw [e1, e6]
    simp only [gth_l, gtk_at hv.1, Option.bind_some, hv.2.2.2.1, bnd]
    cases hL : vw A s with
    | nil => rfl
    | cons t l =>
      have e0 : (nI (t :: l).length = 0) = False := eq_false (nI_ne0 (by simp) (by rw [← hL]; omega))
      have b1 := (hv.2.2.2.2 0 (by rw [hL]; simp)).1
      rw [hL, nI_0] at b1
      simp only [e0, if_false, b1, Option.bind_some]
      have := c_endL (b := b) (w := w) hv l 1 gN t.2.1 (by rw [hL]; rfl) (by rw [hL] at g1; simp only [List.length_cons] at g1; simp only [gN]; omega) (by rw [hL]; simp)
      rw [← n_1] at this
      exact this
theorem c_chkL (h : Rcp b k pa ch S hs A) (hw : WF A) : ∀ (d i n : Nat) (s : Int64), i + d = 12 → d < n → f_X4_checksum_L6 S b n s (nI i) = some ((List.range' i d).foldl (chk1 A) s) := by
  intro d
  induction d with
  | zero =>
    intro i n s h1 h2
    obtain ⟨n, rfl⟩ : ∃ k, n = k + 1 := ⟨n - 1, by omega⟩
    have q : (12 ≤ i) = True := eq_true (by omega)
    rw [f_X4_checksum_L6, n_12]
    simp (disch := omega) only [nI_leI, q, if_true, List.range'_zero, List.foldl_nil]
  | succ d ih =>
    intro i n s h1 h2
    obtain ⟨n, rfl⟩ : ∃ k, n = k + 1 := ⟨n - 1, by omega⟩
    have q : (12 ≤ i) = False := eq_false (by omega)
    obtain ⟨⟨p1, p2, p3, p4, p5⟩, ⟨p6, p7⟩, -⟩ := h.1
    rw [f_X4_checksum_L6, n_12, List.range'_succ, List.foldl_cons]
    simp (disch := first | assumption | omega) only [nI_leI, q, if_false, gfR_at, p2, Option.bind_some, aR, f_X4_checksum_b72, nI_1]
    unfold chk1
    rcases c_slot h hw (show i < 12 by omega) with ⟨k1, k2⟩ | ⟨k1, a, k2, k3⟩
    · rw [k2]
      simp only [if_true, k1]
      exact ih (i + 1) n _ (by omega) (by omega)
    · have hv := k2.view
      rw [k3]
      simp only [reduceCtorEq, if_false, k1, gfI_at hv.1, hv.2.1, Option.bind_some, gtk_at hv.1, hv.2.2.2.1, f_addAll hv]
      exact ih (i + 1) n _ (by omega) (by omega)
theorem c_checksum (h : Rcp b k pa ch S hs A) (hw : WF A) : f_X4_checksum S b = some (q_checksum A) := by
  unfold f_X4_checksum q_checksum
  have := c_chkL h hw 12 0 gN 7 rfl (by simp only [gN]; omega)
  rw [nI_0] at this
  rw [this, List.range_eq_range']
end CAsk2
