/-! new panes -/
def cResA (b k hs : Nat) (f : Option ((Int32 × GS × Nat) ⊕ Nat)) (z : (Int32 × AS) ⊕ Nat) : Prop := match z with
  | .inr e => f = some (.inr e)
  | .inl (v, A) => ∃ S' hs', f = some (.inl (v, S', hs')) ∧ hs ≤ hs' ∧ Rc b (k + 1) S' hs' A
/-- S' is S but for one cell -/
def gOne (a : Nat) (S S' : GS) : Prop := (∀ x, x ≠ a → gT S' x = gT S x) ∧ (∀ x, x ≠ a → gZ S' x = gZ S x) ∧ (∀ x k, x ≠ a → gI S' x k = gI S x k) ∧ ∀ x k, x ≠ a → gR S' x k = gR S x k
theorem gOne.tr {a : Nat} {S S' S'' : GS} (h : gOne a S S') (g : gOne a S' S'') : gOne a S S'' := ⟨fun x e => (g.1 x e).trans (h.1 x e), fun x e => (g.2.1 x e).trans (h.2.1 x e), fun x k e => (g.2.2.1 x k e).trans (h.2.2.1 x k e), fun x k e => (g.2.2.2 x k e).trans (h.2.2.2 x k e)⟩
theorem gOne.new {a t z : Nat} {S : GS} : gOne a S (gnw S a t z) := ⟨fun x e => by rw [gT_gnw, if_neg e], fun x e => by rw [gZ_gnw, if_neg e], fun x k e => by rw [gI_gnw, if_neg e], fun x k e => by rw [gR_gnw, if_neg e]⟩
theorem e_init {S : GS} {a : Nat} {kd o : Int32} {st p : Option Nat} (h : gT S a = 2) (hk : gnr .char kd = true) (ho : gnr .boolean o = true) : ∃ S', f_X1_init S a kd o st p = some S' ∧ gOne a S S' ∧ gT S' a = 2 ∧ gI S' a 0 = kd ∧ gI S' a 1 = o ∧ gR S' a 2 = st ∧ gR S' a 3 = p := by
  refine ⟨gsI (gsI (gsI (gsR (gsR (gsI (gsI S a 0 kd) a 1 o) a 2 st) a 3 p) a 4 0) a 5 0) a 6 0, ?_, ⟨fun _ _ => rfl, fun _ _ => rfl, fun x k e => by simp [gI_gsI, gI_gsR, e], fun x k e => by simp [gR_gsI, gR_gsR, e]⟩, h, ?_, ?_, ?_, ?_⟩
  · unfold f_X1_init
    simp (disch := first | assumption | (simp only [gT_gsI, gT_gsR] <;> assumption)) only [hk, ho, gck_t, gsfI_at, gsfR_at, Option.bind_some]
  · simp [gI_gsI, gI_gsR]
  · simp [gI_gsI, gI_gsR]
  · simp [gR_gsI, gR_gsR]
  · simp [gR_gsI, gR_gsR]
theorem e_initC {S : GS} {a : Nat} {kd n k m : Int32} (h : gT S a = 2) (hk : gnr .char kd = true) : ∃ S', f_X1_init_ S a kd n k m = some S' ∧ gOne a S S' ∧ gT S' a = 2 ∧ gI S' a 0 = kd ∧ gI S' a 1 = 0 ∧ gR S' a 2 = none ∧ gR S' a 3 = none ∧ gI S' a 4 = n ∧ gI S' a 5 = k ∧ gI S' a 6 = m := by
  refine ⟨gsR (gsR (gsI (gsI (gsI (gsI (gsI S a 0 kd) a 4 n) a 5 k) a 6 m) a 1 0) a 2 none) a 3 none, ?_, ⟨fun _ _ => rfl, fun _ _ => rfl, fun x k e => by simp [gI_gsI, gI_gsR, e], fun x k e => by simp [gR_gsI, gR_gsR, e]⟩, h, ?_, ?_, ?_, ?_, ?_, ?_, ?_⟩
  · unfold f_X1_init_
    simp (disch := first | assumption | (simp only [gT_gsI, gT_gsR] <;> assumption)) only [hk, gck_t, gsfI_at, gsfR_at, Option.bind_some]
  all_goals simp [gI_gsI, gI_gsR, gR_gsI, gR_gsR]
theorem e_initP {S : GS} {a : Nat} {p : Option Nat} {f z : Int32} (h : gT S a = 3) : ∃ S', f_X2_init S a p f z = some S' ∧ gOne a S S' ∧ gT S' a = 3 ∧ gR S' a 0 = p ∧ gI S' a 1 = f ∧ gI S' a 2 = z ∧ gI S' a 3 = gI S a 3 := by
  refine ⟨gsI (gsI (gsR S a 0 p) a 1 f) a 2 z, ?_, ⟨fun _ _ => rfl, fun _ _ => rfl, fun x k e => by simp [gI_gsI, gI_gsR, e], fun x k e => by simp [gR_gsI, gR_gsR, e]⟩, h, ?_, ?_, ?_, ?_⟩
  · unfold f_X2_init
    simp (disch := first | assumption | (simp only [gT_gsI, gT_gsR] <;> assumption)) only [gsfI_at, gsfR_at, Option.bind_some]
  all_goals simp [gI_gsI, gI_gsR, gR_gsI, gR_gsR]
theorem gOne.st {a w : Nat} {S S' : GS} {L : List Tr} (g : gOne a S S') (h : cSt S w L) (ha : gT S a = 0) : cSt S' w L := by
  obtain ⟨g1, g2, g3, g4⟩ := g
  obtain ⟨⟨k1, k2, k3, k4, k5, k6, k7, k8, k9, k10⟩, h2, h3, h4⟩ := h
  have nx : ∀ x, gT S x = 4 ∨ gT S x = 11 → x ≠ a := fun x hx e => by rw [e] at hx; omega
  have n0 := nx _ (Or.inl k1)
  have n1 := nx _ (Or.inr k5)
  have n2 := nx _ (Or.inr k6)
  have n3 := nx _ (Or.inr k7)
  refine ⟨⟨by rw [g1 _ n0]; exact k1, by rw [g4 _ _ n0]; exact k2, by rw [g4 _ _ n0]; exact k3, by rw [g4 _ _ n0]; exact k4, by rw [g1 _ n1]; exact k5, by rw [g1 _ n2]; exact k6, by rw [g1 _ n3]; exact k7, by rw [g2 _ n1]; exact k8, by rw [g2 _ n2]; exact k9, by rw [g2 _ n3]; exact k10⟩, by rw [g3 _ _ n0]; exact h2, h3, fun i hi => ?_⟩
  rw [← h4 i hi]
  unfold trw
  rw [g3 _ _ n1, g3 _ _ n2, g3 _ _ n3]
/-- a new cell changes nothing of what was -/
theorem gOne.rcp {b k hs : Nat} {pa ch : Nat → Nat} {S S' : GS} {A : AS} (g : gOne hs S S') (h : Rcp b k pa ch S hs A) : Rcp b k pa ch S' (hs + 1) A := by
  obtain ⟨r1, r2, ⟨⟨L1, r3⟩, L2, r3'⟩, r4, r5, r6, r7, r8, r9⟩ := h
  have h0 := r7 hs (Nat.le_refl _)
  obtain ⟨g1, g2, g3, g4⟩ := id g
  have nx : ∀ x, gT S x ≠ 0 → x ≠ hs := fun x hx e => by rw [e] at hx; exact hx h0
  refine ⟨?_, fun j hj => ?_, ⟨⟨L1, g.st r3 h0⟩, L2, g.st r3' h0⟩, fun s hs12 => ?_, fun p hp hg => ?_, r6, fun x hx => by rw [g1 x (by omega)]; exact r7 x (by omega), by omega, r9⟩
  · obtain ⟨⟨p1, p2, p3, p4, p5⟩, ⟨p6, p7⟩, ⟨p8, p9⟩, ⟨p10, p11, p12⟩, p13, p14, p15, p16⟩ := r1
    have n1 := nx _ (show gT S b ≠ 0 by omega)
    have n2 := nx _ (show gT S (b + 1) ≠ 0 by omega)
    have n3 := nx _ (show gT S (b + 26) ≠ 0 by omega)
    have n4 := nx _ (show gT S (b + 27) ≠ 0 by omega)
    have n5 := nx _ (show gT S (b + 32) ≠ 0 by omega)
    exact ⟨⟨by rw [g1 _ n1]; exact p1, by rw [g4 _ _ n1]; exact p2, by rw [g4 _ _ n1]; exact p3, by rw [g4 _ _ n1]; exact p4, by rw [g4 _ _ n1]; exact p5⟩, ⟨by rw [g1 _ n2]; exact p6, by rw [g2 _ n2]; exact p7⟩, ⟨by rw [g1 _ n3]; exact p8, by rw [g2 _ n3]; exact p9⟩, ⟨by rw [g1 _ n4]; exact p10, by rw [g4 _ _ n4]; exact p11, by rw [g4 _ _ n4]; exact p12⟩, by rw [g1 _ n5]; exact p13, by rw [g3 _ _ n5]; exact p14, by rw [g4 _ _ n5]; exact p15, by rw [g4 _ _ n5]; exact p16⟩
  · obtain ⟨f1, f2, f3, f4⟩ := r2 j hj
    have n1 := nx _ (show gT S (stB b j) ≠ 0 by have := f1.1.1; omega)
    exact ⟨g.st f1 h0, by rw [g3 _ _ n1]; exact f2, by rw [g3 _ _ n1]; exact f3, f4⟩
  · obtain ⟨c1, c2⟩ := r4 s hs12
    have n2 := nx _ (show gT S (b + 1) ≠ 0 by have := r1.2.1.1; omega)
    refine ⟨fun e => by rw [g4 _ _ n2]; exact c1 e, fun e => ?_⟩
    obtain ⟨a, d1, d2, d3, d4, d5, d6, d7⟩ := c2 e
    have na := nx _ (show gT S a ≠ 0 by omega)
    exact ⟨a, by rw [g4 _ _ n2]; exact d1, by rw [g1 _ na]; exact d2, by rw [g3 _ _ na]; exact d3, by rw [g3 _ _ na]; exact d4, by rw [g4 _ _ na]; exact d5, by rw [g4 _ _ na]; exact d6, fun e => by rw [g3 _ _ na, g3 _ _ na, g3 _ _ na]; exact d7 e⟩
  · obtain ⟨d1, d2, d3, d4, c, d5, d6⟩ := r5 p hp hg
    have na := nx _ (show gT S (pa p) ≠ 0 by omega)
    exact ⟨by rw [g1 _ na]; exact d1, by rw [g4 _ _ na]; exact d2, by rw [g3 _ _ na]; exact d3, by rw [g3 _ _ na]; exact d4, c, d5, by rw [g3 _ _ na]; exact d6⟩
/-- a slot takes another pane -/
theorem Rcp.slot {b k hs s a : Nat} {pa ch : Nat → Nat} {S : GS} {A : AS} {x : Sl} (h : Rcp b k pa ch S hs A) (hk : sK x ≠ 45) (e2 : gT S a = 2) (e3 : gI S a 0 = sK x) (e4 : gI S a 1 = b2i (sO x)) (e5 : gR S a 2 = (if isC x = true then none else some (stB b (sR x)))) (e6 : gR S a 3 = (sP x).map pa)
    (e7 : isC x = true → gI S a 4 = nI (cpy x) ∧ gI S a 5 = sY x ∧ gI S a 6 = sM x) : Rcp b k pa ch (gsR S (b + 1) s (some a)) hs (aSetS A s x) := by
  obtain ⟨r1, r2, r3, r4, r5, r6, r7⟩ := h
  have h14 := r1.2.1.1
  have nR : ∀ y i, gT S y ≠ 14 → gR (gsR S (b + 1) s (some a)) y i = gR S y i := fun y i hy => by rw [gR_gsR, if_neg]; rintro ⟨rfl, -⟩; exact hy h14
  have fst : ∀ w L, cSt S w L → cSt (gsR S (b + 1) s (some a)) w L := fun w L hw => by
    obtain ⟨⟨k1, k2, k3, k4, k5⟩, g⟩ := hw
    exact ⟨⟨k1, by rw [nR _ _ (by omega)]; exact k2, by rw [nR _ _ (by omega)]; exact k3, by rw [nR _ _ (by omega)]; exact k4, k5⟩, g⟩
  refine ⟨?_, fun j hj => ⟨fst _ _ (r2 j hj).1, (r2 j hj).2⟩, ?_, fun s' hs' => ?_, fun p hp hg => ?_, r6, r7⟩
  · obtain ⟨⟨p1, p2, p3, p4, p5⟩, p67, p89, ⟨p10, p11, p12⟩, p13, p14, p15, p16⟩ := r1
    exact ⟨⟨p1, by rw [nR _ _ (by omega)]; exact p2, by rw [nR _ _ (by omega)]; exact p3, by rw [nR _ _ (by omega)]; exact p4, by rw [nR _ _ (by omega)]; exact p5⟩, p67, p89, ⟨p10, by rw [nR _ _ (by omega)]; exact p11, by rw [nR _ _ (by omega)]; exact p12⟩, p13, p14, by rw [nR _ _ (by omega)]; exact p15, by rw [nR _ _ (by omega)]; exact p16⟩
  · obtain ⟨⟨L1, q1⟩, L2, q2⟩ := r3
    exact ⟨⟨L1, fst _ _ q1⟩, L2, fst _ _ q2⟩
  · have eS : slA (aSetS A s x) s' = if s' = s then x else slA A s' := rfl
    rw [eS, gR_gsR]
    by_cases e : s' = s
    · rw [if_pos e, if_pos ⟨rfl, e⟩]
      exact ⟨fun z => absurd z hk, fun _ => ⟨a, rfl, e2, e3, e4, by rw [nR _ _ (by omega)]; exact e5, by rw [nR _ _ (by omega)]; exact e6, e7⟩⟩
    · rw [if_neg e, if_neg (fun z => e z.2)]
      obtain ⟨c1, c2⟩ := r4 s' hs'
      refine ⟨c1, fun z => ?_⟩
      obtain ⟨a', d1, d2, d3, d4, d5, d6, d7⟩ := c2 z
      exact ⟨a', d1, d2, d3, d4, by rw [nR _ _ (by omega)]; exact d5, by rw [nR _ _ (by omega)]; exact d6, d7⟩
  · obtain ⟨d1, d2, d3⟩ := r5 p hp hg
    exact ⟨d1, by rw [nR _ _ (by omega)]; exact d2, d3⟩
theorem sl_set {A : AS} {s s' : Nat} {x : Sl} : slA (aSetS A s x) s' = if s' = s then x else slA A s' := rfl
theorem WF_slot {A : AS} {s : Nat} {x : Sl} (hw : WF A) (h4 : 4 ≤ s) (hx : wSl A x) (hB : isC x = true → sK x ≠ 101 → inB (0, sY x, sM x)) (hk : sK x ≠ 108 ∧ sK x ≠ 109) : WF (aSetS A s x) := by
  obtain ⟨w1, w2, w3, w4, w5, w6, w7, w8⟩ := hw
  refine ⟨w1, fun s' hs' hk' => ?_, fun s' hs' hc hk' => ?_, ⟨by rw [sl_set, if_neg (by omega)]; exact w4.1, by rw [sl_set, if_neg (by omega)]; exact w4.2.1, by rw [sl_set, if_neg (by omega)]; exact w4.2.2.1, by rw [sl_set, if_neg (by omega)]; exact w4.2.2.2⟩, fun s' h1 h2 => ?_, w6, w7, w8⟩
  · rw [sl_set] at hk' ⊢
    by_cases e : s' = s
    · rw [if_pos e]; exact hx
    · rw [if_neg e] at hk' ⊢; exact w2 s' hs' hk'
  · rw [sl_set] at hc hk' ⊢
    by_cases e : s' = s
    · rw [if_pos e] at hc hk' ⊢; exact hB hc hk'
    · rw [if_neg e] at hc hk' ⊢; exact w3 s' hs' hc hk'
  · rw [sl_set]
    by_cases e : s' = s
    · rw [if_pos e]; exact hk
    · rw [if_neg e]; exact w5 s' h1 h2
def pnS (x : Int32) : Option Nat := match sIx x with
  | some s => if s < 4 then none else some s
  | none => none
theorem c_needPane2 (S : GS) (x : Int32) : (pnS x = none ∧ f_X4_needPaneSlot S x = some (.inr 1)) ∨ ∃ s, 4 ≤ s ∧ s < 12 ∧ x = nI s ∧ pnS x = some s ∧ f_X4_needPaneSlot S x = some (.inl ()) := by
  rw [c_needPane]
  unfold pnS
  rcases sIx_c x with ⟨e, -⟩ | ⟨s, h1, h2, e⟩
  · rw [e]; exact Or.inl ⟨rfl, rfl⟩
  · rw [e]
    by_cases h4 : s < 4
    · simp only [h4, if_true]; exact Or.inl ⟨trivial, trivial⟩
    · simp only [h4, if_false]
      exact Or.inr ⟨s, by omega, h1, h2, rfl, trivial⟩
def bndO {α : Type} (z : Option Nat) (k : Nat → α ⊕ Nat) : α ⊕ Nat := match z with
  | none => .inr 1
  | some s => k s
def m_copies (A : AS) (x n k m : Int32) : (Int32 × AS) ⊕ Nat := bndO (pnS x) fun s => if n < 0 then .inr 4 else if n ≤ 24 then (if thOk k m = true then .inl (n, aSetS A s (99, n.toNatClampNeg, none, k, m, false)) else .inr 4) else .inr 4
def m_alone (A : AS) (x k m : Int32) : (Int32 × AS) ⊕ Nat := bndO (pnS x) fun s => if thOk k m = true then .inl (31 * 1 + (31 * k + m), aSetS A s (97, 0, none, k, m, false)) else .inr 4
def hld (A : AS) : Nat := (List.range' 4 8).countP fun s => decide (kA A s ≠ 45)
def m_none (A : AS) (x : Int32) : (Int32 × AS) ⊕ Nat := bndO (pnS x) fun s => .inl (nI (hld (aSetS A s (101, 0, none, 0, 0, false))), aSetS A s (101, 0, none, 0, 0, false))
def m_look (A : AS) (x y kd : Int32) : (Int32 × AS) ⊕ Nat := bndO (pnS x) fun s => bnd (ndL A y kMp) fun t => .inl (nI (vw A t).length, aSetS A s (kd, sR (slA A t), none, 0, 0, sO (slA A t)))
def m_fixed (A : AS) (x y : Int32) : (Int32 × AS) ⊕ Nat := bndO (pnS x) fun s => bnd (ndL A y fun k => k == 108 || k == 112 || k == 109) fun t => .inl (nI (vw A t).length, aSetS A s (if kA A t = 109 then 70 else 102, sR (slA A t), sP (slA A t), 0, 0, false))
section CNew
variable {b k hs : Nat} {S : GS} {A : AS}
theorem c_copies (h : Rc b k S hs A) (hk : k < 600) (x1 x2 x3 x4 : Int32) : cResA b k hs (f_X4_copies S hs b x1 x2 x3 x4) (m_copies A x1 x2 x3 x4) := by
  obtain ⟨hw, hn, pa, ch, hr⟩ := h
  unfold f_X4_copies m_copies
  rcases c_needPane2 S x1 with ⟨e1, e2⟩ | ⟨s, h4, h12, rfl, e1, e2⟩
  · rw [e1, e2]; rfl
  · rw [e1, e2, gth_l]
    simp only [bndO]
    by_cases r1 : x2 < 0
    · rw [if_pos r1, if_pos r1]; rfl
    · rw [if_neg r1, if_neg r1]
      by_cases r2 : x2 ≤ 24
      rotate_left
      · rw [if_neg r2, if_neg r2]; rfl
      · rw [if_pos r2, if_pos r2, c_needThing]
        by_cases ht : thOk x3 x4 = true
        rotate_left
        · simp only [Bool.eq_false_iff.mpr ht, Bool.false_eq_true, if_false, gth_r]; rfl
        · obtain ⟨j, j1, rfl⟩ := nI_of2 (n := 24) (by decide) r1 r2
          simp only [ht, if_true, gth_l, nI_clamp (show j < 2 ^ 31 by omega)]
          obtain ⟨⟨p1, p2, -⟩, ⟨p6, p7⟩, -⟩ := id hr.1
          obtain ⟨S2, q1, q2, q3, q4, q5, q6, q7, q8, q9, q10⟩ := e_initC (S := gnw S hs 2 0) (a := hs) (kd := 99) (n := nI j) (k := x3) (m := x4) (by rw [gT_gnw, if_pos rfl]) (by decide)
          have g : gOne hs S S2 := gOne.new.tr q2
          have h2 := g.rcp hr
          have h14 : gT S2 (b + 1) = 14 := h2.1.2.1.1
          have z12 : gZ S2 (b + 1) = 12 := h2.1.2.1.2
          have h3 := Rcp.slot (s := s) (a := hs) (x := (99, j, none, x3, x4, false)) h2 (show (99 : Int32) ≠ 45 by decide) q3 q4 q5 q6 q7 (fun _ => ⟨q8, q9, q10⟩)
          rw [gfR_at p1, p2]
          have gp : gpn S2 (some hs) = true := by simp [gpn, q3]
          simp (disch := first | assumption | omega) only [Option.bind_some, q1, gp, gck_t, saR]
          refine ⟨_, _, rfl, by omega, WF_slot hw h4 ?_ (fun _ _ => thOk_in ht) ⟨by show (99 : Int32) ≠ 108; decide, by show (99 : Int32) ≠ 109; decide⟩, by show npA A ≤ k + 1; omega, pa, ch, h3.mono (by omega) (by omega)⟩
          refine ⟨fun _ => ⟨rfl, j1, fun e => absurd e (by show (99 : Int32) ≠ 101; decide)⟩, fun e => absurd e (by simp [isC, sK]), by simp [sK], fun e => absurd e (by simp [sK]), fun e => absurd e (by simp [sK]), fun _ => rfl, fun e => absurd e (by simp [sK]), fun e => absurd e (by simp [sK]), fun e => absurd e (by simp [sK])⟩
end CNew
