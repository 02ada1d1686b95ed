theorem Rcp.mono {b k k' hs : Nat} {pa ch : Nat → Nat} {S : GS} {A : AS} (h : Rcp b k pa ch S hs A) (h1 : k ≤ k') (h2 : k' ≤ 600) : Rcp b k' pa ch S hs A := by
  obtain ⟨r1, r2, r3, r4, r5, r6, r7, r8, r9⟩ := h
  exact ⟨r1, fun j hj => ⟨(r2 j hj).1, (r2 j hj).2.1, (r2 j hj).2.2.1, by have := (r2 j hj).2.2.2; omega⟩, r3, r4, r5, r6, r7, r8, h2⟩
theorem Rcp.ext {b k hs : Nat} {pa ch : Nat → Nat} {S : GS} {A B : AS} (h : Rcp b k pa ch S hs A) (e1 : ∀ j, j < 4 → rwA B j = rwA A j) (e2 : ∀ s, s < 12 → slA B s = slA A s) (e3 : npA B = npA A) (e4 : ∀ p, p < npA A → ptA B p = ptA A p) : Rcp b k pa ch S hs B := by
  obtain ⟨r1, r2, r3, r4, r5, r6, r7⟩ := h
  refine ⟨r1, fun j hj => by rw [e1 j hj]; exact r2 j hj, r3, fun s hs => by rw [e2 s hs]; exact r4 s hs, fun p hp hg => ?_, fun p q hp hq hg hh => ?_, r7⟩
  · rw [e3] at hp
    rw [e4 p hp] at hg ⊢
    exact r5 p hp hg
  · rw [e3] at hp hq
    rw [e4 p hp] at hg
    rw [e4 q hq] at hh
    exact r6 p q hp hq hg hh
/-- chains go down, through parts that stand -/
def wC (A : AS) : Prop := ∀ p, p < npA A → pG (ptA A p) = false → ∀ q, pA (ptA A p) = some q → q < p ∧ pG (ptA A q) = false ∧ pL (ptA A q) = pL (ptA A p)
def wS (A : AS) : Prop := ∀ s, s < 12 → sK (slA A s) ≠ 45 → ∀ p, sP (slA A s) = some p → p < npA A ∧ pG (ptA A p) = false ∧ pL (ptA A p) = sR (slA A s) ∧ isC (slA A s) = false
def okP (A : AS) (j : Nat) (o : Option Nat) : Prop := ∀ p, o = some p → p < npA A ∧ pG (ptA A p) = false ∧ pL (ptA A p) = j
theorem WF.wC {A : AS} (h : WF A) : wC A := fun p hp hg q hq => by
  obtain ⟨w1, w2, w3⟩ := h.2.2.2.2.2.1 p hp hg
  obtain ⟨x1, x2, x3, -⟩ := w3 q hq
  exact ⟨x1, x2, x3⟩
theorem WF.wS {A : AS} (h : WF A) : wS A := fun s hs hk p hp => by
  obtain ⟨v1, v2, -⟩ := h.2.1 s hs hk
  cases hC : isC (slA A s) with
  | true => have := (v1 hC).1; rw [this] at hp; cases hp
  | false => obtain ⟨g1, g2, g3, -⟩ := (v2 hC).2 p hp; exact ⟨g1, g2, g3, rfl⟩
def isC2 (A : AS) : Option Nat → List Nat → Prop
  | o, [] => o = none
  | o, p :: l => o = some p ∧ isC2 A (pA (ptA A p)) l
theorem chn_is {A : AS} {j : Nat} (hw : wC A) : ∀ (n : Nat) (o : Option Nat), okP A j o → (∀ p, o = some p → p < n) → isC2 A o (chn A n o) ∧ (∀ q ∈ chn A n o, q < n ∧ q < npA A ∧ pG (ptA A q) = false ∧ pL (ptA A q) = j) ∧ (chn A n o).Nodup ∧ (chn A n o).length ≤ n := by
  intro n
  induction n with
  | zero =>
    intro o _ h
    cases o with
    | none => exact ⟨rfl, fun q hq => (by cases hq), List.nodup_nil, Nat.le_refl _⟩
    | some p => have := h p rfl; omega
  | succ n ih =>
    intro o hok h
    cases o with
    | none => exact ⟨rfl, fun q hq => (by cases hq), List.nodup_nil, Nat.zero_le _⟩
    | some p =>
      obtain ⟨o1, o2, o3⟩ := hok p rfl
      have hp := h p rfl
      have hx := hw p o1 o2
      obtain ⟨i1, i2, i3, i4⟩ := ih (pA (ptA A p)) (fun q hq => by obtain ⟨x1, x2, x3⟩ := hx q hq; exact ⟨by omega, x2, by omega⟩) (fun q hq => by have := (hx q hq).1; omega)
      rw [chn]
      refine ⟨⟨rfl, i1⟩, fun q hq => ?_, List.nodup_cons.mpr ⟨fun hm => ?_, i3⟩, by simp only [List.length_cons]; omega⟩
      · rcases List.mem_cons.mp hq with rfl | hq
        · exact ⟨hp, o1, o2, o3⟩
        · obtain ⟨y1, y2⟩ := i2 q hq
          exact ⟨by omega, y2⟩
      · -- the tail holds smaller ones alone
        cases hn : pA (ptA A p) with
        | none => rw [hn] at hm; cases n <;> cases hm
        | some r =>
          obtain ⟨x1, x2, x3⟩ := hx r hn
          have key : ∀ (m : Nat) (r : Nat), okP A j (some r) → ∀ q ∈ chn A m (some r), q ≤ r := by
            intro m
            induction m with
            | zero => intro r _ q hq; cases hq
            | succ m im =>
              intro r hr q hq
              obtain ⟨z1, z2, z3⟩ := hr r rfl
              rw [chn] at hq
              rcases List.mem_cons.mp hq with rfl | hq
              · exact Nat.le_refl _
              · cases hn2 : pA (ptA A r) with
                | none => rw [hn2] at hq; cases m <;> cases hq
                | some t =>
                  rw [hn2] at hq
                  obtain ⟨y1, y2, y3⟩ := hw r z1 z2 t hn2
                  have := im t (fun p hp => by cases hp; exact ⟨by omega, y2, by omega⟩) q hq
                  omega
          rw [hn] at hm
          have := key n r (fun p hp => by cases hp; exact ⟨by omega, x2, by omega⟩) p hm
          omega
theorem c_let15 {b st : Nat} {pa : Nat → Nat} {A : AS} {c : Int32} : ∀ (l : List Nat) (o : Option Nat) (T : GS) (n : Nat), isC2 A o l → (∀ q ∈ l, gT T (pa q) = 3 ∧ gR T (pa q) 0 = (pA (ptA A q)).map pa) → gT T st = 4 → gI T st 5 = c → l.length < n →
    f_X4_letPartsGo_L15 b n T (some st) (o.map pa) = f_X4_letPartsGo_L37 b gN (wPs pa 3 (fun _ => c) l T) (some st) 4 := by
  intro l
  induction l with
  | nil =>
    intro o T n h1 h2 h3 h4 h5
    obtain ⟨n, rfl⟩ : ∃ k, n = k + 1 := ⟨n - 1, by omega⟩
    have h1 : o = none := h1
    subst h1
    rw [f_X4_letPartsGo_L15]
    simp only [Option.map_none, if_true, wPs]
  | cons p l ih =>
    intro o T n h1 h2 h3 h4 h5
    obtain ⟨n, rfl⟩ : ∃ k, n = k + 1 := ⟨n - 1, by omega⟩
    obtain ⟨rfl, h1⟩ := h1
    obtain ⟨g1, g2⟩ := h2 p List.mem_cons_self
    rw [f_X4_letPartsGo_L15]
    simp only [Option.map_some, reduceCtorEq, if_false, gfI_at h3, h4, Option.bind_some, gsfI_at g1, wPs]
    rw [gfR_at (S := gsI T (pa p) 3 c) g1, Option.bind_some, gR_gsI, g2]
    refine ih _ _ n h1 (fun q hq => h2 q (List.mem_cons_of_mem _ hq)) h3 ?_ (by simp only [List.length_cons] at h5; omega)
    rw [gI_gsI, if_neg]
    · exact h4
    · rintro ⟨e, -⟩
      rw [e] at h3
      omega
/-- the slots' turn -/
theorem c_let37 {b st : Nat} {g : Nat → Bool} : ∀ (d i : Nat) (T : GS) (n : Nat), i + d = 12 → 4 ≤ i → d < n → gT T b = 5 → gR T b 0 = some (b + 1) → gT T (b + 1) = 14 → gZ T (b + 1) = 12 → gT T st = 4 →
    (∀ s, i ≤ s → s < 12 → (gR T (b + 1) s = none ∧ g s = false) ∨ ∃ a, gR T (b + 1) s = some a ∧ gT T a = 2 ∧ ((gR T a 2 ≠ some st ∧ g s = false) ∨ (gR T a 2 = some st ∧ ((gR T a 3 = none ∧ g s = false) ∨ ∃ q, gR T a 3 = some q ∧ gT T q = 3 ∧ g s = !decide (gI T q 3 = gI T st 5))))) →
    ∃ T', f_X4_letPartsGo_L37 b n T (some st) (nI i) = some T' ∧ (∀ a k, gI T' a k = gI T a k) ∧ (∀ a, gT T' a = gT T a) ∧ (∀ a, gZ T' a = gZ T a) ∧ (∀ a k, a ≠ b + 1 → gR T' a k = gR T a k) ∧ ∀ s, gR T' (b + 1) s = if (i ≤ s ∧ s < 12) ∧ g s = true then none else gR T (b + 1) s := by
  intro d
  induction d with
  | zero =>
    intro i T n h1 h2 h3 k1 k2 k3 k4 k5 hg
    obtain ⟨n, rfl⟩ : ∃ k, n = k + 1 := ⟨n - 1, by omega⟩
    have q : (12 ≤ i) = True := eq_true (by omega)
    refine ⟨T, ?_, fun _ _ => rfl, fun _ => rfl, fun _ => rfl, fun _ _ _ => rfl, fun s => by rw [if_neg (by omega)]⟩
    rw [f_X4_letPartsGo_L37, n_12]
    simp (disch := omega) only [nI_leI, q, if_true]
  | succ d ih =>
    intro i T n h1 h2 h3 k1 k2 k3 k4 k5 hg
    obtain ⟨n, rfl⟩ : ∃ k, n = k + 1 := ⟨n - 1, by omega⟩
    have q : (12 ≤ i) = False := eq_false (by omega)
    -- this slot stays
    have stay : g i = false → ∃ T', f_X4_letPartsGo_L37 b n T (some st) (nI (i + 1)) = some T' ∧ (∀ a k, gI T' a k = gI T a k) ∧ (∀ a, gT T' a = gT T a) ∧ (∀ a, gZ T' a = gZ T a) ∧ (∀ a k, a ≠ b + 1 → gR T' a k = gR T a k) ∧ ∀ s, gR T' (b + 1) s = if (i ≤ s ∧ s < 12) ∧ g s = true then none else gR T (b + 1) s := by
      intro hgi
      obtain ⟨T', x1, x2, x3, x4, x5, x6⟩ := ih (i + 1) T n (by omega) (by omega) (by omega) k1 k2 k3 k4 k5 (fun s hs => hg s (by omega))
      refine ⟨T', x1, x2, x3, x4, x5, fun s => ?_⟩
      rw [x6 s]
      by_cases e : s = i
      · subst e; rw [if_neg (by omega), if_neg (by simp [hgi])]
      · by_cases e2 : (i + 1 ≤ s ∧ s < 12) ∧ g s = true
        · rw [if_pos e2, if_pos ⟨by omega, e2.2⟩]
        · rw [if_neg e2, if_neg (fun z => e2 ⟨by omega, z.2⟩)]
    rw [f_X4_letPartsGo_L37, n_12]
    simp (disch := first | assumption | omega) only [nI_leI, q, if_false, gfR_at, k2, Option.bind_some, aR, f_X4_letPartsGo_b95, nI_1]
    rcases hg i (Nat.le_refl _) (by omega) with ⟨e1, e2⟩ | ⟨a, e1, e2, e3⟩
    · rw [e1]
      simp only [if_true]
      exact stay e2
    · rw [e1]
      simp only [reduceCtorEq, if_false, gfR_at e2, Option.bind_some]
      rcases e3 with ⟨e3, e4⟩ | ⟨e3, e4⟩
      · rw [if_neg e3]
        exact stay e4
      · rw [e3]
        simp only [if_true]
        rcases e4 with ⟨e4, e5⟩ | ⟨q2, e4, e5, e6⟩
        · rw [e4]
          simp only [if_true]
          exact stay e5
        · rw [e4]
          simp only [reduceCtorEq, if_false, gfI_at e5, gfI_at k5, Option.bind_some]
          by_cases e7 : gI T q2 3 = gI T st 5
          · rw [if_pos e7]
            exact stay (by rw [e6]; simp [e7])
          · rw [if_neg e7]
            simp (disch := first | assumption | omega) only [saR, Option.bind_some]
            have hgi : g i = true := by rw [e6]; simp [e7]
            obtain ⟨T', x1, x2, x3, x4, x5, x6⟩ := ih (i + 1) (gsR T (b + 1) i none) n (by omega) (by omega) (by omega) k1 (by rw [gR_gsR, if_neg (by omega)]; exact k2) k3 k4 k5 (fun s hs hs2 => by
              rw [gR_gsR, if_neg (by omega)]
              rcases hg s (by omega) hs2 with y | ⟨a, y1, y2, y3⟩
              · exact Or.inl y
              · have na : a ≠ b + 1 := fun z => by rw [z] at y2; omega
                refine Or.inr ⟨a, y1, y2, ?_⟩
                rw [gR_gsR, gR_gsR, if_neg (fun z => na z.1), if_neg (fun z => na z.1)]
                exact y3)
            refine ⟨T', x1, x2, x3, x4, fun a k ha => ?_, fun s => ?_⟩
            · rw [x5 a k ha, gR_gsR, if_neg (fun z => ha z.1)]
            · rw [x6 s, gR_gsR]
              by_cases e : s = i
              · subst e; rw [if_neg (by omega), if_pos ⟨rfl, rfl⟩, if_pos ⟨by omega, hgi⟩]
              · rw [if_neg (show ¬ (b + 1 = b + 1 ∧ s = i) from fun z => e z.2)]
                by_cases e2 : (i + 1 ≤ s ∧ s < 12) ∧ g s = true
                · rw [if_pos e2, if_pos ⟨by omega, e2.2⟩]
                · rw [if_neg e2, if_neg (fun z => e2 ⟨by omega, z.2⟩)]
theorem stB_inj {b i j : Nat} (h : stB b i = stB b j) : i = j := by unfold stB at h; omega
/-- all parts of a list go but a chain -/
theorem c_letGo {b k hs a j : Nat} {pa ch : Nat → Nat} {S : GS} {A : AS} {o : Option Nat} (h : Rcp b k pa ch S hs A) (hC : wC A) (hS : wS A) (hk : k < 600) (hj : j < 4) (ho : okP A j o) (ha : gT S a = 2) (ha3 : gR S a 3 = o.map pa) (hnp : npA A ≤ 600) :
    ∃ S', f_X4_letPartsGo S b (some a) (some (stB b j)) = some S' ∧ Rcp b (k + 1) pa (upf ch j (ch j + 1)) S' hs (aLet A j o) ∧ (∀ x i, gT S x = 2 → gR S' x i = gR S x i) ∧ (∀ x, gT S' x = gT S x) ∧ ∀ s, gR S' (b + 1) s = gR S (b + 1) s ∨ gR S' (b + 1) s = none := by
  obtain ⟨r1, r2, ⟨⟨L1, r3⟩, L2, r3'⟩, r4, r5, r6, r7, r8, r9⟩ := h
  obtain ⟨s1, s2, s3, s4⟩ := r2 j hj
  have hst := s1.1.1
  obtain ⟨i1, i2, i3, i4⟩ := chn_is hC (npA A) o ho (fun p hp => (ho p hp).1)
  obtain ⟨⟨p1, p2, p3, p4, p5⟩, ⟨p6, p7⟩, ⟨p8, p9⟩, ⟨p10, p11, p12⟩, p13, p14, p15, p16⟩ := id r1
  have h3p : ∀ q, q < npA A → pG (ptA A q) = false → gT S (pa q) = 3 := fun q h1 h2 => (r5 q h1 h2).1
  generalize hl : chn A (npA A) o = l at i1 i2 i3 i4
  have hlA : chA A o = l := hl
  -- behind the first loop
  generalize hT1 : gsI S (stB b j) 5 (nI (ch j + 1)) = T1
  have t1R : ∀ a i, gR T1 a i = gR S a i := fun a i => by rw [← hT1]; rfl
  have t1T : ∀ a, gT T1 a = gT S a := fun a => by rw [← hT1]; rfl
  have t1Z : ∀ a, gZ T1 a = gZ S a := fun a => by rw [← hT1]; rfl
  have t1I : ∀ a i, gI T1 a i = if a = stB b j ∧ i = 5 then nI (ch j + 1) else gI S a i := fun a i => by rw [← hT1, gI_gsI]
  obtain ⟨wR, wT, wZ⟩ := wPs_r (pa := pa) (k := 3) (f := fun _ => nI (ch j + 1)) l T1
  have x15 := c_let15 (b := b) (st := stB b j) (pa := pa) (A := A) (c := nI (ch j + 1)) l o T1 gN i1 (fun q hq => by
    obtain ⟨-, y1, y2, -⟩ := i2 q hq
    obtain ⟨d1, d2, -⟩ := r5 q y1 y2
    exact ⟨by rw [t1T]; exact d1, by rw [t1R]; exact d2⟩) (by rw [t1T]; exact hst) (by rw [t1I, if_pos ⟨rfl, rfl⟩]) (by simp only [gN]; omega)
  generalize hT2 : wPs pa 3 (fun _ => nI (ch j + 1)) l T1 = T2 at x15 wR wT wZ
  have t2in : ∀ q, q < npA A → pG (ptA A q) = false → q ∈ l → gI T2 (pa q) 3 = nI (ch j + 1) := fun q h1 h2 hq => by
    rw [← hT2]
    exact wPs_at l T1 i3 (fun r hr e => by obtain ⟨-, y1, y2, -⟩ := i2 r hr; exact r6 r q y1 h1 y2 h2 e) hq
  have t2no : ∀ a i, (i ≠ 3 ∨ ∀ q ∈ l, pa q ≠ a) → gI T2 a i = gI T1 a i := fun a i hi => by rw [← hT2]; exact wPs_no l T1 hi
  have t2tag : ∀ a i, gT S a ≠ 3 → gI T2 a i = gI T1 a i := fun a i hx => t2no a i (Or.inr fun q hq e => by
    obtain ⟨-, y1, y2, -⟩ := i2 q hq
    exact hx (e ▸ h3p q y1 y2))
  have t2st : gI T2 (stB b j) 5 = nI (ch j + 1) := by rw [t2tag _ _ (by omega), t1I, if_pos ⟨rfl, rfl⟩]
  obtain ⟨T3, y1, y2, y3, y4, y5, y6⟩ := c_let37 (b := b) (st := stB b j) (g := goS A j o) 8 4 T2 gN (by omega) (by omega) (by simp only [gN]; omega) (by rw [wT, t1T]; exact p1) (by rw [wR, t1R]; exact p2) (by rw [wT, t1T]; exact p6) (by rw [wZ, t1Z]; exact p7) (by rw [wT, t1T]; exact hst) (fun s hs hs2 => by
    rw [wR, t1R]
    obtain ⟨c1, c2⟩ := r4 s hs2
    unfold goS
    by_cases hk : sK (slA A s) = 45
    · exact Or.inl ⟨c1 hk, by simp [hk]⟩
    · obtain ⟨a, d1, d2, d3, d4, d5, d6, d7⟩ := c2 hk
      refine Or.inr ⟨a, d1, by rw [wT, t1T]; exact d2, ?_⟩
      rw [wR, wR, t1R, t1R, d5, d6]
      cases hp : sP (slA A s) with
      | none =>
        by_cases hx : (if isC (slA A s) = true then none else some (stB b (sR (slA A s)))) = some (stB b j)
        · exact Or.inr ⟨hx, Or.inl ⟨rfl, by simp⟩⟩
        · exact Or.inl ⟨hx, by simp⟩
      | some p =>
        obtain ⟨z1, z2, z3, z4⟩ := hS s hs2 hk p hp
        rw [z4]
        by_cases hx : sR (slA A s) = j
        · refine Or.inr ⟨by rw [hx]; rfl, Or.inr ⟨pa p, rfl, by rw [wT, t1T]; exact h3p p z1 z2, ?_⟩⟩
          rw [t2st]
          show ((decide (4 ≤ s) && decide (sK (slA A s) ≠ 45)) && goP A j o p) = _
          unfold goP
          rw [hlA, z2, z3]
          by_cases hm : p ∈ l
          · rw [t2in p z1 z2 hm]; simp [hs, hx, hm]
          · have e1 : gI T2 (pa p) 3 = gI S (pa p) 3 := by
              rw [t2no _ _ (Or.inr fun q hq e => hm (by obtain ⟨-, w1, w2, -⟩ := i2 q hq; exact r6 q p w1 z1 w2 z2 e ▸ hq)), t1I, if_neg (by omega)]
            obtain ⟨-, -, -, -, c, c1, c2⟩ := r5 p z1 z2
            rw [z3, hx] at c1
            have e2 : ¬ nI c = nI (ch j + 1) := by rw [nI_eq (by omega) (by omega)]; omega
            rw [e1, c2]; simp [hs, hx, hm, e2, hk]
        · refine Or.inl ⟨fun e => hx (stB_inj (Option.some.inj e)), ?_⟩
          show ((decide (4 ≤ s) && decide (sK (slA A s) ≠ 45)) && goP A j o p) = _
          unfold goP
          rw [z2, z3]; simp [hx])
  refine ⟨T3, ?_, ?_, ?_, ?_, fun s => by
    rw [y6 s, wR, t1R]
    by_cases e : (4 ≤ s ∧ s < 12) ∧ goS A j o s = true
    · exact Or.inr (if_pos e)
    · exact Or.inl (if_neg e)⟩
  · unfold f_X4_letPartsGo
    rw [gfI_at hst, s3, Option.bind_some, nI_1, gsfI_at hst, Option.bind_some, hT1, gfR_at (by rw [t1T]; exact ha), Option.bind_some, t1R, ha3, x15, n_4]
    exact y1
  · have fR : ∀ a i, a ≠ b + 1 → gR T3 a i = gR S a i := fun a i hx => by rw [y5 a i hx, wR, t1R]
    have fT : ∀ a, gT T3 a = gT S a := fun a => by rw [y3, wT, t1T]
    have fZ : ∀ a, gZ T3 a = gZ S a := fun a => by rw [y4, wZ, t1Z]
    have fI : ∀ a i, (i ≠ 3 ∨ gT S a ≠ 3) → i ≠ 5 → gI T3 a i = gI S a i := fun a i h1 h2 => by
      rw [y2]
      rcases h1 with h1 | h1
      · rw [t2no a i (Or.inl h1), t1I, if_neg (fun z => h2 z.2)]
      · rw [t2tag a i h1, t1I, if_neg (fun z => h2 z.2)]
    have fSt : ∀ w L, cSt S w L → cSt T3 w L := fun w L hw => by
      obtain ⟨⟨k1, k2, k3, k4, k5, k6, k7, k8, k9, k10⟩, g2, g3, g4⟩ := hw
      have nw : ∀ x, gT S x = 4 ∨ gT S x = 11 → x ≠ b + 1 := fun x hx e => by rw [e] at hx; omega
      refine ⟨⟨by rw [fT]; exact k1, by rw [fR _ _ (nw _ (Or.inl k1))]; exact k2, by rw [fR _ _ (nw _ (Or.inl k1))]; exact k3, by rw [fR _ _ (nw _ (Or.inl k1))]; exact k4, by rw [fT]; exact k5, by rw [fT]; exact k6, by rw [fT]; exact k7, by rw [fZ]; exact k8, by rw [fZ]; exact k9, by rw [fZ]; exact k10⟩, by rw [fI _ _ (Or.inl (by omega)) (by omega)]; exact g2, g3, fun i hi => ?_⟩
      rw [← g4 i hi]
      unfold trw
      have fJ : ∀ a, gT S a = 11 → gI T3 a i = gI S a i := fun a ha => by
        rw [y2, t2tag a i (by omega), t1I, if_neg (fun z => by rw [z.1] at ha; omega)]
      rw [fJ _ k5, fJ _ k6, fJ _ k7]
    refine ⟨⟨⟨by rw [fT]; exact p1, by rw [fR _ _ (by omega)]; exact p2, by rw [fR _ _ (by omega)]; exact p3, by rw [fR _ _ (by omega)]; exact p4, by rw [fR _ _ (by omega)]; exact p5⟩, ⟨by rw [fT]; exact p6, by rw [fZ]; exact p7⟩, ⟨by rw [fT]; exact p8, by rw [fZ]; exact p9⟩, ⟨by rw [fT]; exact p10, by rw [fR _ _ (by omega)]; exact p11, by rw [fR _ _ (by omega)]; exact p12⟩, by rw [fT]; exact p13, by rw [fI _ _ (Or.inl (by omega)) (by omega)]; exact p14, by rw [fR _ _ (by omega)]; exact p15, by rw [fR _ _ (by omega)]; exact p16⟩,
      fun i hi => ?_, ⟨⟨L1, fSt _ _ r3⟩, L2, fSt _ _ r3'⟩, fun s hs12 => ?_, fun p hp hg => ?_, fun p q hp hq hg hh => ?_, fun x hx => by rw [fT]; exact r7 x hx, r8, by omega⟩
    · obtain ⟨f1, f2, f3, f4⟩ := r2 i hi
      have := f1.1.1
      refine ⟨fSt _ _ f1, by rw [fI _ _ (Or.inr (by omega)) (by omega)]; exact f2, ?_, ?_⟩
      · rw [y2, t2tag _ _ (by omega), t1I]
        by_cases e : i = j
        · subst e; rw [if_pos ⟨rfl, rfl⟩]; simp [upf]
        · rw [if_neg (fun z => e (stB_inj z.1))]; simp only [upf, if_neg e]; exact f3
      · by_cases e : i = j
        · subst e; simp only [upf, if_true]; omega
        · simp only [upf, if_neg e]; omega
    · obtain ⟨c1, c2⟩ := r4 s hs12
      have eS : slA (aLet A j o) s = if goS A j o s = true then nil0 else slA A s := rfl
      rw [eS]
      by_cases hgo : goS A j o s = true
      · rw [if_pos hgo]
        have h4 : 4 ≤ s := by
          unfold goS at hgo
          simp only [Bool.and_eq_true, decide_eq_true_eq] at hgo
          exact hgo.1.1
        exact ⟨fun _ => by rw [y6 s, if_pos ⟨⟨h4, hs12⟩, hgo⟩], fun z => absurd rfl z⟩
      · rw [if_neg hgo]
        have e6 : gR T3 (b + 1) s = gR S (b + 1) s := by rw [y6 s, if_neg (fun z => hgo z.2), wR, t1R]
        rw [e6]
        refine ⟨c1, fun e => ?_⟩
        obtain ⟨a, d1, d2, d3, d4, d5, d6, d7⟩ := c2 e
        have na : a ≠ b + 1 := fun z => by rw [z] at d2; omega
        exact ⟨a, d1, by rw [fT]; exact d2, by rw [fI _ _ (Or.inl (by omega)) (by omega)]; exact d3, by rw [fI _ _ (Or.inl (by omega)) (by omega)]; exact d4, by rw [fR _ _ na]; exact d5, by rw [fR _ _ na]; exact d6, fun e => by
          obtain ⟨z1, z2, z3⟩ := d7 e
          refine ⟨by rw [fI _ _ (Or.inl (by omega)) (by omega)]; exact z1, ?_, by rw [fI _ _ (Or.inl (by omega)) (by omega)]; exact z3⟩
          rw [y2, t2no _ _ (Or.inl (by omega)), t1I, if_neg (fun w => by rw [w.1] at d2; omega)]
          exact z2⟩
    · have eP : ptA (aLet A j o) p = (pL (ptA A p), pA (ptA A p), pF (ptA A p), pZ (ptA A p), goP A j o p) := rfl
      have hp : p < npA A := hp
      rw [eP] at hg ⊢
      have hg : goP A j o p = false := hg
      unfold goP at hg
      simp only [Bool.or_eq_false_iff, Bool.and_eq_false_iff, decide_eq_false_iff_not, Classical.not_not] at hg
      obtain ⟨g1, g2⟩ := hg
      obtain ⟨d1, d2, d3, d4, c, d5, d6⟩ := r5 p hp g1
      have na : pa p ≠ b + 1 := fun z => by rw [z] at d1; omega
      refine ⟨by rw [fT]; exact d1, by rw [fR _ _ na]; exact d2, by rw [fI _ _ (Or.inl (by omega)) (by omega)]; exact d3, by rw [fI _ _ (Or.inl (by omega)) (by omega)]; exact d4, ?_⟩
      rw [y2]
      show ∃ c, c ≤ upf ch j (ch j + 1) (pL (ptA A p)) ∧ _
      by_cases hm : p ∈ l
      · have := (i2 p hm).2.2.2
        exact ⟨ch j + 1, by rw [this]; simp [upf], t2in p hp g1 hm⟩
      · rw [hlA] at g2
        have hne : pL (ptA A p) ≠ j := g2.elim id (fun z => absurd z hm)
        refine ⟨c, by simp only [upf, if_neg hne]; exact d5, ?_⟩
        rw [t2no _ _ (Or.inr fun q hq e => hm (by obtain ⟨-, w1, w2, -⟩ := i2 q hq; exact r6 q p w1 hp w2 g1 e ▸ hq)), t1I, if_neg (by omega)]
        exact d6
    · have f : ∀ p, pG (ptA (aLet A j o) p) = false → pG (ptA A p) = false := fun p hg => by
        have hg : goP A j o p = false := hg
        unfold goP at hg
        simp only [Bool.or_eq_false_iff] at hg
        exact hg.1
      exact r6 p q hp hq (f p hg) (f q hh)
  · intro x i hx
    rw [y5 x i (fun e => by rw [e] at hx; omega), wR, t1R]
  · intro x
    rw [y3, wT, t1T]
