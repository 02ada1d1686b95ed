/-! LOOPS, in general -/
theorem lpG {α β : Type} (F : Nat → α → Int32 → Option β) (I : Nat → α → Prop) (len : Nat) (step : ∀ n c i, i < len → I i c → ∃ c', I (i + 1) c' ∧ F (n + 1) c (nI i) = F n c' (nI (i + 1))) :
    ∀ (d i n : Nat) (c : α), i + d = len → d < n → I i c → ∃ c', I len c' ∧ ∃ m, F n c (nI i) = F (m + 1) c' (nI len) := by
  intro d
  induction d with
  | zero =>
    intro i n c h1 h2 h3
    obtain ⟨n, rfl⟩ : ∃ k, n = k + 1 := ⟨n - 1, by omega⟩
    obtain rfl : i = len := by omega
    exact ⟨c, h3, n, rfl⟩
  | succ d ih =>
    intro i n c h1 h2 h3
    obtain ⟨n, rfl⟩ : ∃ k, n = k + 1 := ⟨n - 1, by omega⟩
    obtain ⟨c', g1, g2⟩ := step n c i (by omega) h3
    obtain ⟨c2, g3, m, g4⟩ := ih (i + 1) n c' (by omega) (by omega) g1
    exact ⟨c2, g3, m, g2.trans g4⟩
/-- from 0 on, at most 4000 times -/
theorem lpG0 {α β : Type} (F : Nat → α → Int32 → Option β) (I : Nat → α → Prop) (len : Nat) (step : ∀ n c i, i < len → I i c → ∃ c', I (i + 1) c' ∧ F (n + 1) c (nI i) = F n c' (nI (i + 1))) (hl : len ≤ 4000) (c : α) (h : I 0 c) :
    ∃ c', I len c' ∧ ∃ m, F gN c 0 = F (m + 1) c' (nI len) := by
  have := lpG F I len step len 0 gN c (by omega) (by simp only [gN]; omega) h
  rw [nI_0] at this
  exact this
theorem take_s {V : List Tr} {i : Nat} (h : i < V.length) : V.take (i + 1) = V.take i ++ [V.getD i tz] := by
  rw [List.take_succ, gd_eq, List.getElem?_eq_getElem h]
  rfl
theorem lpF {α β : Type} (F : Nat → α → Int32 → Option β) (V : List Tr) (g : α → Tr → α) (E : α → Option β) (h24 : V.length ≤ 4000) (h0 : ∀ n c, F (n + 1) c (nI V.length) = E c) (h1 : ∀ n c i, i < V.length → F (n + 1) c (nI i) = F n (g c (V.getD i tz)) (nI (i + 1))) (c0 : α) : F gN c0 0 = E (V.foldl g c0) := by
  obtain ⟨c', g1, m, g2⟩ := lpG0 F (fun i c => c = (V.take i).foldl g c0) V.length (fun n c i hi hc => ⟨g c (V.getD i tz), by rw [take_s hi, List.foldl_append, ← hc]; rfl, h1 n c i hi⟩) h24 c0 rfl
  rw [g2, h0, g1, List.take_length]
theorem lpS {β : Type} (F : Nat → Int32 → Option β) (q : Tr → Bool) (V : List Tr) (E : Int32 → Option β) (h24 : V.length ≤ 4000) (h0 : ∀ n, F (n + 1) (nI V.length) = E (-1)) (h1 : ∀ n i, i < V.length → F (n + 1) (nI i) = if q (V.getD i tz) = true then E (nI i) else F n (nI (i + 1))) : F gN 0 = E (fIdx q V 0) := by
  have key : ∀ (l : List Tr) (i n : Nat), V.drop i = l → l.length < n → i ≤ V.length → F n (nI i) = E (fIdx q l i) := by
    intro l
    induction l with
    | nil =>
      intro i n g1 g2 g3
      obtain ⟨n, rfl⟩ : ∃ k, n = k + 1 := ⟨n - 1, by omega⟩
      have : i = V.length := by have := gd_nil g1; omega
      subst this
      exact h0 n
    | cons t l ih =>
      intro i n g1 g2 g3
      obtain ⟨n, rfl⟩ : ∃ k, n = k + 1 := ⟨n - 1, by omega⟩
      obtain ⟨a1, a2, a3⟩ := gd_cons g1
      rw [h1 n i a1, a2]
      unfold fIdx
      by_cases e : q t = true
      · rw [if_pos e, if_pos e]
      · rw [if_neg e, if_neg e]
        exact ih (i + 1) n a3 (by simp only [List.length_cons] at g2; omega) (by omega)
  have := key V 0 gN rfl (by simp only [gN]; omega) (Nat.zero_le _)
  rw [nI_0] at this
  exact this
theorem foldl_or {p : Tr → Bool} : ∀ (l : List Tr) (b : Bool), l.foldl (fun c t => c || p t) b = (b || l.any p) := by
  intro l
  induction l with
  | nil => intro b; simp
  | cons t l ih => intro b; rw [List.foldl_cons, ih, List.any_cons, Bool.or_assoc]
theorem foldl_and {p : Tr → Bool} : ∀ (l : List Tr) (b : Bool), l.foldl (fun c t => c && p t) b = (b && l.all p) := by
  intro l
  induction l with
  | nil => intro b; simp
  | cons t l ih => intro b; rw [List.foldl_cons, ih, List.all_cons, Bool.and_assoc]
theorem foldl_cnt {p : Tr → Bool} : ∀ (l : List Tr) (n : Nat), l.foldl (fun c t => c + (if p t = true then 1 else 0)) n = n + l.countP p := by
  intro l
  induction l with
  | nil => intro b; rfl
  | cons t l ih => intro b; rw [List.foldl_cons, ih, List.countP_cons]; omega
/-- found just where some thing holds -/
theorem fIdx_any {q : Tr → Bool} {l : List Tr} (h : l.length < 2 ^ 31) : (fIdx q l 0 < 0) ↔ l.any q = false := by
  rcases fIdx_find q (M := l) l 0 rfl with ⟨e1, e2⟩ | ⟨j, e0, e1, e2⟩
  · rw [e2]
    refine ⟨fun _ => ?_, fun _ => by decide⟩
    have := List.find?_eq_none.mp e1
    rw [List.any_eq_false]
    exact this
  · rw [e1]
    refine ⟨fun z => absurd z (nI_pos (by omega)), fun z => ?_⟩
    have h2 := List.find?_some e2
    have h3 := List.mem_of_find?_eq_some e2
    rw [List.any_eq_false] at z
    exact absurd h2 (z _ h3)
section RLoop
variable {S : GS} {r cap hs s t : Nat} {dq : Nat → Nat} {A : AS} {V M : List Tr}
theorem r_alike (h : rVw S r s V) {i : Nat} (hi : i < V.length) (k m : Int32) : f_X5_isAlike S r (nI s) (nI i) k m = some (b2i (isT k m (V.getD i tz))) := by
  obtain ⟨h1, h2, h3, h4⟩ := h
  obtain ⟨g1, g2⟩ := h4 i hi
  simp only [f_X5_isAlike, h1, beq_self_eq_true, gck_t, g1, g2, Option.bind_some]
  exact isT_if ..
theorem r_hashAt (h : rVw S r s V) {i : Nat} (hi : i < V.length) : f_X5_hashAt S r (nI s) (nI i) = some (hsh (V.getD i tz)) := by
  obtain ⟨h1, h2, h3, h4⟩ := h
  obtain ⟨g1, g2⟩ := h4 i hi
  simp only [f_X5_hashAt, h1, beq_self_eq_true, gck_t, g1, g2, Option.bind_some, hsh]
theorem b2i_1 : ((1 : Int32) = 0) = False := by decide
theorem r_has (h : rVw S r s V) (k m : Int32) : f_X5_has S r (nI s) k m = some (b2i (V.any (isT k m))) := by
  have h24 := h.2.2.1
  have := lpF (F := fun n (c : Bool) i => f_X5_has_L6 S r n (nI s) k m (b2i c) i) V (fun c t => c || isT k m t) (fun c => some (b2i c)) (by omega) (fun n c => by
      simp only [f_X5_has_L6, h.1, beq_self_eq_true, gck_t, h.2.1, Option.bind_some, Int32.le_refl, if_true, b2i_n]) (fun n c i hi => by
      have q : (V.length ≤ i) = False := eq_false (by omega)
      simp (disch := omega) only [f_X5_has_L6, f_X5_has_b33, f_X5_has_b38, h.1, beq_self_eq_true, gck_t, h.2.1, Option.bind_some, nI_leI, q, if_false, b2i_0, r_alike h hi, nI_1]
      cases c
      · simp only [if_true, Bool.false_or]
        cases isT k m (V.getD i tz) <;> simp [b2i]
      · simp [b2i]) false
  rw [foldl_or, Bool.false_or] at this
  exact this
theorem r_firstOf (h : rVw S r s V) (k m : Int32) : f_X5_firstOf S r (nI s) k m = some (fIdx (isT k m) V 0) := by
  have h24 := h.2.2.1
  refine lpS (F := fun n i => f_X5_firstOf_L3 S r n (nI s) k m i) (isT k m) V (fun v => some v) (by omega) (fun n => ?_) (fun n i hi => ?_)
  · simp only [f_X5_firstOf_L3, h.1, beq_self_eq_true, gck_t, h.2.1, Option.bind_some, Int32.le_refl, if_true]
  · have q : (V.length ≤ i) = False := eq_false (by omega)
    simp (disch := omega) only [f_X5_firstOf_L3, h.1, beq_self_eq_true, gck_t, h.2.1, Option.bind_some, nI_leI, q, if_false, b2i_0, r_alike h hi, nI_1]
    cases isT k m (V.getD i tz) <;> simp
/-- no two are alike, as the reference sees it -/
def unl (V : List Tr) : List Tr → Nat → Bool → Bool
  | [], _, c => c
  | t :: l, i, c => unl V l (i + 1) (c && decide (fIdx (isT t.2.1 t.2.2) V 0 = nI i))
theorem r_unlL (h : rVw S r s V) : ∀ (l : List Tr) (i n : Nat) (c : Bool), V.drop i = l → l.length < n → i ≤ V.length → f_X5_areUnlike_L4 S r n (nI s) (b2i c) (nI i) = some (b2i (unl V l i c)) := by
  have h24 := h.2.2.1
  intro l
  induction l with
  | nil =>
    intro i n c h1 h2 h4
    obtain ⟨n, rfl⟩ : ∃ k, n = k + 1 := ⟨n - 1, by omega⟩
    have q : (V.length ≤ i) = True := eq_true (gd_nil h1)
    simp (disch := omega) only [f_X5_areUnlike_L4, h.1, beq_self_eq_true, gck_t, h.2.1, Option.bind_some, nI_leI, q, if_true, b2i_n, unl]
  | cons t l ih =>
    intro i n c h1 h2 h4
    obtain ⟨n, rfl⟩ : ∃ k, n = k + 1 := ⟨n - 1, by omega⟩
    obtain ⟨a1, a2, a3⟩ := gd_cons h1
    obtain ⟨b1, b2⟩ := h.2.2.2 i a1
    rw [a2] at b1 b2
    have q : (V.length ≤ i) = False := eq_false (by omega)
    have ih2 := fun c => ih (i + 1) n c a3 (by simp only [List.length_cons] at h2; omega) (by omega)
    simp (disch := omega) only [f_X5_areUnlike_L4, f_X5_areUnlike_b42, f_X5_areUnlike_b43, h.1, beq_self_eq_true, gck_t, h.2.1, Option.bind_some, nI_leI, q, if_false, b2i_0, b1, b2, r_firstOf h, nI_1, unl]
    cases c
    · simp only [if_true, Bool.false_and]
      exact ih2 false
    · simp only [Bool.true_eq_false, if_false, Bool.true_and]
      by_cases e : fIdx (isT t.2.1 t.2.2) V 0 = nI i
      · rw [if_pos e, decide_eq_true e]; exact ih2 true
      · rw [if_neg e, decide_eq_false e]; exact ih2 false
theorem r_areUnlike (h : rVw S r s V) : f_X5_areUnlike S r (nI s) = some (b2i (unl V V 0 true)) := by
  have h24 := h.2.2.1
  have := r_unlL h V 0 gN true rfl (by simp only [gN]; omega) (Nat.zero_le _)
  rw [nI_0] at this
  exact this
theorem r_standsL (h : rVw S r s V) (g : rVw S r t M) {p : Nat} (hp : p + M.length ≤ V.length) : ∀ (l : List Tr) (i n : Nat) (c : Bool), M.drop i = l → l.length < n → i ≤ M.length → f_X5_standsAt_L6 S r n (nI s) (nI t) (nI p) (b2i c) (nI i) = some (b2i (c && alk (V.drop (p + i)) l)) := by
  have h24 := h.2.2.1
  intro l
  induction l with
  | nil =>
    intro i n c h1 h2 h4
    obtain ⟨n, rfl⟩ : ∃ k, n = k + 1 := ⟨n - 1, by omega⟩
    have q : (M.length ≤ i) = True := eq_true (gd_nil h1)
    simp (disch := omega) only [f_X5_standsAt_L6, h.1, beq_self_eq_true, gck_t, g.2.1, Option.bind_some, nI_leI, q, if_true, b2i_n, alk, Bool.and_true]
  | cons u l ih =>
    intro i n c h1 h2 h4
    obtain ⟨n, rfl⟩ : ∃ k, n = k + 1 := ⟨n - 1, by omega⟩
    obtain ⟨a1, a2, a3⟩ := gd_cons h1
    obtain ⟨b1, b2⟩ := g.2.2.2 i a1
    rw [a2] at b1 b2
    have q : (M.length ≤ i) = False := eq_false (by omega)
    have e0 : V.drop (p + i) = V.getD (p + i) tz :: V.drop (p + (i + 1)) := by
      rw [List.drop_eq_getElem_cons (by omega), gd_eq, List.getElem?_eq_getElem (by omega)]
      rfl
    have ih2 := fun c => ih (i + 1) n c a3 (by simp only [List.length_cons] at h2; omega) (by omega)
    simp (disch := omega) only [f_X5_standsAt_L6, f_X5_standsAt_b51, f_X5_standsAt_b52, h.1, beq_self_eq_true, gck_t, g.2.1, Option.bind_some, nI_leI, q, if_false, b2i_0, b1, b2, nI_add, r_alike h (show p + i < V.length by omega), nI_1, e0, alk]
    cases c
    · simp only [if_true, Bool.false_and]
      have := ih2 false
      rw [Bool.false_and] at this
      exact this
    · simp only [Bool.true_eq_false, if_false, Bool.true_and]
      cases isT u.2.1 u.2.2 (V.getD (p + i) tz)
      · simp only [if_true, Bool.false_eq_true, if_false]
        have := ih2 false
        rw [Bool.false_and] at this
        exact this
      · simp only [Bool.true_eq_false, if_true, if_false]
        have := ih2 true
        rw [Bool.true_and] at this
        exact this
theorem r_stands (h : rVw S r s V) (g : rVw S r t M) {p : Nat} (hp : p + M.length ≤ V.length) : f_X5_standsAt S r (nI s) (nI t) (nI p) = some (b2i (alk (V.drop p) M)) := by
  have h24 := h.2.2.1
  have := r_standsL h g hp M 0 gN true rfl (by simp only [gN]; omega) (Nat.zero_le _)
  rw [nI_0, Bool.true_and] at this
  exact this
/-- numbers of a row of a map -/
def rNj (S : GS) (r j : Nat) (V : List Tr) : Prop := V.length ≤ 24 ∧ gaI S (some (r + 17)) 11 (nI j) = some (nI V.length) ∧ gaR S (some (r + 8)) 15 (nI j) = some (some (r + (9 + j))) ∧ ∀ i, i < V.length → gaI S (some (r + (9 + j))) 11 (nI i) = some (V.getD i tz).1
theorem Rq.nj (h : Rq r dq cap S hs A) (hw : WF A) {j : Nat} (hj : j < 2) : rNj S r j (rwA A (2 + j)) := by
  have h24 := (hw.1 (2 + j) (by omega)).1
  obtain ⟨m1, m2⟩ := h.2.2.2.1 j hj
  exact ⟨h24, by rw [h.1.rs.2.2.2.2.2.2.2.1 _ hj, m1], h.1.ro.2.2.1 _ hj, fun i hi => by rw [h.1.rb.2.2.1 _ _ hj (by omega), (m2 i hi).1]⟩
theorem r_placeOfNumber (hd : rHd S r dq cap) {j : Nat} (h : rNj S r j V) (x : Int32) : f_X5_placeOfNumber S r (nI j) x = some (fIdx (fun t => t.1 == x) V 0) := by
  obtain ⟨h24, h1, h2, h3⟩ := h
  refine lpS (F := fun n i => f_X5_placeOfNumber_L2 S r n (nI j) x i) (fun t => t.1 == x) V (fun v => some v) (by omega) (fun n => ?_) (fun n i hi => ?_)
  · simp only [f_X5_placeOfNumber_L2, hd.fs, h1, Option.bind_some, Int32.le_refl, if_true]
  · have q : (V.length ≤ i) = False := eq_false (by omega)
    simp (disch := omega) only [f_X5_placeOfNumber_L2, hd.fs, h1, h2, h3 i hi, Option.bind_some, nI_leI, q, if_false, nI_1, beq_iff_eq]
/-- a slot that looks on a map: its row's number -/
theorem Rq.ref (h : Rq r dq cap S hs A) (hw : WF A) (hs12 : s < 12) (hk : (kMp (kA A s) || kA A s == 107) = true ∨ kA A s = 118) : ∃ j, j < 2 ∧ sR (slA A s) = 2 + j ∧ gaI S (some (r + 24)) 11 (nI s) = some (nI j) ∧ vw A s = rwA A (2 + j) ∧ kA A s ≠ 45 := by
  have hm : sK (slA A s) = 109 ∨ sK (slA A s) = 70 ∨ sK (slA A s) = 107 ∨ sK (slA A s) = 118 := by
    rcases hk with h | h
    · exact kMp_or h
    · exact Or.inr (Or.inr (Or.inr h))
  obtain ⟨l1, l2, l3, l4, l5, l6⟩ := map_facts hw hs12 hm
  have hk45 : kA A s ≠ 45 := by
    show sK (slA A s) ≠ 45
    rcases hm with e | e | e | e <;> (rw [e]; decide)
  obtain ⟨x1, x2⟩ := h.2.2.2.2.1 s hs12
  obtain ⟨y1, y2, y3⟩ := x2 hk45
  have e1 : rIx (slA A s) = sR (slA A s) - 2 := by unfold rIx; rw [if_neg (by omega)]
  refine ⟨sR (slA A s) - 2, by omega, by omega, ?_, ?_, hk45⟩
  · rw [h.1.rs.2.1 s hs12, (y3 l3).1, e1]
  · rw [l6]; exact congrArg (rwA A) (by omega)
/-- the walk -/
theorem r_walk1 (h : Rq r dq cap S hs A) (hw : WF A) (hs12 : s < 12) (hk : kA A s ≠ 45) {k6 : Int32 → Int32 → Int64 → Int32 → Option Int64} {x4 x7 : Int32} {c : Int64} {i : Nat} (hi : i < (vw A s).length) :
    f_X5_walked_b36 k6 S r (nI s) x4 c x7 (nI i) = k6 (nI s) x4 (wst (kA A s) c ((vw A s).getD i tz)) (x7 + 1) := by
  have hv := h.see hw hs12 hk
  simp only [f_X5_walked_b36, f_X5_walked_b70, f_X5_walked_b95, h.1.1, beq_self_eq_true, gck_t, r_hasNumbers h hs12, r_isKeys h hs12, Option.bind_some, b2i_0, r_hashAt hv hi]
  unfold wst
  cases hn : (kMp (kA A s) || kA A s == 107)
  · simp only [Bool.or_eq_false_iff, beq_eq_false_iff_ne] at hn
    obtain ⟨n1, n2⟩ := hn
    have : (kA A s == 107) = false := beq_eq_false_iff_ne.mpr n2
    simp only [if_true, this, n2, n1, if_false, Bool.false_eq_true]
  · obtain ⟨j, q1, q2, q3, q4, q5⟩ := h.ref hw hs12 (Or.inl hn)
    have hj := h.nj hw q1
    rw [← q4] at hj
    simp only [Bool.true_eq_false, if_false, h.1.fs, q3, Option.bind_some, hj.2.2.1, hj.2.2.2 i hi]
    by_cases e : kA A s = 107
    · simp [e]
    · have e2 : kMp (kA A s) = true := by
        rcases (Bool.or_eq_true _ _).mp hn with z | z
        · exact z
        · exact absurd (eq_of_beq z) e
      simp [e, e2]
theorem r_walked (h : Rq r dq cap S hs A) (hw : WF A) (hs12 : s < 12) (hk : kA A s ≠ 45) (c : Int64) (w : Int32) : f_X5_walked S r c (nI s) w = some (wlk (kA A s) c w (vw A s)) := by
  have hv := h.see hw hs12 hk
  have h24 := hv.2.2.1
  unfold f_X5_walked wlk
  by_cases e : w = 0
  · rw [if_pos e]
    exact lpF (F := fun n c i => f_X5_walked_L6 S r n (nI s) w c i) (vw A s) (wst (kA A s)) (fun c => some c) (by omega) (fun n c => by
      simp only [f_X5_walked_L6, hv.1, beq_self_eq_true, gck_t, hv.2.1, Option.bind_some, Int32.le_refl, if_true]) (fun n c i hi => by
      have q : ((vw A s).length ≤ i) = False := eq_false (by omega)
      simp (disch := omega) only [f_X5_walked_L6, hv.1, beq_self_eq_true, gck_t, hv.2.1, Option.bind_some, nI_leI, q, if_false, e, if_true, r_walk1 h hw hs12 hk hi, nI_1]) c
  · rw [if_neg e]
    have hl : (vw A s).reverse.length = (vw A s).length := List.length_reverse
    exact lpF (F := fun n c i => f_X5_walked_L6 S r n (nI s) w c i) (vw A s).reverse (wst (kA A s)) (fun c => some c) (by omega) (fun n c => by
      simp only [hl, f_X5_walked_L6, hv.1, beq_self_eq_true, gck_t, hv.2.1, Option.bind_some, Int32.le_refl, if_true]) (fun n c i hi => by
      rw [hl] at hi
      have q : ((vw A s).length ≤ i) = False := eq_false (by omega)
      have e1 : nI (vw A s).length - 1 - nI i = nI ((vw A s).length - 1 - i) := by rw [n_1, pk_sub (by omega), pk_sub (by omega)]
      simp (disch := omega) only [f_X5_walked_L6, hv.1, beq_self_eq_true, gck_t, hv.2.1, Option.bind_some, nI_leI, q, if_false, e, e1, r_walk1 h hw hs12 hk (show (vw A s).length - 1 - i < (vw A s).length by omega), nI_1, gd_rev hi]) c
end RLoop
