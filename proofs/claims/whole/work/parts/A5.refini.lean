/-! the start, in the reference -/
def A0 : AS := (fun _ => [], fun s => if s = 0 then (108, 0, none, 0, 0, true) else if s = 1 then (108, 1, none, 0, 0, true) else if s = 2 then (109, 2, none, 0, 0, true) else if s = 3 then (109, 3, none, 0, 0, true) else nil0, 0, fun _ => (0, none, 0, 0, false))
theorem WF_A0 : WF A0 := by
  have sl4 : ∀ s, 4 ≤ s → slA A0 s = nil0 := fun s h => by
    show (if s = 0 then _ else if s = 1 then _ else if s = 2 then _ else if s = 3 then _ else nil0) = nil0
    rw [if_neg (by omega), if_neg (by omega), if_neg (by omega), if_neg (by omega)]
  refine ⟨fun j _ => ⟨by show [].length ≤ 24; decide, fun t ht => by cases ht⟩, fun s hs hk => ?_, fun s hs hc _ => ?_, ⟨rfl, rfl, rfl, rfl⟩, fun s h4 hs => ?_, fun p hp => by have : p < 0 := hp; omega, fun j _ _ => by show ([].map _).Nodup; simp, by show ([].map _).Pairwise _; simp⟩
  · have c : s = 0 ∨ s = 1 ∨ s = 2 ∨ s = 3 ∨ 4 ≤ s := by omega
    rcases c with rfl | rfl | rfl | rfl | c
    · exact ⟨fun e => by revert e; decide, fun _ => ⟨by decide, fun p hp => by cases hp⟩, Or.inl rfl, fun _ => by decide, fun e => by revert e; decide, fun e => by revert e; decide, fun _ => rfl, fun e => by revert e; decide, fun _ => rfl⟩
    · exact ⟨fun e => by revert e; decide, fun _ => ⟨by decide, fun p hp => by cases hp⟩, Or.inl rfl, fun _ => by decide, fun e => by revert e; decide, fun e => by revert e; decide, fun _ => rfl, fun e => by revert e; decide, fun _ => rfl⟩
    · exact ⟨fun e => by revert e; decide, fun _ => ⟨by decide, fun p hp => by cases hp⟩, Or.inr (Or.inr (Or.inr (Or.inl rfl))), fun e => by revert e; decide, fun _ => ⟨by decide, rfl⟩, fun e => by revert e; decide, fun _ => rfl, fun e => by revert e; decide, fun e => by revert e; decide⟩
    · exact ⟨fun e => by revert e; decide, fun _ => ⟨by decide, fun p hp => by cases hp⟩, Or.inr (Or.inr (Or.inr (Or.inl rfl))), fun e => by revert e; decide, fun _ => ⟨by decide, rfl⟩, fun e => by revert e; decide, fun _ => rfl, fun e => by revert e; decide, fun e => by revert e; decide⟩
    · rw [sl4 s c] at hk; exact absurd rfl hk
  · have c : s = 0 ∨ s = 1 ∨ s = 2 ∨ s = 3 ∨ 4 ≤ s := by omega
    rcases c with rfl | rfl | rfl | rfl | c
    · exact absurd hc (by decide)
    · exact absurd hc (by decide)
    · exact absurd hc (by decide)
    · exact absurd hc (by decide)
    · rw [sl4 s c] at hc; exact absurd hc (by decide)
  · rw [sl4 s h4]; decide
section RIni
variable {S S' : GS} {r n : Nat} {F : List (Nat × Nat)} {T : List (Nat × Nat × Nat)} {O : List Nat} {g : Nat → Nat → Int32}
/-- what stands of it so far -/
def rI (S : GS) (r n : Nat) (F : List (Nat × Nat)) (T : List (Nat × Nat × Nat)) (O : List Nat) (g : Nat → Nat → Int32) : Prop :=
  gT S r = 6 ∧ (∀ q ∈ F, gR S r q.1 = some (r + q.2)) ∧ (∀ q ∈ T, gT S (r + q.1) = q.2.1 ∧ gZ S (r + q.1) = q.2.2) ∧ (∀ o ∈ O, gT S (r + o) = 15 ∧ gZ S (r + o) = 2 ∧ ∀ j, j < 2 → gR S (r + o) j = some (r + (o + 1 + j))) ∧
  (∀ a, r + n ≤ a → gT S a = 0) ∧ (∀ o k, o < n → gI S (r + o) k = g o k)
abbrev lowF (F : List (Nat × Nat)) (k : Nat) : Prop := ∀ q ∈ F, q.1 ≠ k
abbrev lowT (T : List (Nat × Nat × Nat)) (n : Nat) : Prop := ∀ q ∈ T, 1 ≤ q.1 ∧ q.1 < n
abbrev lowO (O : List Nat) (n : Nat) : Prop := ∀ o ∈ O, 1 ≤ o ∧ o + 2 < n
theorem rI_row (h : rI S r n F T O g) (h1 : 1 ≤ n) (hT : lowT T n) (hO : lowO O n) {a t z : Nat} {g' : Nat → Nat → Int32} {S1 : GS} (ha : a = r + n) (hf : rOn a (gnw S a t z) S1) (hg : ∀ o k, o < n → g' o k = g o k) (hn : ∀ k, gI S1 a k = g' n k) : rI S1 r (n + 1) F ((n, t, z) :: T) O g' := by
  subst ha
  obtain ⟨i1, i2, i3, i4, i5, i6⟩ := h
  obtain ⟨f1, f2, f3, f4⟩ := hf
  refine ⟨by rw [f2, gT_gnw, if_neg (by omega)]; exact i1, fun q hq => by rw [f1, gR_gnw, if_neg (by omega)]; exact i2 q hq, fun q hq => ?_, fun o ho => ?_, fun a ha => by rw [f2, gT_gnw, if_neg (by omega)]; exact i5 a (by omega), fun o k ho => ?_⟩
  · rw [f2, f3]
    rcases List.mem_cons.mp hq with rfl | hq
    · exact ⟨by rw [gT_gnw, if_pos rfl], by rw [gZ_gnw, if_pos rfl]⟩
    · have := hT q hq
      rw [gT_gnw, if_neg (by omega), gZ_gnw, if_neg (by omega)]
      exact i3 q hq
  · have := hO o ho
    rw [f2, f3, gT_gnw, if_neg (by omega), gZ_gnw, if_neg (by omega)]
    obtain ⟨g1, g2, g3⟩ := i4 o ho
    exact ⟨g1, g2, fun j hj => by rw [f1, gR_gnw, if_neg (by omega)]; exact g3 j hj⟩
  · by_cases e : o = n
    · subst e; exact hn k
    · rw [f4 _ _ (by omega), gI_gnw, if_neg (by omega), hg o k (by omega)]
      exact i6 o k (by omega)
theorem rI_set (h : rI S r n F T O g) {k o a : Nat} (hF : lowF F k) (hO : lowO O n) (ha : a = r + o) : rI (gsR S r k (some a)) r n ((k, o) :: F) T O g := by
  subst ha
  obtain ⟨i1, i2, i3, i4, i5, i6⟩ := h
  refine ⟨i1, fun q hq => ?_, i3, fun p hp => ?_, i5, i6⟩
  · rw [gR_gsR]
    rcases List.mem_cons.mp hq with rfl | hq
    · rw [if_pos ⟨rfl, rfl⟩]
    · rw [if_neg (fun z => hF q hq z.2)]; exact i2 q hq
  · have := hO p hp
    obtain ⟨g1, g2, g3⟩ := i4 p hp
    exact ⟨g1, g2, fun j hj => by rw [gR_gsR, if_neg (by omega)]; exact g3 j hj⟩
theorem rI_mna (h : rI S r n F T O g) (h1 : 1 ≤ n) (hT : lowT T n) (hO : lowO O n) {a : Nat} (ha : a = r + n) (hg : ∀ o k, n ≤ o → o < n + 3 → g o k = 0) : rI (gmna S a) r (n + 3) F ((n + 1, 11, 24) :: (n + 2, 11, 24) :: T) (n :: O) g := by
  subst ha
  obtain ⟨i1, i2, i3, i4, i5, i6⟩ := h
  have eT : ∀ b, gT (gmna S (r + n)) b = if b = r + n + 2 then 11 else if b = r + n + 1 then 11 else if b = r + n then 15 else gT S b := fun b => by
    unfold gmna; rw [gT_gsR, gT_gsR, gT_gnw, gT_gnw, gT_gnw]
  have eZ : ∀ b, gZ (gmna S (r + n)) b = if b = r + n + 2 then 24 else if b = r + n + 1 then 24 else if b = r + n then 2 else gZ S b := fun b => by
    unfold gmna; rw [gZ_gsR, gZ_gsR, gZ_gnw, gZ_gnw, gZ_gnw]
  have eI : ∀ b k, gI (gmna S (r + n)) b k = if b = r + n + 2 then 0 else if b = r + n + 1 then 0 else if b = r + n then 0 else gI S b k := fun b k => by
    unfold gmna; rw [gI_gsR, gI_gsR, gI_gnw, gI_gnw, gI_gnw]
  have eR : ∀ b k, b < r + n → gR (gmna S (r + n)) b k = gR S b k := fun b k hb => by
    unfold gmna; rw [gR_gsR, if_neg (by omega), gR_gsR, if_neg (by omega), gR_gnw, if_neg (by omega), gR_gnw, if_neg (by omega), gR_gnw, if_neg (by omega)]
  refine ⟨by rw [eT, if_neg (by omega), if_neg (by omega), if_neg (by omega)]; exact i1, fun q hq => by rw [eR _ _ (by omega)]; exact i2 q hq, fun q hq => ?_, fun o ho => ?_, fun a ha => by rw [eT, if_neg (by omega), if_neg (by omega), if_neg (by omega)]; exact i5 a (by omega), fun o k ho => ?_⟩
  · rw [eT, eZ]
    rcases List.mem_cons.mp hq with rfl | hq
    · rw [if_neg (by show ¬ r + (n + 1) = r + n + 2; omega), if_pos (by show r + (n + 1) = r + n + 1; omega), if_neg (by show ¬ r + (n + 1) = r + n + 2; omega), if_pos (by show r + (n + 1) = r + n + 1; omega)]
      exact ⟨rfl, rfl⟩
    · rcases List.mem_cons.mp hq with rfl | hq
      · rw [if_pos (by show r + (n + 2) = r + n + 2; omega), if_pos (by show r + (n + 2) = r + n + 2; omega)]
        exact ⟨rfl, rfl⟩
      · have := hT q hq
        rw [if_neg (by omega), if_neg (by omega), if_neg (by omega), if_neg (by omega), if_neg (by omega), if_neg (by omega)]
        exact i3 q hq
  · rcases List.mem_cons.mp ho with rfl | ho
    · rw [eT, eZ, if_neg (by omega), if_neg (by omega), if_pos rfl, if_neg (by omega), if_neg (by omega), if_pos rfl]
      refine ⟨rfl, rfl, fun j hj => ?_⟩
      unfold gmna
      rw [gR_gsR, gR_gsR]
      by_cases e : j = 1
      · subst e; rw [if_pos ⟨rfl, rfl⟩]; exact congrArg some (by omega)
      · rw [if_neg (fun z => e z.2), if_pos ⟨rfl, by omega⟩]; exact congrArg some (by omega)
    · have := hO o ho
      rw [eT, eZ, if_neg (by omega), if_neg (by omega), if_neg (by omega), if_neg (by omega), if_neg (by omega), if_neg (by omega)]
      obtain ⟨g1, g2, g3⟩ := i4 o ho
      exact ⟨g1, g2, fun j hj => by rw [eR _ _ (by omega)]; exact g3 j hj⟩
  · rw [eI]
    by_cases e : o < n
    · rw [if_neg (by omega), if_neg (by omega), if_neg (by omega)]; exact i6 o k e
    · rw [hg o k (by omega) ho]
      by_cases e2 : r + o = r + n + 2
      · rw [if_pos e2]
      · rw [if_neg e2]
        by_cases e3 : r + o = r + n + 1
        · rw [if_pos e3]
        · rw [if_neg e3, if_pos (by omega)]
def below (r : Nat) (S S' : GS) : Prop := ∀ a, a < r → gT S' a = gT S a ∧ gZ S' a = gZ S a ∧ (∀ k, gR S' a k = gR S a k) ∧ ∀ k, gI S' a k = gI S a k
theorem below.rf : below r S S := fun _ _ => ⟨rfl, rfl, fun _ => rfl, fun _ => rfl⟩
theorem below.tr {S'' : GS} (h : below r S S') (h2 : below r S' S'') : below r S S'' := fun a ha => by
  obtain ⟨h1, h2', h3, h4⟩ := h a ha
  obtain ⟨g1, g2, g3, g4⟩ := h2 a ha
  exact ⟨g1.trans h1, g2.trans h2', fun k => (g3 k).trans (h3 k), fun k => (g4 k).trans (h4 k)⟩
theorem below.new {a t z : Nat} (h : r ≤ a) : below r S (gnw S a t z) := fun b hb => ⟨by rw [gT_gnw, if_neg (by omega)], by rw [gZ_gnw, if_neg (by omega)], fun k => by rw [gR_gnw, if_neg (by omega)], fun k => by rw [gI_gnw, if_neg (by omega)]⟩
theorem below.set {a k : Nat} {v : Option Nat} (h : r ≤ a) : below r S (gsR S a k v) := fun b hb => ⟨rfl, rfl, fun k => by rw [gR_gsR, if_neg (by omega)], fun k => rfl⟩
theorem below.on {a : Nat} (h : r ≤ a) (f : rOn a S S') : below r S S' := fun b hb => ⟨f.2.1 b, f.2.2.1 b, fun k => f.1 b k, fun k => f.2.2.2 b k (by omega)⟩
/-- a new row, and its field -/
theorem rI_new (h : rI S r n F T O g) (h1 : 1 ≤ n) (hT : lowT T n) (hO : lowO O n) {a k t z : Nat} {zz : Int32} (ha : a = r + n) (hz : zz.toNatClampNeg = z) (hF : lowF F k) (hg : ∀ k, g n k = 0) :
    ∃ S1, (∀ {α : Type} (K : GS → Option α), ((some (gnw S a t zz.toNatClampNeg)).bind fun S1 => (gsfR S1 (some r) 6 k (some a)).bind K) = K S1) ∧ rI S1 r (n + 1) ((k, n) :: F) ((n, t, z) :: T) O g ∧ below r S S1 := by
  have h2 := rI_row h h1 hT hO (g' := g) (t := t) (z := z) ha rOn.rf (fun _ _ _ => rfl) (fun k => by rw [gI_gnw, if_pos rfl, hg])
  refine ⟨gsR (gnw S a t z) r k (some a), fun K => ?_, rI_set h2 hF (fun o ho => by have := hO o ho; omega) ha, (below.new (by omega)).tr (below.set (Nat.le_refl _))⟩
  rw [hz, Option.bind_some, gsfR_at h2.1, Option.bind_some]
theorem rI_newM (h : rI S r n F T O g) (h1 : 1 ≤ n) (hT : lowT T n) (hO : lowO O n) {a k : Nat} (ha : a = r + n) (hF : lowF F k) (hg : ∀ o k, n ≤ o → o < n + 3 → g o k = 0) :
    ∃ S1, (∀ {α : Type} (K : GS → Option α), ((some (gmna S a)).bind fun S1 => (gsfR S1 (some r) 6 k (some a)).bind K) = K S1) ∧ rI S1 r (n + 3) ((k, n) :: F) ((n + 1, 11, 24) :: (n + 2, 11, 24) :: T) (n :: O) g ∧ below r S S1 := by
  have h2 := rI_mna h h1 hT hO ha hg
  refine ⟨gsR (gmna S a) r k (some a), fun K => ?_, rI_set h2 hF (fun o ho => ?_) ha, ?_⟩
  · rw [Option.bind_some, gsfR_at h2.1, Option.bind_some]
  · rcases List.mem_cons.mp ho with rfl | ho
    · omega
    · have := hO o ho; omega
  · refine below.tr ?_ (below.set (Nat.le_refl _))
    unfold gmna
    exact (((((below.new (by omega)).tr (below.new (by omega))).tr (below.new (by omega))).tr (below.set (by omega))).tr (below.set (by omega)))
/-- twelve numbers into a new row -/
theorem wr12 {a t : Nat} {X : GS} (hT : gT X a = t) (hZ : gZ X a = 12) (h0 : ∀ k, gI X a k = 0) (x0 x1 x2 x3 x4 x5 x6 x7 x8 x9 x10 x11 : Int32) :
    ∃ Y, (∀ {α : Type} (K : GS → Option α), ((gsaI X (some a) t 0 x0).bind fun S => (gsaI S (some a) t 1 x1).bind fun S => (gsaI S (some a) t 2 x2).bind fun S => (gsaI S (some a) t 3 x3).bind fun S => (gsaI S (some a) t 4 x4).bind fun S => (gsaI S (some a) t 5 x5).bind fun S => (gsaI S (some a) t 6 x6).bind fun S => (gsaI S (some a) t 7 x7).bind fun S => (gsaI S (some a) t 8 x8).bind fun S => (gsaI S (some a) t 9 x9).bind fun S => (gsaI S (some a) t 10 x10).bind fun S => (gsaI S (some a) t 11 x11).bind K) = K Y) ∧ rOn a X Y ∧ ∀ k, gI Y a k = [x0, x1, x2, x3, x4, x5, x6, x7, x8, x9, x10, x11].getD k 0 := by
  have st : ∀ (Y : GS) (i : Nat) (ii v : Int32), rOn a X Y → i < 12 → ii = nI i → gsaI Y (some a) t ii v = some (gsI Y a i v) := fun Y i ii v f hi e => by
    rw [e]; exact saI ((f.2.1 a).trans hT) (by rw [f.2.2.1, hZ]; exact hi) (by rw [f.2.2.1, hZ]; decide)
  have f0 : rOn a X (gsI X a 0 x0) := rOn.one
  have f1 := gsI_on (k := 1) (v := x1) f0
  have f2 := gsI_on (k := 2) (v := x2) f1
  have f3 := gsI_on (k := 3) (v := x3) f2
  have f4 := gsI_on (k := 4) (v := x4) f3
  have f5 := gsI_on (k := 5) (v := x5) f4
  have f6 := gsI_on (k := 6) (v := x6) f5
  have f7 := gsI_on (k := 7) (v := x7) f6
  have f8 := gsI_on (k := 8) (v := x8) f7
  have f9 := gsI_on (k := 9) (v := x9) f8
  have f10 := gsI_on (k := 10) (v := x10) f9
  have f11 := gsI_on (k := 11) (v := x11) f10
  refine ⟨_, fun K => ?_, f11, fun k => ?_⟩
  · rw [st X 0 0 x0 rOn.rf (by omega) (by decide), Option.bind_some, st _ 1 1 x1 f0 (by omega) (by decide), Option.bind_some, st _ 2 2 x2 f1 (by omega) (by decide), Option.bind_some, st _ 3 3 x3 f2 (by omega) (by decide), Option.bind_some, st _ 4 4 x4 f3 (by omega) (by decide), Option.bind_some, st _ 5 5 x5 f4 (by omega) (by decide), Option.bind_some, st _ 6 6 x6 f5 (by omega) (by decide), Option.bind_some, st _ 7 7 x7 f6 (by omega) (by decide), Option.bind_some, st _ 8 8 x8 f7 (by omega) (by decide), Option.bind_some, st _ 9 9 x9 f8 (by omega) (by decide), Option.bind_some, st _ 10 10 x10 f9 (by omega) (by decide), Option.bind_some, st _ 11 11 x11 f10 (by omega) (by decide), Option.bind_some]
  · simp only [gI_gsI, true_and]
    rcases Nat.lt_or_ge k 12 with hk | hk
    · have : k = 0 ∨ k = 1 ∨ k = 2 ∨ k = 3 ∨ k = 4 ∨ k = 5 ∨ k = 6 ∨ k = 7 ∨ k = 8 ∨ k = 9 ∨ k = 10 ∨ k = 11 := by omega
      rcases this with rfl | rfl | rfl | rfl | rfl | rfl | rfl | rfl | rfl | rfl | rfl | rfl <;> rfl
    · rw [if_neg (by omega), if_neg (by omega), if_neg (by omega), if_neg (by omega), if_neg (by omega), if_neg (by omega), if_neg (by omega), if_neg (by omega), if_neg (by omega), if_neg (by omega), if_neg (by omega), if_neg (by omega), h0]
      rw [List.getD_eq_getElem?_getD, List.getElem?_eq_none (by simpa using hk)]
      rfl
/-- a new row of twelve, written, and its field -/
theorem rI_new12 (h : rI S r n F T O g) (h1 : 1 ≤ n) (hT : lowT T n) (hO : lowO O n) {a k t : Nat} {zz : Int32} (ha : a = r + n) (hz : zz.toNatClampNeg = 12) (hF : lowF F k) (x0 x1 x2 x3 x4 x5 x6 x7 x8 x9 x10 x11 : Int32) (hg : ∀ k, g n k = [x0, x1, x2, x3, x4, x5, x6, x7, x8, x9, x10, x11].getD k 0) :
    ∃ S1, (∀ {α : Type} (K : GS → Option α), ((some (gnw S a t zz.toNatClampNeg)).bind fun X => (gsaI X (some a) t 0 x0).bind fun S => (gsaI S (some a) t 1 x1).bind fun S => (gsaI S (some a) t 2 x2).bind fun S => (gsaI S (some a) t 3 x3).bind fun S => (gsaI S (some a) t 4 x4).bind fun S => (gsaI S (some a) t 5 x5).bind fun S => (gsaI S (some a) t 6 x6).bind fun S => (gsaI S (some a) t 7 x7).bind fun S => (gsaI S (some a) t 8 x8).bind fun S => (gsaI S (some a) t 9 x9).bind fun S => (gsaI S (some a) t 10 x10).bind fun S => (gsaI S (some a) t 11 x11).bind fun S => (gsfR S (some r) 6 k (some a)).bind K) = K S1) ∧ rI S1 r (n + 1) ((k, n) :: F) ((n, t, 12) :: T) O g ∧ below r S S1 := by
  obtain ⟨Y, y1, y2, y3⟩ := wr12 (X := gnw S a t 12) (a := a) (t := t) (by rw [gT_gnw, if_pos rfl]) (by rw [gZ_gnw, if_pos rfl]) (fun k => by rw [gI_gnw, if_pos rfl]) x0 x1 x2 x3 x4 x5 x6 x7 x8 x9 x10 x11
  have h2 := rI_row h h1 hT hO (g' := g) (t := t) (z := 12) ha y2 (fun _ _ _ => rfl) (fun k => by rw [y3, hg])
  refine ⟨gsR Y r k (some a), fun K => ?_, rI_set h2 hF (fun o ho => by have := hO o ho; omega) ha, ((below.new (by omega)).tr (below.on (by omega) y2)).tr (below.set (Nat.le_refl _))⟩
  rw [hz, Option.bind_some, y1, gsfR_at h2.1, Option.bind_some]
/-- no parts yet -/
theorem r_iniL {b m : Nat} (h6 : gT S r = 6) (hR : gR S r 15 = some b) (hT : gT S b = 11) (hZ : gZ S b = 12) (hrb : r ≠ b) : ∃ S1, f_X5_init_L299 r gN S m 0 = some (S1, m) ∧ rOn b S S1 ∧ ∀ k, k < 12 → gI S1 b k = -1 := by
  obtain ⟨U, ⟨u1, u2⟩, n, u3⟩ := lpG0 (F := fun n U i => f_X5_init_L299 r n U m i) (fun i U => rOn b S U ∧ ∀ k, k < i → gI U b k = -1) 12 (fun n U i hi hI => by
    obtain ⟨i1, i2⟩ := hI
    have e6 : gT U r = 6 := (i1.2.1 r).trans h6
    have q : ((12 : Int32) ≤ nI i) = False := by rw [n_12, n_le (by omega) (by omega)]; exact eq_false (by omega)
    have ew : gsaI U (some b) 11 (nI i) (-1) = some (gsI U b i (-1)) := saI ((i1.2.1 b).trans hT) (by rw [i1.2.2.1, hZ]; exact hi) (by rw [i1.2.2.1, hZ]; decide)
    refine ⟨gsI U b i (-1), ⟨gsI_on i1, fun k hk => ?_⟩, ?_⟩
    · rw [gI_gsI]
      by_cases e : k = i
      · subst e; rw [if_pos ⟨rfl, rfl⟩]
      · rw [if_neg (fun z => e z.2)]; exact i2 k (by omega)
    · simp only [f_X5_init_L299, q, if_false, gfR_at e6, (i1.1 r 15).trans hR, Option.bind_some, ew, nI_1]) (by omega) S ⟨rOn.rf, fun k hk => by omega⟩
  refine ⟨U, ?_, u1, u2⟩
  have q : ((12 : Int32) ≤ nI 12) = True := by decide
  rw [u3]
  simp only [f_X5_init_L299, q, if_true]
def gIni (o k : Nat) : Int32 := if o = 23 then [108, 108, 109, 109, 45, 45, 45, 45, 45, 45, 45, 45].getD k 0 else if o = 24 then [0, 1, 0, 1, 0, 0, 0, 0, 0, 0, 0, 0].getD k 0 else 0
theorem r_init (h6 : gT S r = 6) (hI : ∀ k, gI S r k = 0) (h0 : ∀ a, r + 1 ≤ a → gT S a = 0) : ∃ S1, f_X5_init S (r + 1) r = some (S1, r + 31) ∧ Rq r (fun i => r + (18 + i)) 16 S1 (r + 31) A0 ∧ gI S1 r 19 = 0 ∧ below r S S1 := by
  have i : rI S r 1 [] [] [] gIni := ⟨h6, fun q hq => (by cases hq), fun q hq => (by cases hq), fun q hq => (by cases hq), h0, fun o k ho => by
    have : o = 0 := by omega
    subst this
    exact hI k⟩
  obtain ⟨S0, e0, i0, b0⟩ := rI_newM (n := 1) (k := 0) i (by omega) (by decide) (by decide) (a := (r + 1)) (by omega) (by decide) (fun o k h1 h2 => by unfold gIni; rw [if_neg (by omega), if_neg (by omega)])
  obtain ⟨S1, e1, i1, b1⟩ := rI_newM (n := 4) (k := 1) i0 (by omega) (by decide) (by decide) (a := ((r + 1) + 3)) (by omega) (by decide) (fun o k h1 h2 => by unfold gIni; rw [if_neg (by omega), if_neg (by omega)])
  obtain ⟨S2, e2, i2, b2⟩ := rI_new (n := 7) (k := 2) (t := 11) (z := 2) (zz := 2) i1 (by omega) (by decide) (by decide) (a := (((r + 1) + 3) + 3)) (by omega) (by decide) (by decide) (fun k => rfl)
  obtain ⟨S3, e3, i3, b3⟩ := rI_newM (n := 8) (k := 3) i2 (by omega) (by decide) (by decide) (a := ((((r + 1) + 3) + 3) + 1)) (by omega) (by decide) (fun o k h1 h2 => by unfold gIni; rw [if_neg (by omega), if_neg (by omega)])
  obtain ⟨S4, e4, i4, b4⟩ := rI_newM (n := 11) (k := 4) i3 (by omega) (by decide) (by decide) (a := (((((r + 1) + 3) + 3) + 1) + 3)) (by omega) (by decide) (fun o k h1 h2 => by unfold gIni; rw [if_neg (by omega), if_neg (by omega)])
  obtain ⟨S5, e5, i5, b5⟩ := rI_newM (n := 14) (k := 5) i4 (by omega) (by decide) (by decide) (a := ((((((r + 1) + 3) + 3) + 1) + 3) + 3)) (by omega) (by decide) (fun o k h1 h2 => by unfold gIni; rw [if_neg (by omega), if_neg (by omega)])
  obtain ⟨S6, e6, i6, b6⟩ := rI_new (n := 17) (k := 6) (t := 11) (z := 2) (zz := 2) i5 (by omega) (by decide) (by decide) (a := (((((((r + 1) + 3) + 3) + 1) + 3) + 3) + 3)) (by omega) (by decide) (by decide) (fun k => rfl)
  obtain ⟨S7, e7, i7, b7⟩ := rI_new (n := 18) (k := 7) (t := 11) (z := 16) (zz := 16) i6 (by omega) (by decide) (by decide) (a := ((((((((r + 1) + 3) + 3) + 1) + 3) + 3) + 3) + 1)) (by omega) (by decide) (by decide) (fun k => rfl)
  obtain ⟨S8, e8, i8, b8⟩ := rI_new (n := 19) (k := 8) (t := 11) (z := 16) (zz := 16) i7 (by omega) (by decide) (by decide) (a := (((((((((r + 1) + 3) + 3) + 1) + 3) + 3) + 3) + 1) + 1)) (by omega) (by decide) (by decide) (fun k => rfl)
  obtain ⟨S9, e9, i9, b9⟩ := rI_new (n := 20) (k := 9) (t := 11) (z := 16) (zz := 16) i8 (by omega) (by decide) (by decide) (a := ((((((((((r + 1) + 3) + 3) + 1) + 3) + 3) + 3) + 1) + 1) + 1)) (by omega) (by decide) (by decide) (fun k => rfl)
  obtain ⟨S10, e10, i10, b10⟩ := rI_new (n := 21) (k := 10) (t := 11) (z := 16) (zz := 16) i9 (by omega) (by decide) (by decide) (a := (((((((((((r + 1) + 3) + 3) + 1) + 3) + 3) + 3) + 1) + 1) + 1) + 1)) (by omega) (by decide) (by decide) (fun k => rfl)
  obtain ⟨S11, e11, i11, b11⟩ := rI_new (n := 22) (k := 11) (t := 12) (z := 16) (zz := 16) i10 (by omega) (by decide) (by decide) (a := ((((((((((((r + 1) + 3) + 3) + 1) + 3) + 3) + 3) + 1) + 1) + 1) + 1) + 1)) (by omega) (by decide) (by decide) (fun k => rfl)
  obtain ⟨S12, e12, i12, b12⟩ := rI_new12 (n := 23) (k := 13) (t := 13) (zz := 12) i11 (by omega) (by decide) (by decide) (a := (((((((((((((r + 1) + 3) + 3) + 1) + 3) + 3) + 3) + 1) + 1) + 1) + 1) + 1) + 1)) (by omega) (by decide) (by decide) 108 108 109 109 45 45 45 45 45 45 45 45 (fun k => rfl)
  obtain ⟨S13, e13, i13, b13⟩ := rI_new12 (n := 24) (k := 14) (t := 11) (zz := 12) i12 (by omega) (by decide) (by decide) (a := ((((((((((((((r + 1) + 3) + 3) + 1) + 3) + 3) + 3) + 1) + 1) + 1) + 1) + 1) + 1) + 1)) (by omega) (by decide) (by decide) 0 1 0 1 0 0 0 0 0 0 0 0 (fun k => rfl)
  obtain ⟨S14, e14, i14, b14⟩ := rI_new (n := 25) (k := 15) (t := 11) (z := 12) (zz := 12) i13 (by omega) (by decide) (by decide) (a := (((((((((((((((r + 1) + 3) + 3) + 1) + 3) + 3) + 3) + 1) + 1) + 1) + 1) + 1) + 1) + 1) + 1)) (by omega) (by decide) (by decide) (fun k => rfl)
  obtain ⟨S15, e15, i15, b15⟩ := rI_new (n := 26) (k := 16) (t := 11) (z := 12) (zz := 12) i14 (by omega) (by decide) (by decide) (a := ((((((((((((((((r + 1) + 3) + 3) + 1) + 3) + 3) + 3) + 1) + 1) + 1) + 1) + 1) + 1) + 1) + 1) + 1)) (by omega) (by decide) (by decide) (fun k => rfl)
  obtain ⟨S16, e16, i16, b16⟩ := rI_new (n := 27) (k := 17) (t := 11) (z := 12) (zz := 12) i15 (by omega) (by decide) (by decide) (a := (((((((((((((((((r + 1) + 3) + 3) + 1) + 3) + 3) + 3) + 1) + 1) + 1) + 1) + 1) + 1) + 1) + 1) + 1) + 1)) (by omega) (by decide) (by decide) (fun k => rfl)
  obtain ⟨S17, e17, i17, b17⟩ := rI_new (n := 28) (k := 18) (t := 12) (z := 12) (zz := 12) i16 (by omega) (by decide) (by decide) (a := ((((((((((((((((((r + 1) + 3) + 3) + 1) + 3) + 3) + 3) + 1) + 1) + 1) + 1) + 1) + 1) + 1) + 1) + 1) + 1) + 1)) (by omega) (by decide) (by decide) (fun k => rfl)
  obtain ⟨S18, e18, i18, b18⟩ := rI_new (n := 29) (k := 20) (t := 11) (z := 72) (zz := 72) i17 (by omega) (by decide) (by decide) (a := (((((((((((((((((((r + 1) + 3) + 3) + 1) + 3) + 3) + 3) + 1) + 1) + 1) + 1) + 1) + 1) + 1) + 1) + 1) + 1) + 1) + 1)) (by omega) (by decide) (by decide) (fun k => rfl)
  obtain ⟨S19, e19, i19, b19⟩ := rI_new (n := 30) (k := 21) (t := 11) (z := 72) (zz := 72) i18 (by omega) (by decide) (by decide) (a := ((((((((((((((((((((r + 1) + 3) + 3) + 1) + 3) + 3) + 3) + 1) + 1) + 1) + 1) + 1) + 1) + 1) + 1) + 1) + 1) + 1) + 1) + 1)) (by omega) (by decide) (by decide) (fun k => rfl)
  obtain ⟨w1, w2, w3, w4, w5, w6⟩ := i19
  obtain ⟨U, u1, u2, u3⟩ := r_iniL (S := S19) (r := r) (b := r + 25) (m := (((((((((((((((((((((r + 1) + 3) + 3) + 1) + 3) + 3) + 3) + 1) + 1) + 1) + 1) + 1) + 1) + 1) + 1) + 1) + 1) + 1) + 1) + 1) + 1)) w1 (w2 (15, 25) (by decide)) (w3 (25, 11, 12) (by decide)).1 (w3 (25, 11, 12) (by decide)).2 (by omega)
  have v : ∀ o k, o < 31 → o ≠ 25 → gI U (r + o) k = gIni o k := fun o k ho h25 => (u2.2.2.2 _ _ (by omega)).trans (w6 o k ho)
  have z : ∀ o k, o < 31 → o ≠ 23 → o ≠ 24 → o ≠ 25 → gI U (r + o) k = 0 := fun o k ho h1 h2 h3 => by
    rw [v o k ho h3]; unfold gIni; rw [if_neg h1, if_neg h2]
  refine ⟨U, ?_, ⟨⟨(u2.2.1 r).trans w1, fun q hq => ?_, fun q hq => ?_, fun o ho => ?_, fun i hi => ?_, fun i j hi hj e => by have e : r + (18 + i) = r + (18 + j) := e; omega, by decide⟩, ⟨?_, by show 0 ≤ 16; omega, by omega, fun p _ _ => z 22 p (by omega) (by omega) (by omega) (by omega)⟩, fun j hj => ?_, fun j hj => ?_, fun s hs => ?_, fun p hp => by have : p < 0 := hp; omega, fun a ha => by rw [u2.2.1]; exact w5 a ha, Nat.le_refl _⟩, z 0 19 (by omega) (by omega) (by omega) (by omega), (((((((((((((((((((b0.tr b1).tr b2).tr b3).tr b4).tr b5).tr b6).tr b7).tr b8).tr b9).tr b10).tr b11).tr b12).tr b13).tr b14).tr b15).tr b16).tr b17).tr b18).tr b19).tr (below.on (by omega) u2)⟩
  · unfold f_X5_init
    refine (e0 _).trans ?_
    refine (e1 _).trans ?_
    refine (e2 _).trans ?_
    refine (e3 _).trans ?_
    refine (e4 _).trans ?_
    refine (e5 _).trans ?_
    refine (e6 _).trans ?_
    refine (e7 _).trans ?_
    refine (e8 _).trans ?_
    refine (e9 _).trans ?_
    refine (e10 _).trans ?_
    refine (e11 _).trans ?_
    refine (e12 _).trans ?_
    refine (e13 _).trans ?_
    refine (e14 _).trans ?_
    refine (e15 _).trans ?_
    refine (e16 _).trans ?_
    refine (e17 _).trans ?_
    refine (e18 _).trans ?_
    refine (e19 _).trans ?_
    exact u1
  · have : ∀ q ∈ rFl, q ∈ ([(21, 30), (20, 29), (18, 28), (17, 27), (16, 26), (15, 25), (14, 24), (13, 23), (11, 22), (10, 21), (9, 20), (8, 19), (7, 18), (6, 17), (5, 14), (4, 11), (3, 8), (2, 7), (1, 4), (0, 1)] : List (Nat × Nat)) := by decide
    rw [u2.1]; exact w2 q (this q hq)
  · have : ∀ q ∈ rTb, q ∈ ([(30, 11, 72), (29, 11, 72), (28, 12, 12), (27, 11, 12), (26, 11, 12), (25, 11, 12), (24, 11, 12), (23, 13, 12), (22, 12, 16), (21, 11, 16), (20, 11, 16), (19, 11, 16), (18, 11, 16), (17, 11, 2), (15, 11, 24), (16, 11, 24), (12, 11, 24), (13, 11, 24), (9, 11, 24), (10, 11, 24), (7, 11, 2), (5, 11, 24), (6, 11, 24), (2, 11, 24), (3, 11, 24)] : List (Nat × Nat × Nat)) := by decide
    rw [u2.2.1, u2.2.2.1]; exact w3 q (this q hq)
  · have : ∀ q ∈ rOu, q ∈ ([14, 11, 8, 4, 1] : List Nat) := by decide
    rw [u2.2.1, u2.2.2.1]
    obtain ⟨g1, g2, g3⟩ := w4 o (this o ho)
    exact ⟨g1, g2, fun j hj => by rw [u2.1]; exact g3 j hj⟩
  · rw [u2.1, u2.2.1, u2.2.2.1]
    have : i = 0 ∨ i = 1 ∨ i = 2 ∨ i = 3 ∨ i = 4 := by omega
    rcases this with rfl | rfl | rfl | rfl | rfl
    · exact ⟨w2 (7, 18) (by decide), (w3 (18, 11, 16) (by decide)).1, (w3 (18, 11, 16) (by decide)).2, Or.inl ⟨Nat.add_le_add_left (by decide) r, Nat.add_le_add_left (by decide) r⟩⟩
    · exact ⟨w2 (8, 19) (by decide), (w3 (19, 11, 16) (by decide)).1, (w3 (19, 11, 16) (by decide)).2, Or.inl ⟨Nat.add_le_add_left (by decide) r, Nat.add_le_add_left (by decide) r⟩⟩
    · exact ⟨w2 (9, 20) (by decide), (w3 (20, 11, 16) (by decide)).1, (w3 (20, 11, 16) (by decide)).2, Or.inl ⟨Nat.add_le_add_left (by decide) r, Nat.add_le_add_left (by decide) r⟩⟩
    · exact ⟨w2 (10, 21) (by decide), (w3 (21, 11, 16) (by decide)).1, (w3 (21, 11, 16) (by decide)).2, Or.inl ⟨Nat.add_le_add_left (by decide) r, Nat.add_le_add_left (by decide) r⟩⟩
    · exact ⟨w2 (11, 22) (by decide), (w3 (22, 12, 16) (by decide)).1, (w3 (22, 12, 16) (by decide)).2, Or.inl ⟨Nat.add_le_add_left (by decide) r, Nat.add_le_add_left (by decide) r⟩⟩
  · exact (z 0 12 (by omega) (by omega) (by omega) (by omega)).trans nI_0.symm
  · exact ⟨(z 7 j (by omega) (by omega) (by omega) (by omega)).trans nI_0.symm, fun i hi => by have : i < 0 := hi; omega⟩
  · exact ⟨(z 17 j (by omega) (by omega) (by omega) (by omega)).trans nI_0.symm, fun i hi => by have : i < 0 := hi; omega⟩
  · have s23 := v 23 s (by omega) (by omega)
    have s24 := v 24 s (by omega) (by omega)
    have s25 := u3 s hs
    have s28 := z 28 s (by omega) (by omega) (by omega) (by omega)
    have : s = 0 ∨ s = 1 ∨ s = 2 ∨ s = 3 ∨ 4 ≤ s := by omega
    rcases this with rfl | rfl | rfl | rfl | c
    · exact ⟨s23, fun _ => ⟨s25, fun e => absurd e (by decide), fun _ => ⟨s24, s28⟩⟩⟩
    · exact ⟨s23, fun _ => ⟨s25, fun e => absurd e (by decide), fun _ => ⟨s24, s28⟩⟩⟩
    · exact ⟨s23, fun _ => ⟨s25, fun e => absurd e (by decide), fun _ => ⟨s24, s28⟩⟩⟩
    · exact ⟨s23, fun _ => ⟨s25, fun e => absurd e (by decide), fun _ => ⟨s24, s28⟩⟩⟩
    · have e : slA A0 s = nil0 := by
        show (if s = 0 then _ else if s = 1 then _ else if s = 2 then _ else if s = 3 then _ else nil0) = nil0
        rw [if_neg (by omega), if_neg (by omega), if_neg (by omega), if_neg (by omega)]
      rw [e]
      refine ⟨s23.trans ?_, fun q => absurd rfl q⟩
      have : s = 4 ∨ s = 5 ∨ s = 6 ∨ s = 7 ∨ s = 8 ∨ s = 9 ∨ s = 10 ∨ s = 11 := by omega
      rcases this with rfl | rfl | rfl | rfl | rfl | rfl | rfl | rfl <;> rfl
end RIni
