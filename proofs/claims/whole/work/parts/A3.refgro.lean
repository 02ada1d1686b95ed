/-! parts in the reference: its rows of parts grow -/
section RGro
variable {S S' : GS} {r cap hs hs' : Nat} {dq : Nat → Nat} {A B : AS}
theorem two_n {n : Nat} (h : n ≤ 512) : (2 * nI n : Int32) = nI (2 * n) := by
  have e : (2 : Int32) = nI 2 := by decide
  rw [e]
  unfold nI
  rw [← Int32.ofNat_mul]
theorem ck1024 {n : Nat} (h : n ≤ 512) : decide (0 ≤ (nI (2 * n)).toInt ∧ (nI (2 * n)).toInt ≤ 1024) = true := decide_eq_true (by rw [nI_toInt (by omega)]; omega)
theorem r_longer {a np : Nat} (h6 : gT S r = 6) (h12 : gI S r 12 = nI np) (hn : np ≤ 512) (ha : gT S a = 11) (hz : np ≤ gZ S a) (hz2 : gZ S a ≤ 1024) (hal : a < hs) (hrl : r < hs) :
    ∃ T, f_X5_longer S hs r (some a) = some (some hs, T, hs + 1) ∧ rFr hs (fun _ _ => False) S T ∧ gT T hs = 11 ∧ gZ T hs = 2 * np ∧ (∀ i, gI T hs i = if i < np then gI S a i else 0) ∧ (∀ b, hs + 1 ≤ b → gT T b = gT S b) := by
  obtain ⟨T, ⟨t1, t2, t3, t4, t5⟩, n, t6⟩ := lpG0 (F := fun n T i => f_X5_longer_L11 r n T (hs + 1) (some a) (some hs) i) (fun i T => rFr hs (fun _ _ => False) S T ∧ gT T hs = 11 ∧ gZ T hs = 2 * np ∧ (∀ q, gI T hs q = if q < i then gI S a q else 0) ∧ ∀ b, hs + 1 ≤ b → gT T b = gT S b) np (fun n T i hi hI => by
    obtain ⟨i1, i2, i3, i4, i5⟩ := hI
    have e6 : gT T r = 6 := (i1 r hrl).1.trans h6
    have e12 : gI T r 12 = nI np := ((i1 r hrl).2.2.2 12 id).trans h12
    have ea : gaI T (some a) 11 (nI i) = some (gI S a i) := by
      rw [aI ((i1 a hal).1.trans ha) (by rw [(i1 a hal).2.1]; omega) (by rw [(i1 a hal).2.1]; omega), (i1 a hal).2.2.2 i id]
    have ew : gsaI T (some hs) 11 (nI i) (gI S a i) = some (gsI T hs i (gI S a i)) := saI i2 (by omega) (by omega)
    have q : (np ≤ i) = False := eq_false (by omega)
    refine ⟨gsI T hs i (gI S a i), ⟨i1.tr (fun b hb => ⟨rfl, rfl, fun _ => rfl, fun j _ => by rw [gI_gsI, if_neg (by omega)]⟩) (Nat.le_refl _), i2, i3, fun k => ?_, i5⟩, ?_⟩
    · rw [gI_gsI]
      by_cases e : k = i
      · subst e; rw [if_pos ⟨rfl, rfl⟩, if_pos (by omega)]
      · rw [if_neg (fun z => e z.2), i4 k]
        by_cases c : k < i
        · rw [if_pos c, if_pos (by omega)]
        · rw [if_neg c, if_neg (by omega)]
    · simp (disch := omega) only [f_X5_longer_L11, gfI_at e6, e12, Option.bind_some, nI_leI, q, if_false, ea, ew, nI_1]) (by omega) (gnw S hs 11 (2 * np)) ⟨rFr.new (Nat.le_refl _), by rw [gT_gnw, if_pos rfl], by rw [gZ_gnw, if_pos rfl], fun q => by rw [gI_gnw, if_pos rfl, if_neg (by omega)], fun b hb => by rw [gT_gnw, if_neg (by omega)]⟩
  refine ⟨T, ?_, t1, t2, t3, t4, t5⟩
  have e6 : gT T r = 6 := (t1 r hrl).1.trans h6
  have e12 : gI T r 12 = nI np := ((t1 r hrl).2.2.2 12 id).trans h12
  simp only [f_X5_longer, gfI_at h6, h12, Option.bind_some, two_n hn, ck1024 hn, gck_t, nI_clamp (show 2 * np < 2 ^ 31 by omega)]
  rw [t6]
  simp only [f_X5_longer_L11, gfI_at e6, e12, Option.bind_some, Int32.le_refl, if_true]
/-- but for the references of its rows of parts -/
def rGr (r hs : Nat) (S S' : GS) : Prop := ∀ a, a < hs → gT S' a = gT S a ∧ gZ S' a = gZ S a ∧ (∀ k, ¬ (a = r ∧ 7 ≤ k ∧ k ≤ 11) → gR S' a k = gR S a k) ∧ ∀ k, gI S' a k = gI S a k
theorem rGr.rf : rGr r hs S S := fun _ _ => ⟨rfl, rfl, fun _ _ => rfl, fun _ => rfl⟩
theorem rGr.tr {S'' : GS} {n : Nat} (h : rGr r hs S S') (g : rGr r n S' S'') (hl : hs ≤ n) : rGr r hs S S'' := fun a ha => by
  obtain ⟨h1, h2, h3, h4⟩ := h a ha
  obtain ⟨g1, g2, g3, g4⟩ := g a (by omega)
  exact ⟨g1.trans h1, g2.trans h2, fun k q => (g3 k q).trans (h3 k q), fun k => (g4 k).trans (h4 k)⟩
theorem rGr.of (h : rFr hs (fun _ _ => False) S S') : rGr r hs S S' := fun a ha => ⟨(h a ha).1, (h a ha).2.1, fun k _ => (h a ha).2.2.1 k, fun k => (h a ha).2.2.2 k id⟩
theorem rGr.one {k : Nat} {v : Option Nat} (h7 : 7 ≤ k) (h11 : k ≤ 11) : rGr r hs S (gsR S r k v) := fun a _ => ⟨rfl, rfl, fun j q => by rw [gR_gsR, if_neg (fun z => q ⟨z.1, by omega⟩)], fun _ => rfl⟩
theorem Rq.newD {dq' : Nat → Nat} {cap' : Nat} (h : Rq r dq cap S hs A) (f : rGr r hs S S') (hd : ∀ i, i < 5 → gR S' r (7 + i) = some (dq' i) ∧ gT S' (dq' i) = (if i = 4 then 12 else 11) ∧ gZ S' (dq' i) = cap' ∧ r + 30 < dq' i) (hne : ∀ i j, i < 5 → j < 5 → dq' i = dq' j → i = j) (hc : cap' ≤ 1024) (hn : npA A ≤ cap') (hc1 : 1 ≤ cap')
    (hp : ∀ i, i < 5 → ∀ p, p < npA A → gI S' (dq' i) p = gI S (dq i) p) (h0 : ∀ p, npA A ≤ p → p < cap' → gI S' (dq' 4) p = 0) (hl : hs ≤ hs') (ht : ∀ a, hs' ≤ a → gT S' a = 0) : Rq r dq' cap' S' hs' A := by
  obtain ⟨⟨a1, a2, a3, a4, a5, a6, a7⟩, ⟨h2, h21, h22⟩, h3, h4, h5, h6, h7, h8⟩ := h
  have e : ∀ a, a ≤ r + 30 → ∀ k, gI S' a k = gI S a k := fun a ha => (f a (by omega)).2.2.2
  refine ⟨⟨(f r (by omega)).1.trans a1, fun q hq => ?_, fun q hq => ?_, fun o ho => ?_, fun i hi => ?_, hne, hc⟩, ⟨(e r (by omega) 12).trans h2, hn, hc1, h0⟩, fun j hj => ?_, fun j hj => ?_, fun s hs => ?_, fun p hpp => ?_, ht, by omega⟩
  · have : ∀ q ∈ rFl, ¬ (7 ≤ q.1 ∧ q.1 ≤ 11) := by decide
    rw [(f r (by omega)).2.2.1 _ (fun z => this q hq z.2)]
    exact a2 q hq
  · have : ∀ q ∈ rTb, q.1 ≤ 30 := by decide
    have := this q hq
    obtain ⟨y1, y2, -⟩ := f (r + q.1) (by omega)
    rw [y1, y2]
    exact a3 q hq
  · have : ∀ o ∈ rOu, 1 ≤ o ∧ o ≤ 30 := by decide
    have := this o ho
    obtain ⟨y1, y2, y3, -⟩ := f (r + o) (by omega)
    rw [y1, y2]
    obtain ⟨g1, g2, g3⟩ := a4 o ho
    exact ⟨g1, g2, fun j hj => by rw [y3 _ (fun z => by omega)]; exact g3 j hj⟩
  · obtain ⟨g1, g2, g3, g4⟩ := hd i hi
    exact ⟨g1, g2, g3, Or.inr g4⟩
  · obtain ⟨m1, m2⟩ := h3 j hj
    exact ⟨(e _ (by omega) _).trans m1, fun i hi => ⟨(e _ (by omega) _).trans (m2 i hi).1, (e _ (by omega) _).trans (m2 i hi).2⟩⟩
  · obtain ⟨m1, m2⟩ := h4 j hj
    exact ⟨(e _ (by omega) _).trans m1, fun i hi => ⟨(e _ (by omega) _).trans (m2 i hi).1, (e _ (by omega) _).trans (m2 i hi).2.1, (e _ (by omega) _).trans (m2 i hi).2.2⟩⟩
  · have := h5 s hs
    unfold rSl at this ⊢
    rw [e (r + 23) (by omega), e (r + 24) (by omega), e (r + 25) (by omega), e (r + 26) (by omega), e (r + 27) (by omega), e (r + 28) (by omega)]
    exact this
  · have := h6 p hpp
    unfold rPt at this ⊢
    rw [hp 0 (by omega) p hpp, hp 1 (by omega) p hpp, hp 2 (by omega) p hpp, hp 3 (by omega) p hpp, hp 4 (by omega) p hpp]
    exact this
/-- the last row of parts, of booleans -/
theorem r_growL {a b np m : Nat} {S0 : GS} (h6 : gT S0 r = 6) (h12 : gI S0 r 12 = nI np) (h11 : gR S0 r 11 = some b) (hn : np ≤ 512) (ha : gT S0 a = 12) (hz : np ≤ gZ S0 a) (hz2 : gZ S0 a ≤ 1024) (hb : gT S0 b = 12) (hbz : gZ S0 b = 2 * np) (hab : a ≠ b) (hrb : r ≠ b) (hbo : ∀ i, i < np → gnr .boolean (gI S0 a i) = true) (hb0 : ∀ i, gI S0 b i = 0) :
    ∃ T, f_X5_grows_L67 r gN S0 m (some a) 0 = some (T, m) ∧ rOn b S0 T ∧ ∀ i, gI T b i = if i < np then gI S0 a i else 0 := by
  obtain ⟨T, ⟨t1, t2⟩, n, t3⟩ := lpG0 (F := fun n T i => f_X5_grows_L67 r n T m (some a) i) (fun i T => rOn b S0 T ∧ ∀ q, gI T b q = if q < i then gI S0 a q else 0) np (fun n T i hi hI => by
    obtain ⟨i1, i2⟩ := hI
    have e6 : gT T r = 6 := (i1.2.1 r).trans h6
    have e12 : gI T r 12 = nI np := (i1.2.2.2 r 12 hrb).trans h12
    have e11 : gR T r 11 = some b := (i1.1 r 11).trans h11
    have ea : gaI T (some a) 12 (nI i) = some (gI S0 a i) := by
      rw [aI ((i1.2.1 a).trans ha) (by rw [i1.2.2.1]; omega) (by rw [i1.2.2.1]; omega), i1.2.2.2 a i hab]
    have ew : gsaI T (some b) 12 (nI i) (gI S0 a i) = some (gsI T b i (gI S0 a i)) := saI ((i1.2.1 b).trans hb) (by rw [i1.2.2.1, hbz]; omega) (by rw [i1.2.2.1, hbz]; omega)
    have q : (np ≤ i) = False := eq_false (by omega)
    refine ⟨gsI T b i (gI S0 a i), ⟨gsI_on i1, fun k => ?_⟩, ?_⟩
    · rw [gI_gsI]
      by_cases e : k = i
      · subst e; rw [if_pos ⟨rfl, rfl⟩, if_pos (by omega)]
      · rw [if_neg (fun z => e z.2), i2 k]
        by_cases c : k < i
        · rw [if_pos c, if_pos (by omega)]
        · rw [if_neg c, if_neg (by omega)]
    · simp (disch := omega) only [f_X5_grows_L67, gfI_at e6, e12, Option.bind_some, nI_leI, q, if_false, gfR_at e6, e11, ea, hbo i hi, gck_t, ew, nI_1]) (by omega) S0 ⟨rOn.rf, fun q => by rw [hb0, if_neg (by omega)]⟩
  refine ⟨T, ?_, t1, t2⟩
  have e6 : gT T r = 6 := (t1.2.1 r).trans h6
  have e12 : gI T r 12 = nI np := (t1.2.2.2 r 12 hrb).trans h12
  rw [t3]
  simp only [f_X5_grows_L67, gfI_at e6, e12, Option.bind_some, Int32.le_refl, if_true]
theorem r_grows (h : Rq r dq cap S hs A) (hn : npA A ≤ 512) (h1 : 1 ≤ npA A) : ∃ S', f_X5_grows S hs r = some (S', hs + 5) ∧ Rq r (fun i => hs + i) (2 * npA A) S' (hs + 5) A ∧ (∀ k, gI S' r k = gI S r k) := by
  have hdlt := fun i hi => Rq.dlt (i := i) h hi
  have hr : r + 31 ≤ hs := h.2.2.2.2.2.2.2
  have ht := h.2.2.2.2.2.2.1
  obtain ⟨⟨a1, a2, a3, a4, a5, a6, a7⟩, ⟨h2, h21, h22⟩, h3, h4, h5, h6, -⟩ := id h
  -- what every step keeps
  have step : ∀ (T : GS) (i : Nat), i < 4 → rGr r hs S T → (∀ b, hs + i ≤ b → gT T b = 0) → (∀ j, i ≤ j → j < 5 → gR T r (7 + j) = some (dq j)) →
      ∃ T', (∀ {α : Type} (K : Option Nat → GS → Nat → Option α), (gfR T (some r) 6 (7 + i)).bind (fun v => gck (gT T r == 6) (gb3 (f_X5_longer T (hs + i) r v) K)) = K (some (hs + i)) T' (hs + (i + 1))) ∧ rFr (hs + i) (fun _ _ => False) T T' ∧ gT T' (hs + i) = 11 ∧ gZ T' (hs + i) = 2 * npA A ∧ (∀ p, gI T' (hs + i) p = if p < npA A then gI S (dq i) p else 0) ∧ gT T' r = 6 ∧ ∀ b, hs + i + 1 ≤ b → gT T' b = 0 := by
    intro T i hi f hT hR
    obtain ⟨y1, y2, y3, y4⟩ := f r (by omega)
    obtain ⟨d1, d2, d3, -⟩ := a5 i (by omega)
    obtain ⟨z1, z2, z3, z4⟩ := f (dq i) (hdlt i (by omega))
    obtain ⟨T', b1, b2, b3, b4, b5, b6⟩ := r_longer (S := T) (hs := hs + i) (r := r) (a := dq i) (np := npA A) (y1.trans a1) ((y4 12).trans h2) hn (by rw [z1, d2, if_neg (by omega)]) (by rw [z2, d3]; exact h21) (by rw [z2, d3]; exact a7) (by have := hdlt i (by omega); omega) (by omega)
    refine ⟨T', fun K => ?_, b2, b3, b4, fun p => by rw [b5 p, z4], ((b2 r (by omega)).1.trans y1).trans a1, fun b hb => by rw [b6 b (by omega)]; exact hT b (by omega)⟩
    rw [gfR_at (y1.trans a1), hR i (Nat.le_refl _) (by omega), Option.bind_some, y1.trans a1, b1]
    rfl
  have five : ∀ {T U : GS} {i : Nat}, rGr r hs S T → rFr (hs + i) (fun _ _ => False) T U → rGr r hs S (gsR U r (7 + i) (some (hs + i))) ∨ ¬ i < 5 := fun {T U i} f g => by
    by_cases hi : i < 5
    · exact Or.inl ((f.tr (rGr.of g) (by omega)).tr (rGr.one (by omega) (by omega)) (Nat.le_refl _))
    · exact Or.inr hi
  obtain ⟨T0, p0, q0, r0, s0, u0, v0, w0⟩ := step S 0 (by omega) rGr.rf ht (fun j _ hj => (a5 j hj).1)
  have k0 : rGr r hs S (gsR T0 r 7 (some hs)) := (five (i := 0) rGr.rf q0).resolve_right (by omega)
  have R0 : ∀ j, 1 ≤ j → j < 5 → gR (gsR T0 r 7 (some hs)) r (7 + j) = some (dq j) := fun j h1 hj => by rw [gR_gsR, if_neg (by omega), (q0 r (by omega)).2.2.1]; exact (a5 j hj).1
  obtain ⟨T1, p1, q1, r1, s1, u1, v1, w1⟩ := step (gsR T0 r 7 (some hs)) 1 (by omega) k0 (fun b hb => w0 b (by omega)) R0
  have k1 : rGr r hs S (gsR T1 r 8 (some (hs + 1))) := (five (i := 1) k0 q1).resolve_right (by omega)
  have R1 : ∀ j, 2 ≤ j → j < 5 → gR (gsR T1 r 8 (some (hs + 1))) r (7 + j) = some (dq j) := fun j h1 hj => by rw [gR_gsR, if_neg (by omega), (q1 r (by omega)).2.2.1]; exact R0 j (by omega) hj
  obtain ⟨T2, p2, q2, r2, s2, u2, v2, w2⟩ := step (gsR T1 r 8 (some (hs + 1))) 2 (by omega) k1 (fun b hb => w1 b (by omega)) R1
  have k2 : rGr r hs S (gsR T2 r 9 (some (hs + 2))) := (five (i := 2) k1 q2).resolve_right (by omega)
  have R2 : ∀ j, 3 ≤ j → j < 5 → gR (gsR T2 r 9 (some (hs + 2))) r (7 + j) = some (dq j) := fun j h1 hj => by rw [gR_gsR, if_neg (by omega), (q2 r (by omega)).2.2.1]; exact R1 j (by omega) hj
  obtain ⟨T3, p3, q3, r3, s3, u3, v3, w3⟩ := step (gsR T2 r 9 (some (hs + 2))) 3 (by omega) k2 (fun b hb => w2 b (by omega)) R2
  have k3 : rGr r hs S (gsR T3 r 10 (some (hs + 3))) := (five (i := 3) k2 q3).resolve_right (by omega)
  have R3 : gR (gsR T3 r 10 (some (hs + 3))) r 11 = some (dq 4) := by rw [gR_gsR, if_neg (by omega), (q3 r (by omega)).2.2.1]; exact R2 4 (by omega) (by omega)
  -- booleans
  have f4 : rFr (hs + 4) (fun _ _ => False) (gsR T3 r 10 (some (hs + 3))) (gnw (gsR T3 r 10 (some (hs + 3))) (hs + 4) 12 (2 * npA A)) := rFr.new (Nat.le_refl _)
  have k4 : rGr r hs S (gsR (gnw (gsR T3 r 10 (some (hs + 3))) (hs + 4) 12 (2 * npA A)) r 11 (some (hs + 4))) := (five (i := 4) k3 f4).resolve_right (by omega)
  generalize hU : gsR (gnw (gsR T3 r 10 (some (hs + 3))) (hs + 4) 12 (2 * npA A)) r 11 (some (hs + 4)) = U at *
  have hd4 := hdlt 4 (by omega)
  obtain ⟨y1, y2, y3, y4⟩ := k4 r (by omega)
  obtain ⟨z1, z2, z3, z4⟩ := k4 (dq 4) hd4
  obtain ⟨d1, d2, d3, -⟩ := a5 4 (by omega)
  have U4 : gT U (hs + 4) = 12 ∧ gZ U (hs + 4) = 2 * npA A ∧ gR U r 11 = some (hs + 4) ∧ ∀ p, gI U (hs + 4) p = 0 := by
    subst hU
    exact ⟨by rw [gT_gsR, gT_gnw, if_pos rfl], by rw [gZ_gsR, gZ_gnw, if_pos rfl], by rw [gR_gsR, if_pos ⟨rfl, rfl⟩], fun p => by rw [gI_gsR, gI_gnw, if_pos rfl]⟩
  obtain ⟨T5, g1, g2, g3⟩ := r_growL (r := r) (a := dq 4) (b := hs + 4) (np := npA A) (m := hs + 4 + 1) (S0 := U) (y1.trans a1) ((y4 12).trans h2) U4.2.2.1 hn (by rw [z1, d2, if_pos rfl]) (by rw [z2, d3]; exact h21) (by rw [z2, d3]; exact a7) U4.1 U4.2.1 (by omega) (by omega) (fun i hi => by rw [z4, (h6 i hi).2.2.2.2]; cases pG (ptA A i) <;> decide) U4.2.2.2
  refine ⟨T5, ?_, ?_, fun k => by rw [g2.2.2.2 r k (by omega)]; exact y4 k⟩
  · have e7 : gT T3 r = 6 := v3
    have e12 : gI (gsR T3 r 10 (some (hs + 3))) r 12 = nI (npA A) := ((k3 r (by omega)).2.2.2 12).trans h2
    have e13 : gT (gsR T3 r 10 (some (hs + 3))) r = 6 := v3
    have e14 : gT (gnw (gsR T3 r 10 (some (hs + 3))) (hs + 4) 12 (2 * npA A)) r = 6 := by rw [gT_gnw, if_neg (by omega)]; exact v3
    unfold f_X5_grows
    refine (p0 _).trans ?_
    rw [gsfR_at v0, Option.bind_some]
    refine (p1 _).trans ?_
    rw [gsfR_at v1, Option.bind_some]
    refine (p2 _).trans ?_
    rw [gsfR_at v2, Option.bind_some]
    refine (p3 _).trans ?_
    rw [gsfR_at v3, Option.bind_some]
    rw [gfR_at e13, R3, Option.bind_some, gfI_at e13, e12, Option.bind_some, two_n hn, ck1024 hn, gck_t, nI_clamp (show 2 * npA A < 2 ^ 31 by omega), Option.bind_some]
    have e15 : gsfR (gnw (gsR T3 r 10 (some (hs + 3))) (hs + 4) 12 (2 * npA A)) (some r) 6 11 (some (hs + 4)) = some U := by rw [gsfR_at e14, hU]
    have e16 : ∀ (F : GS → Option (GS × Nat)), (gsfR (gnw (gsR T3 r 10 (some (hs + 3))) (hs + 4) 12 (2 * npA A)) (some r) 6 11 (some (hs + 4))).bind F = F U := fun F => by rw [e15]; rfl
    refine (e16 _).trans ?_
    exact g1
  · have FU : ∀ i, i < 4 → gT U (hs + i) = 11 ∧ gZ U (hs + i) = 2 * npA A ∧ gR U r (7 + i) = some (hs + i) ∧ ∀ p, gI U (hs + i) p = if p < npA A then gI S (dq i) p else 0 := by
      subst hU
      have b3 : ∀ a, a < hs + 4 → gT (gsR (gnw (gsR T3 r 10 (some (hs + 3))) (hs + 4) 12 (2 * npA A)) r 11 (some (hs + 4))) a = gT T3 a ∧ gZ (gsR (gnw (gsR T3 r 10 (some (hs + 3))) (hs + 4) 12 (2 * npA A)) r 11 (some (hs + 4))) a = gZ T3 a ∧ (∀ p, gI (gsR (gnw (gsR T3 r 10 (some (hs + 3))) (hs + 4) 12 (2 * npA A)) r 11 (some (hs + 4))) a p = gI T3 a p) := fun a ha => ⟨by rw [gT_gsR, gT_gnw, if_neg (by omega), gT_gsR], by rw [gZ_gsR, gZ_gnw, if_neg (by omega), gZ_gsR], fun p => by rw [gI_gsR, gI_gnw, if_neg (by omega), gI_gsR]⟩
      have c3 : ∀ k, k < 10 → gR (gsR (gnw (gsR T3 r 10 (some (hs + 3))) (hs + 4) 12 (2 * npA A)) r 11 (some (hs + 4))) r k = gR T3 r k := fun k hk => by rw [gR_gsR, if_neg (by omega), gR_gnw, if_neg (by omega), gR_gsR, if_neg (by omega)]
      have c4 : gR (gsR (gnw (gsR T3 r 10 (some (hs + 3))) (hs + 4) 12 (2 * npA A)) r 11 (some (hs + 4))) r 10 = some (hs + 3) := by rw [gR_gsR, if_neg (by omega), gR_gnw, if_neg (by omega), gR_gsR, if_pos ⟨rfl, rfl⟩]
      have b2 : ∀ a, a < hs + 3 → gT T3 a = gT T2 a ∧ gZ T3 a = gZ T2 a ∧ ∀ p, gI T3 a p = gI T2 a p := fun a ha => ⟨(q3 a ha).1, (q3 a ha).2.1, fun p => (q3 a ha).2.2.2 p id⟩
      have b1 : ∀ a, a < hs + 2 → gT T2 a = gT T1 a ∧ gZ T2 a = gZ T1 a ∧ ∀ p, gI T2 a p = gI T1 a p := fun a ha => ⟨(q2 a ha).1, (q2 a ha).2.1, fun p => (q2 a ha).2.2.2 p id⟩
      have b0 : ∀ a, a < hs + 1 → gT T1 a = gT T0 a ∧ gZ T1 a = gZ T0 a ∧ ∀ p, gI T1 a p = gI T0 a p := fun a ha => ⟨(q1 a ha).1, (q1 a ha).2.1, fun p => (q1 a ha).2.2.2 p id⟩
      have c2 : gR T3 r 9 = some (hs + 2) := by rw [(q3 r (by omega)).2.2.1, gR_gsR, if_pos ⟨rfl, rfl⟩]
      have c1 : gR T3 r 8 = some (hs + 1) := by rw [(q3 r (by omega)).2.2.1, gR_gsR, if_neg (by omega), (q2 r (by omega)).2.2.1, gR_gsR, if_pos ⟨rfl, rfl⟩]
      have c0 : gR T3 r 7 = some hs := by rw [(q3 r (by omega)).2.2.1, gR_gsR, if_neg (by omega), (q2 r (by omega)).2.2.1, gR_gsR, if_neg (by omega), (q1 r (by omega)).2.2.1, gR_gsR, if_pos ⟨rfl, rfl⟩]
      intro i hi
      have : i = 0 ∨ i = 1 ∨ i = 2 ∨ i = 3 := by omega
      rcases this with rfl | rfl | rfl | rfl
      · obtain ⟨m1, m2, m3⟩ := b3 (hs + 0) (by omega)
        obtain ⟨o1, o2, o3⟩ := b2 (hs + 0) (by omega)
        obtain ⟨x1, x2, x3⟩ := b1 (hs + 0) (by omega)
        obtain ⟨w1, w2, w3⟩ := b0 (hs + 0) (by omega)
        exact ⟨by rw [m1, o1, x1, w1]; exact r0, by rw [m2, o2, x2, w2]; exact s0, by rw [c3 _ (by omega)]; exact c0, fun p => by rw [m3, o3, x3, w3]; exact u0 p⟩
      · obtain ⟨m1, m2, m3⟩ := b3 (hs + 1) (by omega)
        obtain ⟨o1, o2, o3⟩ := b2 (hs + 1) (by omega)
        obtain ⟨x1, x2, x3⟩ := b1 (hs + 1) (by omega)
        exact ⟨by rw [m1, o1, x1]; exact r1, by rw [m2, o2, x2]; exact s1, by rw [c3 _ (by omega)]; exact c1, fun p => by rw [m3, o3, x3]; exact u1 p⟩
      · obtain ⟨m1, m2, m3⟩ := b3 (hs + 2) (by omega)
        obtain ⟨o1, o2, o3⟩ := b2 (hs + 2) (by omega)
        exact ⟨by rw [m1, o1]; exact r2, by rw [m2, o2]; exact s2, by rw [c3 _ (by omega)]; exact c2, fun p => by rw [m3, o3]; exact u2 p⟩
      · obtain ⟨m1, m2, m3⟩ := b3 (hs + 3) (by omega)
        exact ⟨by rw [m1]; exact r3, by rw [m2]; exact s3, c4, fun p => by rw [m3]; exact u3 p⟩
    have k5 : rGr r hs S T5 := k4.tr (n := hs) (fun a ha => ⟨g2.2.1 a, g2.2.2.1 a, fun k _ => g2.1 a k, fun k => g2.2.2.2 a k (by omega)⟩) (Nat.le_refl _)
    refine h.newD k5 (fun i hi => ?_) (fun i j _ _ e => by omega) (by omega) (by omega) (by omega) (fun i hi p hp => ?_) (fun p w1 w2 => by rw [g3, if_neg (by omega)]) (by omega) (fun a ha => ?_)
    · rw [g2.1, g2.2.1, g2.2.2.1]
      by_cases e : i = 4
      · subst e; exact ⟨U4.2.2.1, U4.1, U4.2.1, by omega⟩
      · obtain ⟨m1, m2, m3, -⟩ := FU i (by omega)
        exact ⟨m3, by rw [if_neg e]; exact m1, m2, by omega⟩
    · by_cases e : i = 4
      · subst e; rw [g3, if_pos hp, z4]
      · rw [g2.2.2.2 _ _ (by omega), (FU i (by omega)).2.2.2, if_pos hp]
    · rw [g2.2.1, ← hU, gT_gsR, gT_gnw, if_neg (by omega), gT_gsR]
      exact w3 a (by omega)
end RGro
