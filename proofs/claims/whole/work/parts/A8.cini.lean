/-! the start, in the class -/
section CIni
variable {b : Nat} {S S' : GS}
/-- the cells from lo to hi are the same -/
def sam (lo hi : Nat) (S S' : GS) : Prop := ∀ x, lo ≤ x → x < hi → gT S' x = gT S x ∧ gZ S' x = gZ S x ∧ (∀ k, gR S' x k = gR S x k) ∧ ∀ k, gI S' x k = gI S x k
theorem sam.rf {lo hi : Nat} : sam lo hi S S := fun _ _ _ => ⟨rfl, rfl, fun _ => rfl, fun _ => rfl⟩
theorem sam.tr {lo hi : Nat} {S'' : GS} (h : sam lo hi S S') (g : sam lo hi S' S'') : sam lo hi S S'' := fun x h1 h2 => by
  obtain ⟨a1, a2, a3, a4⟩ := h x h1 h2
  obtain ⟨b1, b2, b3, b4⟩ := g x h1 h2
  exact ⟨b1.trans a1, b2.trans a2, fun k => (b3 k).trans (a3 k), fun k => (b4 k).trans (a4 k)⟩
theorem sam.mono {lo hi lo' hi' : Nat} (h : sam lo hi S S') (h1 : lo ≤ lo') (h2 : hi' ≤ hi) : sam lo' hi' S S' := fun x a c => h x (by omega) (by omega)
theorem sam.new {lo hi a t z : Nat} (h : hi ≤ a ∨ a < lo) : sam lo hi S (gnw S a t z) := fun x h1 h2 => ⟨by rw [gT_gnw, if_neg (by omega)], by rw [gZ_gnw, if_neg (by omega)], fun k => by rw [gR_gnw, if_neg (by omega)], fun k => by rw [gI_gnw, if_neg (by omega)]⟩
theorem sam.set {lo hi a k : Nat} {v : Option Nat} (h : hi ≤ a ∨ a < lo) : sam lo hi S (gsR S a k v) := fun x h1 h2 => ⟨rfl, rfl, fun k => by rw [gR_gsR, if_neg (by omega)], fun k => rfl⟩
theorem sam.put {lo hi a k : Nat} {v : Int32} (h : hi ≤ a ∨ a < lo) : sam lo hi S (gsI S a k v) := fun x h1 h2 => ⟨rfl, rfl, fun k => rfl, fun k => by rw [gI_gsI, if_neg (by omega)]⟩
theorem sam.one {lo hi a : Nat} (g : gOne a S S') (h : hi ≤ a ∨ a < lo) : sam lo hi S S' := fun x h1 h2 => ⟨g.1 x (by omega), g.2.1 x (by omega), fun k => g.2.2.2 x k (by omega), fun k => g.2.2.1 x k (by omega)⟩
theorem sam.st {lo hi st : Nat} {L : List Tr} (h : sam lo hi S S') (g : cSt S st L) (h1 : lo ≤ st) (h2 : st + 3 < hi) : cSt S' st L := by
  obtain ⟨⟨k1, k2, k3, k4, k5, k6, k7, k8, k9, k10⟩, g2, g3, g4⟩ := g
  obtain ⟨a1, a2, a3, a4⟩ := h st h1 (by omega)
  obtain ⟨b1, b2, b3, b4⟩ := h (st + 1) (by omega) (by omega)
  obtain ⟨c1, c2, c3, c4⟩ := h (st + 2) (by omega) (by omega)
  obtain ⟨d1, d2, d3, d4⟩ := h (st + 3) (by omega) (by omega)
  refine ⟨⟨a1.trans k1, (a3 _).trans k2, (a3 _).trans k3, (a3 _).trans k4, b1.trans k5, c1.trans k6, d1.trans k7, b2.trans k8, c2.trans k9, d2.trans k10⟩, (a4 _).trans g2, g3, fun i hi => ?_⟩
  rw [← g4 i hi]
  unfold trw
  rw [b4, c4, d4]
def fre (S : GS) (n : Nat) : Prop := ∀ a, n ≤ a → gT S a = 0
/-- a store's start -/
theorem e_store {n : Nat} {o : Int32} (h : fre S n) (ho : gnr .boolean o = true) : ∃ S1, f_X3_init (gnw S n 4 0) (n + 1) n o = some (S1, n + 1 + 1 + 1 + 1) ∧ cSt S1 n [] ∧ gI S1 n 3 = o ∧ gI S1 n 5 = 0 ∧ fre S1 (n + 4) ∧ ∀ lo, sam lo n S S1 := by
  refine ⟨gsR (gnw (gsR (gnw (gsR (gnw (gsI (gnw S n 4 0) n 3 o) (n + 1) 11 24) n 0 (some (n + 1))) (n + 1 + 1) 11 24) n 1 (some (n + 1 + 1))) (n + 1 + 1 + 1) 11 24) n 2 (some (n + 1 + 1 + 1)), ?_, ⟨⟨?_, ?_, ?_, ?_, ?_, ?_, ?_, ?_, ?_, ?_⟩, ?_, by decide, fun i hi => by have : i < 0 := hi; omega⟩, ?_, ?_, fun a ha => ?_, fun lo => ?_⟩
  · have e24 : (24 : Int32).toNatClampNeg = 24 := by decide
    have t0 : gT (gnw S n 4 0) n = 4 := by rw [gT_gnw, if_pos rfl]
    have t1 : gT (gnw (gsI (gnw S n 4 0) n 3 o) (n + 1) 11 24) n = 4 := by rw [gT_gnw, if_neg (by omega)]; exact t0
    have t2 : gT (gnw (gsR (gnw (gsI (gnw S n 4 0) n 3 o) (n + 1) 11 24) n 0 (some (n + 1))) (n + 1 + 1) 11 24) n = 4 := by rw [gT_gnw, if_neg (by omega)]; exact t1
    have t3 : gT (gnw (gsR (gnw (gsR (gnw (gsI (gnw S n 4 0) n 3 o) (n + 1) 11 24) n 0 (some (n + 1))) (n + 1 + 1) 11 24) n 1 (some (n + 1 + 1))) (n + 1 + 1 + 1) 11 24) n = 4 := by rw [gT_gnw, if_neg (by omega)]; exact t2
    simp only [f_X3_init, ho, gck_t, gsfI_at t0, Option.bind_some, e24, gsfR_at t1, gsfR_at t2, gsfR_at t3]
  · simp only [gT_gsR, gT_gnw]; rw [if_neg (by omega), if_neg (by omega), if_neg (by omega)]; show gT (gsI (gnw S n 4 0) n 3 o) n = 4; rw [gT_gsI, gT_gnw, if_pos rfl]
  · rw [gR_gsR, if_neg (by omega), gR_gnw, if_neg (by omega), gR_gsR, if_neg (by omega), gR_gnw, if_neg (by omega), gR_gsR, if_pos ⟨rfl, rfl⟩]
  · rw [gR_gsR, if_neg (by omega), gR_gnw, if_neg (by omega), gR_gsR, if_pos ⟨rfl, rfl⟩]
  · rw [gR_gsR, if_pos ⟨rfl, rfl⟩]
  · simp only [gT_gsR, gT_gnw]; rw [if_neg (by omega), if_neg (by omega)]; exact if_pos trivial
  · simp only [gT_gsR, gT_gnw]; rw [if_neg (by omega)]; exact if_pos trivial
  · simp only [gT_gsR, gT_gnw]; exact if_pos trivial
  · simp only [gZ_gsR, gZ_gnw]; rw [if_neg (by omega), if_neg (by omega)]; exact if_pos trivial
  · simp only [gZ_gsR, gZ_gnw]; rw [if_neg (by omega)]; exact if_pos trivial
  · simp only [gZ_gsR, gZ_gnw]; exact if_pos trivial
  · simp only [gI_gsR, gI_gnw]; rw [if_neg (by omega), if_neg (by omega), if_neg (by omega)]; rw [gI_gsI, if_neg (by omega), gI_gnw, if_pos rfl]; rfl
  · simp only [gI_gsR, gI_gnw]; rw [if_neg (by omega), if_neg (by omega), if_neg (by omega)]; rw [gI_gsI, if_pos ⟨rfl, rfl⟩]
  · simp only [gI_gsR, gI_gnw]; rw [if_neg (by omega), if_neg (by omega), if_neg (by omega)]; rw [gI_gsI, if_neg (by omega), gI_gnw, if_pos rfl]
  · simp only [gT_gsR, gT_gnw]; rw [if_neg (by omega), if_neg (by omega), if_neg (by omega)]; rw [gT_gsI, gT_gnw, if_neg (by omega)]; exact h a (by omega)
  · exact ((((((((sam.new (Or.inl (Nat.le_refl _))).tr (sam.put (Or.inl (Nat.le_refl _)))).tr (sam.new (Or.inl (by omega)))).tr (sam.set (Or.inl (Nat.le_refl _)))).tr (sam.new (Or.inl (by omega)))).tr (sam.set (Or.inl (Nat.le_refl _)))).tr (sam.new (Or.inl (by omega)))).tr (sam.set (Or.inl (Nat.le_refl _))))
/-- a list's or map's pane, with its store, into its slot -/
theorem e_block {n j : Nat} {kd o jj : Int32} (h : fre S n) (hb : gT S b = 5 ∧ gR S b 0 = some (b + 1) ∧ gT S (b + 1) = 14 ∧ gZ S (b + 1) = 12) (hn : b + 2 ≤ n) (hj : j < 12) (hjj : jj = nI j) (ho : gnr .boolean o = true) (hk : gnr .char kd = true) :
    ∃ S1, (∀ {α : Type} (K : GS → Nat → Option α), ((gfR S (some b) 5 0).bind fun v5 => (some (gnw S n 2 0)).bind fun S7 => (some (gnw S7 (n + 1) 4 0)).bind fun S9 => gb2 (f_X3_init S9 ((n + 1) + 1) (n + 1) o) fun S12 n13 => (f_X1_init S12 n kd 1 (some (n + 1)) none).bind fun S15 => gck (gpn S15 (some n)) ((gsaR S15 v5 14 jj (some n)).bind fun S16 => K S16 n13)) = K S1 (n + 5)) ∧
      cSt S1 (n + 1) [] ∧ gI S1 (n + 1) 3 = o ∧ gI S1 (n + 1) 5 = 0 ∧ gT S1 n = 2 ∧ gI S1 n 0 = kd ∧ gI S1 n 1 = 1 ∧ gR S1 n 2 = some (n + 1) ∧ gR S1 n 3 = none ∧ gR S1 (b + 1) j = some n ∧ (∀ i, i ≠ j → gR S1 (b + 1) i = gR S (b + 1) i) ∧ gT S1 (b + 1) = 14 ∧ gZ S1 (b + 1) = 12 ∧ fre S1 (n + 5) ∧ sam (b + 2) n S S1 ∧ ∀ lo, sam lo (b + 1) S S1 := by
  subst hjj
  obtain ⟨b1, b2, b3, b4⟩ := hb
  have h1 : fre (gnw S n 2 0) (n + 1) := fun a ha => by rw [gT_gnw, if_neg (by omega)]; exact h a (by omega)
  obtain ⟨S2, y1, y2, y3, y4, y5, y6⟩ := e_store (o := o) h1 ho
  have t2 : gT S2 n = 2 := by rw [(y6 0 n (by omega) (by omega)).1, gT_gnw, if_pos rfl]
  obtain ⟨S3, z1, z2, z3, z4, z5, z6, z7⟩ := e_init (kd := kd) (o := 1) (st := some (n + 1)) (p := none) t2 hk (by decide)
  have f1 : ∀ lo, sam lo n S S2 := fun lo => (sam.new (Or.inl (Nat.le_refl _))).tr ((y6 lo).mono (Nat.le_refl _) (by omega))
  have f2 : ∀ lo, sam lo n S S3 := fun lo => (f1 lo).tr (sam.one z2 (Or.inl (Nat.le_refl _)))
  have f3 : sam (n + 1) (n + 5) S2 S3 := sam.one z2 (Or.inr (by omega))
  obtain ⟨g1, g2, g3, g4⟩ := f2 0 (b + 1) (by omega) (by omega)
  have hs : gsaR S3 (some (b + 1)) 14 (nI j) (some n) = some (gsR S3 (b + 1) j (some n)) := saR (g1.trans b3) (by rw [g2, b4]; exact hj) (by rw [g2, b4]; decide)
  refine ⟨gsR S3 (b + 1) j (some n), fun K => ?_, ?_, ?_, ?_, z3, z4, z5, ?_, ?_, ?_, fun i hi => ?_, g1.trans b3, g2.trans b4, fun a ha => ?_, ?_, fun lo => ?_⟩
  · have hp : gpn S3 (some n) = true := by show (gT S3 n == 2) = true; rw [z3]; rfl
    rw [gfR_at b1, b2, Option.bind_some, Option.bind_some, Option.bind_some, y1]
    show (f_X1_init S2 n kd 1 (some (n + 1)) none).bind _ = _
    rw [z1, Option.bind_some, hp, gck_t, hs, Option.bind_some]
  · exact (sam.set (lo := n + 1) (hi := n + 5) (Or.inr (by omega))).st (f3.st y2 (Nat.le_refl _) (by omega)) (Nat.le_refl _) (by omega)
  · rw [gI_gsR, (f3 (n + 1) (by omega) (by omega)).2.2.2]; exact y3
  · rw [gI_gsR, (f3 (n + 1) (by omega) (by omega)).2.2.2]; exact y4
  · rw [gR_gsR, if_neg (by omega)]; exact z6
  · rw [gR_gsR, if_neg (by omega)]; exact z7
  · rw [gR_gsR, if_pos ⟨rfl, rfl⟩]
  · rw [gR_gsR, if_neg (fun z => hi z.2)]; exact g3 i
  · rw [gT_gsR, z2.1 a (by omega)]; exact y5 a (by omega)
  · exact (f2 (b + 2)).tr (sam.set (Or.inr (by omega)))
  · exact ((f2 lo).mono (Nat.le_refl _) (by omega)).tr (sam.set (Or.inl (by omega)))
theorem c_init (h5 : gT S b = 5) (hf : fre S (b + 1)) : ∃ S1, f_X4_init S (b + 1) b = some (S1, b + 33) ∧ Rc b 0 S1 (b + 33) A0 ∧ sam 0 b S S1 := by
  have e12 : (12 : Int32).toNatClampNeg = 12 := by decide
  have e24 : (24 : Int32).toNatClampNeg = 24 := by decide
  -- the row of slots
  have s0a : gT (gsR (gnw S (b + 1) 14 12) b 0 (some (b + 1))) b = 5 := by rw [gT_gsR, gT_gnw, if_neg (by omega)]; exact h5
  have s0b : gR (gsR (gnw S (b + 1) 14 12) b 0 (some (b + 1))) b 0 = some (b + 1) := by rw [gR_gsR, if_pos ⟨rfl, rfl⟩]
  have s0c : gT (gsR (gnw S (b + 1) 14 12) b 0 (some (b + 1))) (b + 1) = 14 := by rw [gT_gsR, gT_gnw, if_pos rfl]
  have s0d : gZ (gsR (gnw S (b + 1) 14 12) b 0 (some (b + 1))) (b + 1) = 12 := by rw [gZ_gsR, gZ_gnw, if_pos rfl]
  have s0e : fre (gsR (gnw S (b + 1) 14 12) b 0 (some (b + 1))) (b + 2) := fun a ha => by rw [gT_gsR, gT_gnw, if_neg (by omega)]; exact hf a (by omega)
  have s0f : ∀ i, gR (gsR (gnw S (b + 1) 14 12) b 0 (some (b + 1))) (b + 1) i = none := fun i => by rw [gR_gsR, if_neg (by omega), gR_gnw, if_pos rfl]
  have s0g : sam 0 b S (gsR (gnw S (b + 1) 14 12) b 0 (some (b + 1))) := (sam.new (Or.inl (by omega))).tr (sam.set (Or.inl (Nat.le_refl _)))
  have t0 : gT (gnw S (b + 1) 14 12) b = 5 := by rw [gT_gnw, if_neg (by omega)]; exact h5
  have ev0 : gsfR (gnw S (b + 1) 14 12) (some b) 5 0 (some (b + 1)) = some (gsR (gnw S (b + 1) 14 12) b 0 (some (b + 1))) := gsfR_at t0
  generalize gsR (gnw S (b + 1) 14 12) b 0 (some (b + 1)) = S0 at *
  obtain ⟨A1, p1, p2, p3, p4, p5, p6, p7, p8, p9, p10, p11, p12, p13, p14, p15, p16⟩ := e_block (b := b) (S := S0) (n := b + 2) (j := 0) (kd := 108) (o := 0) (jj := 0) s0e ⟨s0a, s0b, s0c, s0d⟩ (by omega) (by omega) rfl (by decide) (by decide)
  obtain ⟨u1, u2, u3, u4⟩ := p16 0 b (by omega) (by omega)
  obtain ⟨A2, q1, q2, q3, q4, q5, q6, q7, q8, q9, q10, q11, q12, q13, q14, q15, q16⟩ := e_block (b := b) (S := A1) (n := b + 7) (j := 1) (kd := 108) (o := 0) (jj := 1) p14 ⟨u1.trans s0a, (u3 0).trans s0b, p12, p13⟩ (by omega) (by omega) (by decide) (by decide) (by decide)
  obtain ⟨v1, v2, v3, v4⟩ := q16 0 b (by omega) (by omega)
  obtain ⟨A3, r1, r2, r3, r4, r5, r6, r7, r8, r9, r10, r11, r12, r13, r14, r15, r16⟩ := e_block (b := b) (S := A2) (n := b + 12) (j := 2) (kd := 109) (o := 0) (jj := 2) q14 ⟨v1.trans (u1.trans s0a), (v3 0).trans ((u3 0).trans s0b), q12, q13⟩ (by omega) (by omega) (by decide) (by decide) (by decide)
  obtain ⟨w1, w2, w3, w4⟩ := r16 0 b (by omega) (by omega)
  obtain ⟨A4, k1, k2, k3, k4, k5, k6, k7, k8, k9, k10, k11, k12, k13, k14, k15, k16⟩ := e_block (b := b) (S := A3) (n := b + 17) (j := 3) (kd := 109) (o := 1) (jj := 3) r14 ⟨w1.trans (v1.trans (u1.trans s0a)), (w3 0).trans ((v3 0).trans ((u3 0).trans s0b)), r12, r13⟩ (by omega) (by omega) (by decide) (by decide) (by decide)
  obtain ⟨x1, x2, x3, x4⟩ := k16 0 b (by omega) (by omega)
  have b5 : gT A4 b = 5 := x1.trans (w1.trans (v1.trans (u1.trans s0a)))
  have bR : gR A4 b 0 = some (b + 1) := (x3 0).trans ((w3 0).trans ((v3 0).trans ((u3 0).trans s0b)))
  -- the help
  obtain ⟨B1, c1, c2, c3, c4, c5, c6⟩ := e_store (S := A4) (n := b + 22) (o := 0) k14 (by decide)
  have d5 : gT B1 b = 5 := (c6 0 b (by omega) (by omega)).1.trans b5
  have ev1 : gsfR B1 (some b) 5 1 (some (b + 22)) = some (gsR B1 b 1 (some (b + 22))) := gsfR_at d5
  have g5 : gT (gnw (gsR B1 b 1 (some (b + 22))) (b + 26) 12 24) b = 5 := by rw [gT_gnw, if_neg (by omega)]; exact d5
  have ev2 : gsfR (gnw (gsR B1 b 1 (some (b + 22))) (b + 26) 12 24) (some b) 5 2 (some (b + 26)) = some (gsR (gnw (gsR B1 b 1 (some (b + 22))) (b + 26) 12 24) b 2 (some (b + 26))) := gsfR_at g5
  have B2T : gT (gsR (gnw (gsR B1 b 1 (some (b + 22))) (b + 26) 12 24) b 2 (some (b + 26))) (b + 26) = 12 := by rw [gT_gsR, gT_gnw, if_pos rfl]
  have B2Z : gZ (gsR (gnw (gsR B1 b 1 (some (b + 22))) (b + 26) 12 24) b 2 (some (b + 26))) (b + 26) = 24 := by rw [gZ_gsR, gZ_gnw, if_pos rfl]
  have B2R1 : gR (gsR (gnw (gsR B1 b 1 (some (b + 22))) (b + 26) 12 24) b 2 (some (b + 26))) b 1 = some (b + 22) := by rw [gR_gsR, if_neg (by omega), gR_gnw, if_neg (by omega), gR_gsR, if_pos ⟨rfl, rfl⟩]
  have B2R2 : gR (gsR (gnw (gsR B1 b 1 (some (b + 22))) (b + 26) 12 24) b 2 (some (b + 26))) b 2 = some (b + 26) := by rw [gR_gsR, if_pos ⟨rfl, rfl⟩]
  have B2R0 : gR (gsR (gnw (gsR B1 b 1 (some (b + 22))) (b + 26) 12 24) b 2 (some (b + 26))) b 0 = some (b + 1) := by rw [gR_gsR, if_neg (by omega), gR_gnw, if_neg (by omega), gR_gsR, if_neg (by omega), (c6 0 b (by omega) (by omega)).2.2.1]; exact bR
  have B2F : fre (gsR (gnw (gsR B1 b 1 (some (b + 22))) (b + 26) 12 24) b 2 (some (b + 26))) (b + 27) := fun a ha => by rw [gT_gsR, gT_gnw, if_neg (by omega), gT_gsR]; exact c5 a (by omega)
  have B2s : sam (b + 1) (b + 26) B1 (gsR (gnw (gsR B1 b 1 (some (b + 22))) (b + 26) 12 24) b 2 (some (b + 26))) := ((sam.set (Or.inr (by omega))).tr (sam.new (Or.inl (Nat.le_refl _)))).tr (sam.set (Or.inr (by omega)))
  have B2l : sam 0 b B1 (gsR (gnw (gsR B1 b 1 (some (b + 22))) (b + 26) 12 24) b 2 (some (b + 26))) := ((sam.set (Or.inl (Nat.le_refl _))).tr (sam.new (Or.inl (by omega)))).tr (sam.set (Or.inl (Nat.le_refl _)))
  have B2b : gT (gsR (gnw (gsR B1 b 1 (some (b + 22))) (b + 26) 12 24) b 2 (some (b + 26))) b = 5 := g5
  generalize gsR (gnw (gsR B1 b 1 (some (b + 22))) (b + 26) 12 24) b 2 (some (b + 26)) = B2 at *
  -- the checker
  have hB3f : fre (gnw B2 (b + 27) 1 0) (b + 28) := fun a ha => by rw [gT_gnw, if_neg (by omega)]; exact B2F a (by omega)
  obtain ⟨C1, m1, m2, m3, m4, m5, m6⟩ := e_store (S := gnw B2 (b + 27) 1 0) (n := b + 28) (o := 0) hB3f (by decide)
  have n1 : gT C1 (b + 27) = 1 := by rw [(m6 0 (b + 27) (by omega) (by omega)).1, gT_gnw, if_pos rfl]
  have C2T : gT (gnw (gsR C1 (b + 27) 0 (some (b + 28))) (b + 32) 2 0) (b + 32) = 2 := by rw [gT_gnw, if_pos rfl]
  obtain ⟨C3, o1, o2, o3, o4, o5, o6, o7⟩ := e_init (kd := 108) (o := 1) (st := some (b + 28)) (p := none) C2T (by decide) (by decide)
  have n3 : gT C3 (b + 27) = 1 := by rw [o2.1 _ (by omega), gT_gnw, if_neg (by omega)]; exact n1
  have ev3 : f_X0_init (gnw B2 (b + 27) 1 0) ((b + 27) + 1) (b + 27) = some (gsR C3 (b + 27) 1 (some (b + 32)), b + 33) := by
    have m1' : f_X3_init (gnw (gnw B2 (b + 27) 1 0) (b + 27 + 1) 4 0) (b + 27 + 1 + 1) (b + 27 + 1) 0 = some (C1, b + 32) := m1
    have e1 : gsfR C1 (some (b + 27)) 1 0 (some (b + 27 + 1)) = some (gsR C1 (b + 27) 0 (some (b + 28))) := gsfR_at n1
    have e2 : gfR (gnw (gsR C1 (b + 27) 0 (some (b + 28))) (b + 32) 2 0) (some (b + 27)) 1 0 = some (some (b + 28)) := by
      rw [gfR_at (by rw [gT_gnw, if_neg (by omega)]; exact n1), gR_gnw, if_neg (by omega), gR_gsR, if_pos ⟨rfl, rfl⟩]
    have e3 : gsfR C3 (some (b + 27)) 1 1 (some (b + 32)) = some (gsR C3 (b + 27) 1 (some (b + 32))) := gsfR_at n3
    unfold f_X0_init
    rw [Option.bind_some, m1', gb2_s, e1, Option.bind_some, Option.bind_some, e2, Option.bind_some, o1, Option.bind_some, e3, Option.bind_some]
  have D1 : ∀ x, x < b + 27 → gT (gsR C3 (b + 27) 1 (some (b + 32))) x = gT B2 x ∧ gZ (gsR C3 (b + 27) 1 (some (b + 32))) x = gZ B2 x ∧ (∀ k, gR (gsR C3 (b + 27) 1 (some (b + 32))) x k = gR B2 x k) ∧ ∀ k, gI (gsR C3 (b + 27) 1 (some (b + 32))) x k = gI B2 x k := fun x hx =>
    (((((sam.new (lo := 0) (hi := b + 27) (S := B2) (a := b + 27) (Or.inl (Nat.le_refl _))).tr ((m6 0).mono (Nat.le_refl _) (by omega))).tr (sam.set (Or.inl (Nat.le_refl _)))).tr (sam.new (Or.inl (by omega)))).tr (sam.one o2 (Or.inl (by omega))) |>.tr (sam.set (Or.inl (Nat.le_refl _)))) x (by omega) hx
  have cst2 : cSt (gsR C3 (b + 27) 1 (some (b + 32))) (b + 28) [] := ((((sam.set (lo := b + 28) (hi := b + 32) (S := C1) (a := b + 27) (k := 0) (v := some (b + 28)) (Or.inr (by omega))).tr (sam.new (Or.inl (by omega)))).tr (sam.one o2 (Or.inl (by omega)))).tr (sam.set (Or.inr (by omega)))).st m2 (Nat.le_refl _) (by omega)
  have Dd : gT (gsR C3 (b + 27) 1 (some (b + 32))) (b + 27) = 1 ∧ gR (gsR C3 (b + 27) 1 (some (b + 32))) (b + 27) 0 = some (b + 28) ∧ gR (gsR C3 (b + 27) 1 (some (b + 32))) (b + 27) 1 = some (b + 32) := ⟨n3, by rw [gR_gsR, if_neg (by omega), o2.2.2.2 _ _ (by omega), gR_gnw, if_neg (by omega), gR_gsR, if_pos ⟨rfl, rfl⟩], by rw [gR_gsR, if_pos ⟨rfl, rfl⟩]⟩
  have De : gT (gsR C3 (b + 27) 1 (some (b + 32))) (b + 32) = 2 ∧ gI (gsR C3 (b + 27) 1 (some (b + 32))) (b + 32) 0 = 108 ∧ gR (gsR C3 (b + 27) 1 (some (b + 32))) (b + 32) 2 = some (b + 28) ∧ gR (gsR C3 (b + 27) 1 (some (b + 32))) (b + 32) 3 = none := ⟨o3, o4, by rw [gR_gsR, if_neg (by omega)]; exact o6, by rw [gR_gsR, if_neg (by omega)]; exact o7⟩
  have Df : fre (gsR C3 (b + 27) 1 (some (b + 32))) (b + 33) := fun a ha => by rw [gT_gsR, o2.1 _ (by omega), gT_gnw, if_neg (by omega), gT_gsR]; exact m5 a (by omega)
  have ev4 : ∀ (D : GS), gT D b = 5 → gsfR D (some b) 5 3 (some (b + 27)) = some (gsR D b 3 (some (b + 27))) := fun D hD => gsfR_at hD
  generalize gsR C3 (b + 27) 1 (some (b + 32)) = D at *
  have Db : gT D b = 5 := (D1 b (by omega)).1.trans B2b
  refine ⟨gsR D b 3 (some (b + 27)), ?_, ⟨WF_A0, Nat.zero_le _, fun _ => 0, fun _ => 0, ?_⟩, ?_⟩
  · unfold f_X4_init
    rw [e12, Option.bind_some, ev0, Option.bind_some]
    refine (p1 _).trans ?_
    refine (q1 _).trans ?_
    refine (r1 _).trans ?_
    refine (k1 _).trans ?_
    have c1' : f_X3_init (gnw A4 (b + 17 + 5) 4 0) (b + 17 + 5 + 1) (b + 17 + 5) 0 = some (B1, b + 26) := c1
    have ev1' : gsfR B1 (some b) 5 1 (some (b + 17 + 5)) = some (gsR B1 b 1 (some (b + 22))) := ev1
    have ev3' : f_X0_init (gnw B2 (b + 26 + 1) 1 0) (b + 26 + 1 + 1) (b + 26 + 1) = some (D, b + 33) := ev3
    have ev4' : gsfR D (some b) 5 3 (some (b + 26 + 1)) = some (gsR D b 3 (some (b + 27))) := ev4 D Db
    rw [Option.bind_some, c1', gb2_s, ev1', Option.bind_some, e24, Option.bind_some, ev2, Option.bind_some, Option.bind_some, ev3', gb2_s, ev4', Option.bind_some]
  · -- what the cells hold
    have J : ∀ x, b + 1 ≤ x → x < b + 22 → gT (gsR D b 3 (some (b + 27))) x = gT A4 x ∧ gZ (gsR D b 3 (some (b + 27))) x = gZ A4 x ∧ (∀ k, gR (gsR D b 3 (some (b + 27))) x k = gR A4 x k) ∧ ∀ k, gI (gsR D b 3 (some (b + 27))) x k = gI A4 x k := fun x h1 h2 =>
      ((((c6 (b + 1)).tr (B2s.mono (Nat.le_refl _) (by omega))).tr (fun y _ hy => D1 y (by omega))).tr (sam.set (Or.inr (by omega)))) x h1 h2
    have K1 : sam (b + 2) (b + 7) A1 (gsR D b 3 (some (b + 27))) := (((q15.mono (Nat.le_refl _) (Nat.le_refl _)).tr (r15.mono (Nat.le_refl _) (by omega))).tr (k15.mono (Nat.le_refl _) (by omega))).tr (fun x h1 h2 => J x (by omega) (by omega))
    have K2 : sam (b + 7) (b + 12) A2 (gsR D b 3 (some (b + 27))) := ((r15.mono (by omega) (Nat.le_refl _)).tr (k15.mono (by omega) (by omega))).tr (fun x h1 h2 => J x (by omega) (by omega))
    have K3 : sam (b + 12) (b + 17) A3 (gsR D b 3 (some (b + 27))) := (k15.mono (by omega) (Nat.le_refl _)).tr (fun x h1 h2 => J x (by omega) (by omega))
    have K4 : sam (b + 17) (b + 22) A4 (gsR D b 3 (some (b + 27))) := fun x h1 h2 => J x (by omega) (by omega)
    have R1 : ∀ i, gR (gsR D b 3 (some (b + 27))) (b + 1) i = gR A4 (b + 1) i := fun i => (J (b + 1) (by omega) (by omega)).2.2.1 i
    have sl0 : gR (gsR D b 3 (some (b + 27))) (b + 1) 0 = some (b + 2) := by rw [R1, k11 0 (by omega), r11 0 (by omega), q11 0 (by omega)]; exact p10
    have sl1 : gR (gsR D b 3 (some (b + 27))) (b + 1) 1 = some (b + 7) := by rw [R1, k11 1 (by omega), r11 1 (by omega)]; exact q10
    have sl2 : gR (gsR D b 3 (some (b + 27))) (b + 1) 2 = some (b + 12) := by rw [R1, k11 2 (by omega)]; exact r10
    have sl3 : gR (gsR D b 3 (some (b + 27))) (b + 1) 3 = some (b + 17) := by rw [R1]; exact k10
    have sl4 : ∀ i, 4 ≤ i → gR (gsR D b 3 (some (b + 27))) (b + 1) i = none := fun i hi => by rw [R1, k11 i (by omega), r11 i (by omega), q11 i (by omega), p11 i (by omega)]; exact s0f i
    refine ⟨⟨⟨Db, ?_, ?_, ?_, ?_⟩, ⟨?_, ?_⟩, ⟨?_, ?_⟩, ⟨Dd.1, ?_, ?_⟩, ⟨De.1, De.2.1, ?_, ?_⟩⟩, fun j hj => ?_, ⟨⟨[], ?_⟩, ⟨[], ?_⟩⟩, fun s hs => ?_, fun p hp => by have : p < 0 := hp; omega, fun p q hp => by have : p < 0 := hp; omega, Df, Nat.le_refl _, Nat.zero_le _⟩
    · rw [gR_gsR, if_neg (by omega), (D1 b (by omega)).2.2.1]; exact B2R0
    · rw [gR_gsR, if_neg (by omega), (D1 b (by omega)).2.2.1]; exact B2R1
    · rw [gR_gsR, if_neg (by omega), (D1 b (by omega)).2.2.1]; exact B2R2
    · rw [gR_gsR, if_pos ⟨rfl, rfl⟩]
    · exact (J (b + 1) (by omega) (by omega)).1.trans k12
    · exact (J (b + 1) (by omega) (by omega)).2.1.trans k13
    · exact (D1 (b + 26) (by omega)).1.trans B2T
    · exact (D1 (b + 26) (by omega)).2.1.trans B2Z
    · rw [gR_gsR, if_neg (by omega)]; exact Dd.2.1
    · rw [gR_gsR, if_neg (by omega)]; exact Dd.2.2
    · rw [gR_gsR, if_neg (by omega)]; exact De.2.2.1
    · rw [gR_gsR, if_neg (by omega)]; exact De.2.2.2
    · have : j = 0 ∨ j = 1 ∨ j = 2 ∨ j = 3 := by omega
      rcases this with rfl | rfl | rfl | rfl
      · exact ⟨K1.st (st := b + 3) p2 (by omega) (by omega), ((K1 (b + 3) (by omega) (by omega)).2.2.2 3).trans p3, ((K1 (b + 3) (by omega) (by omega)).2.2.2 5).trans p4, Nat.le_refl _⟩
      · exact ⟨K2.st (st := b + 8) q2 (by omega) (by omega), ((K2 (b + 8) (by omega) (by omega)).2.2.2 3).trans q3, ((K2 (b + 8) (by omega) (by omega)).2.2.2 5).trans q4, Nat.le_refl _⟩
      · exact ⟨K3.st (st := b + 13) r2 (by omega) (by omega), ((K3 (b + 13) (by omega) (by omega)).2.2.2 3).trans r3, ((K3 (b + 13) (by omega) (by omega)).2.2.2 5).trans r4, Nat.le_refl _⟩
      · exact ⟨K4.st (st := b + 18) k2 (by omega) (by omega), ((K4 (b + 18) (by omega) (by omega)).2.2.2 3).trans k3, ((K4 (b + 18) (by omega) (by omega)).2.2.2 5).trans k4, Nat.le_refl _⟩
    · exact ((((B2s.mono (lo' := b + 22) (by omega) (Nat.le_refl _)).tr (fun y _ hy => D1 y (by omega))).tr (sam.set (Or.inr (by omega))))).st c2 (Nat.le_refl _) (by omega)
    · exact (sam.set (lo := b + 28) (hi := b + 32) (Or.inr (by omega))).st cst2 (Nat.le_refl _) (by omega)
    · have : s = 0 ∨ s = 1 ∨ s = 2 ∨ s = 3 ∨ 4 ≤ s := by omega
      rcases this with rfl | rfl | rfl | rfl | c
      · obtain ⟨y1, y2, y3, y4⟩ := K1 (b + 2) (by omega) (by omega)
        exact ⟨fun e => absurd e (by decide), fun _ => ⟨b + 2, sl0, y1.trans p5, (y4 0).trans p6, (y4 1).trans p7, (y3 2).trans p8, (y3 3).trans p9, fun e => absurd e (by decide)⟩⟩
      · obtain ⟨y1, y2, y3, y4⟩ := K2 (b + 7) (by omega) (by omega)
        exact ⟨fun e => absurd e (by decide), fun _ => ⟨b + 7, sl1, y1.trans q5, (y4 0).trans q6, (y4 1).trans q7, (y3 2).trans q8, (y3 3).trans q9, fun e => absurd e (by decide)⟩⟩
      · obtain ⟨y1, y2, y3, y4⟩ := K3 (b + 12) (by omega) (by omega)
        exact ⟨fun e => absurd e (by decide), fun _ => ⟨b + 12, sl2, y1.trans r5, (y4 0).trans r6, (y4 1).trans r7, (y3 2).trans r8, (y3 3).trans r9, fun e => absurd e (by decide)⟩⟩
      · obtain ⟨y1, y2, y3, y4⟩ := K4 (b + 17) (by omega) (by omega)
        exact ⟨fun e => absurd e (by decide), fun _ => ⟨b + 17, sl3, y1.trans k5, (y4 0).trans k6, (y4 1).trans k7, (y3 2).trans k8, (y3 3).trans k9, fun e => absurd e (by decide)⟩⟩
      · have e : slA A0 s = nil0 := by
          show (if s = 0 then _ else if s = 1 then _ else if s = 2 then _ else if s = 3 then _ else nil0) = nil0
          rw [if_neg (by omega), if_neg (by omega), if_neg (by omega), if_neg (by omega)]
        rw [e]
        exact ⟨fun _ => sl4 s c, fun q => absurd rfl q⟩
  · exact (((((((s0g.tr ((p16 0).mono (Nat.le_refl _) (by omega))).tr ((q16 0).mono (Nat.le_refl _) (by omega))).tr ((r16 0).mono (Nat.le_refl _) (by omega))).tr ((k16 0).mono (Nat.le_refl _) (by omega))).tr ((c6 0).mono (Nat.le_refl _) (by omega))).tr B2l).tr (fun x _ hx => D1 x (by omega))).tr (sam.set (Or.inl (Nat.le_refl _)))
end CIni
