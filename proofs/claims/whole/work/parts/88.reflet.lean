/-! the reference lets parts go -/
/-- but for the numbers of one cell -/
def rOn (a : Nat) (S S' : GS) : Prop := (∀ b k, gR S' b k = gR S b k) ∧ (∀ b, gT S' b = gT S b) ∧ (∀ b, gZ S' b = gZ S b) ∧ ∀ b k, b ≠ a → gI S' b k = gI S b k
theorem rOn.rf {a : Nat} {S : GS} : rOn a S S := ⟨fun _ _ => rfl, fun _ => rfl, fun _ => rfl, fun _ _ _ => rfl⟩
theorem rOn.tr {a : Nat} {S S' S'' : GS} (h : rOn a S S') (g : rOn a S' S'') : rOn a S S'' := ⟨fun b k => (g.1 b k).trans (h.1 b k), fun b => (g.2.1 b).trans (h.2.1 b), fun b => (g.2.2.1 b).trans (h.2.2.1 b), fun b k e => (g.2.2.2 b k e).trans (h.2.2.2 b k e)⟩
theorem rOn.one {a k : Nat} {S : GS} {v : Int32} : rOn a S (gsI S a k v) := ⟨fun _ _ => rfl, fun _ => rfl, fun _ => rfl, fun b j e => by rw [gI_gsI, if_neg (fun z => e z.1)]⟩
section RLet
variable {S S' : GS} {r cap hs hs' a : Nat} {dq : Nat → Nat} {A B : AS}
theorem rOn.hd (f : rOn a S S') (h : rHd S r dq cap) : rHd S' r dq cap := by
  obtain ⟨f1, f2, f3, -⟩ := f
  unfold rHd at h ⊢
  simp only [f1, f2, f3]
  exact h
theorem rOn.fr (f : rOn a S S') {W : Nat → Nat → Prop} (hW : ∀ k, W a k) : rFr hs W S S' := fun b _ => ⟨f.2.1 b, f.2.2.1 b, fun k => f.1 b k, fun k q => f.2.2.2 b k (fun e => q (e ▸ hW k))⟩
theorem gsI_on {k : Nat} {v : Int32} {T : GS} (f : rOn a S T) : rOn a S (gsI T a k v) := f.tr rOn.one
theorem c_stay {x1 : Int32} {m : Nat} : ∀ (l : List Nat) (o : Option Nat) (T : GS) (n : Nat), isC2 A o l → (∀ q ∈ l, q < npA A) → rHd T r dq cap → npA A ≤ cap → (∀ p, p < npA A → gI T (dq 1) p = oI (pA (ptA A p))) → gT T hs = 12 → gZ T hs = npA A → npA A ≤ 512 → dq 1 ≠ hs → l.length < n →
    ∃ T', f_X5_letsGo_L10 r n T m x1 (some hs) (oI o) = f_X5_letsGo_L36 r gN T' m x1 (some hs) 0 ∧ rOn hs T T' ∧ ∀ p, gI T' hs p = if p ∈ l then 1 else gI T hs p := by
  intro l
  induction l with
  | nil =>
    intro o T n h1 h2 h3 h4 h5 h6 h7 h8 h9 h10
    obtain ⟨n, rfl⟩ : ∃ k, n = k + 1 := ⟨n - 1, by omega⟩
    have : o = none := h1
    subst this
    exact ⟨T, by simp only [f_X5_letsGo_L10, oI_none, if_true], rOn.rf, fun p => by simp⟩
  | cons q l ih =>
    intro o T n h1 h2 h3 h4 h5 h6 h7 h8 h9 h10
    obtain ⟨n, rfl⟩ : ∃ k, n = k + 1 := ⟨n - 1, by omega⟩
    obtain ⟨rfl, h1⟩ : o = some q ∧ isC2 A (pA (ptA A q)) l := h1
    have hq := h2 q List.mem_cons_self
    have hT : gsaI T (some hs) 12 (nI q) 1 = some (gsI T hs q 1) := saI h6 (by omega) (by omega)
    have h3' := h3.gs hs q 1
    have e1 : gI (gsI T hs q 1) (dq 1) q = oI (pA (ptA A q)) := by rw [gI_gsI, if_neg (by omega)]; exact h5 q hq
    obtain ⟨T', g1, g2, g3⟩ := ih (pA (ptA A q)) (gsI T hs q 1) n h1 (fun p hp => h2 p (List.mem_cons_of_mem _ hp)) h3' h4 (fun p hp => by rw [gI_gsI, if_neg (by omega)]; exact h5 p hp) h6 h7 h8 h9 (by simp only [List.length_cons] at h10; omega)
    refine ⟨T', ?_, rOn.one.tr g2, fun p => ?_⟩
    · rw [← g1]
      simp (disch := omega) only [f_X5_letsGo_L10, oI_some, nI_m1, if_false, hT, Option.bind_some, h3'.fs, h3'.rs.2.2.2.2.2.2.2.2.2.2.2.1 q (by omega), e1]
    · rw [g3, gI_gsI]
      by_cases a1 : p ∈ l
      · rw [if_pos a1, if_pos (List.mem_cons_of_mem _ a1)]
      · rw [if_neg a1]
        by_cases a2 : p = q
        · subst a2; rw [if_pos ⟨rfl, rfl⟩, if_pos List.mem_cons_self]
        · rw [if_neg (fun z => a2 z.2), if_neg (fun z => (List.mem_cons.mp z).elim a2 a1)]
theorem c_gone {j m : Nat} {o : Option Nat} {T0 : GS} (h1 : rHd T0 r dq cap) (hn : gI T0 r 12 = nI (npA A)) (h4 : npA A ≤ cap) (h8 : npA A ≤ 512) (hj : j < 2) (hP : ∀ p, p < npA A → rPt T0 dq p (ptA A p)) (hL : ∀ p, p < npA A → pG (ptA A p) = false → pL (ptA A p) < 2) (h6 : gT T0 hs = 12) (h7 : gZ T0 hs = npA A) (hd : ∀ i, i < 5 → dq i ≠ hs ∧ dq i ≠ r)
    (hst : ∀ p, p < npA A → gI T0 hs p = b2i (decide (p ∈ chA A o))) :
    ∃ T', f_X5_letsGo_L36 r gN T0 m (nI j) (some hs) 0 = f_X5_letsGo_L94 r gN T' m 4 ∧ rOn (dq 4) T0 T' ∧ (∀ p, p < npA A → gI T' (dq 4) p = b2i (goP A j o p)) ∧ ∀ p, npA A ≤ p → gI T' (dq 4) p = gI T0 (dq 4) p := by
  have hne : ∀ i, i < 4 → dq i ≠ dq 4 := fun i hi e => by have := h1.2.2.2.2.2.1 i 4 (by omega) (by omega) e; omega
  obtain ⟨T, ⟨t1, t2, t4⟩, n, t3⟩ := lpG0 (F := fun n T i => f_X5_letsGo_L36 r n T m (nI j) (some hs) i) (fun i T => rOn (dq 4) T0 T ∧ (∀ p, p < npA A → gI T (dq 4) p = if p < i then b2i (goP A j o p) else b2i (pG (ptA A p))) ∧ ∀ p, npA A ≤ p → gI T (dq 4) p = gI T0 (dq 4) p) (npA A) (fun n T i hi hI => by
      obtain ⟨i1, i2, i3⟩ := hI
      have hT := i1.hd h1
      have e0 := i2 i hi
      rw [if_neg (by omega)] at e0
      have e1 : gI T r 12 = nI (npA A) := (i1.2.2.2 r 12 (fun z => (hd 4 (by omega)).2 z.symm)).trans hn
      have e2 : gI T (dq 0) i = nI (pL (ptA A i)) := (i1.2.2.2 _ _ (hne 0 (by omega))).trans (hP i hi).1
      have e3 : gaI T (some hs) 12 (nI i) = some (b2i (decide (i ∈ chA A o))) := by
        rw [aI (by rw [i1.2.1]; exact h6) (by rw [i1.2.2.1, h7]; exact hi) (by rw [i1.2.2.1, h7]; omega), i1.2.2.2 _ _ (fun z => (hd 4 (by omega)).1 z.symm), hst i hi]
      have q : (npA A ≤ i) = False := eq_false (by omega)
      have hw := fun v => hT.ws.2.2.2.2.2.2.2.2.2.2.2.2.2.2 i v (show i < cap by omega)
      refine ⟨gsI T (dq 4) i (b2i (goP A j o i)), ⟨gsI_on i1, fun p hp => ?_, fun p hp => by rw [gI_gsI, if_neg (by omega)]; exact i3 p hp⟩, ?_⟩
      · rw [gI_gsI]
        by_cases a1 : p = i
        · subst a1; rw [if_pos ⟨rfl, rfl⟩, if_pos (by omega)]
        · rw [if_neg (fun z => a1 z.2), i2 p hp]
          by_cases a2 : p < i
          · rw [if_pos a2, if_pos (by omega)]
          · rw [if_neg a2, if_neg (by omega)]
      · have n0 : gnr .boolean 0 = true := by decide
        have n1 : gnr .boolean 1 = true := by decide
        simp (disch := omega) only [f_X5_letsGo_L36, f_X5_letsGo_b79, f_X5_letsGo_b83, f_X5_letsGo_b84, hT.fs, e1, Option.bind_some, nI_leI, q, if_false, hT.rs.2.2.2.2.2.2.2.2.2.2.2.2.2.2 i (by omega), e0, b2i_0, hT.rs.2.2.2.2.2.2.2.2.2.2.1 i (by omega), e2, e3, n0, n1, gck_t, hw, nI_1]
        unfold goP
        cases hg : pG (ptA A i)
        · have hl := hL i hi hg
          simp (disch := omega) only [if_true, nI_eq, Bool.false_or]
          by_cases a1 : pL (ptA A i) = j
          · simp only [a1, if_true, decide_true, Bool.true_and]
            by_cases a2 : i ∈ chA A o
            · simp only [a2, decide_true, Bool.true_eq_false, if_false, not_true_eq_false, decide_false]; rfl
            · simp only [a2, decide_false, if_true, not_false_eq_true, decide_true]; rfl
          · simp only [a1, if_false, decide_false, Bool.false_and]; rfl
        · simp only [Bool.true_eq_false, if_false, Bool.true_or]; rfl) (by omega) T0 ⟨rOn.rf, fun p hp => by rw [if_neg (by omega)]; exact (hP p hp).2.2.2.2, fun p hp => rfl⟩
  refine ⟨T, ?_, t1, fun p hp => by rw [t2 p hp, if_pos hp], t4⟩
  have hT := t1.hd h1
  have e1 : gI T r 12 = nI (npA A) := (t1.2.2.2 r 12 (fun z => (hd 4 (by omega)).2 z.symm)).trans hn
  rw [t3]
  simp only [f_X5_letsGo_L36, hT.fs, e1, Option.bind_some, Int32.le_refl, if_true]
/-- the slots of parts that went -/
def aGoS (A : AS) (j : Nat) (o : Option Nat) (i : Nat) : AS := (A.1, fun s => if s < i ∧ goS A j o s = true then nil0 else slA A s, A.2.2.1, fun p => (pL (ptA A p), pA (ptA A p), pF (ptA A p), pZ (ptA A p), goP A j o p))
theorem c_goS {j m : Nat} {o : Option Nat} {T0 : GS} (h : Rq r dq cap T0 hs (aGoS A j o 4)) (hK : ∀ s, s < 12 → kA A s ≠ 45 → ∀ p, sP (slA A s) = some p → (kA A s = 112 ∨ kA A s = 102) ∧ p < npA A) :
    ∃ T', f_X5_letsGo_L94 r gN T0 m 4 = some (T', m) ∧ Rq r dq cap T' hs (aGoS A j o 12) ∧ (∀ k, gI T' r k = gI T0 r k) := by
  have hcap := h.1.2.2.2.2.2.2
  have hnp := h.2.1.2.1
  have hnp : npA A ≤ cap := hnp
  have e4 : (4 : Int32) = nI 4 := n_4
  obtain ⟨T, ⟨-, t1, t2⟩, n, t3⟩ := lpG (F := fun n T i => f_X5_letsGo_L94 r n T m i) (fun i T => 4 ≤ i ∧ Rq r dq cap T hs (aGoS A j o i) ∧ (∀ k, gI T r k = gI T0 r k)) 12 (fun n T i hi hI => by
      obtain ⟨h4, i1, i2⟩ := hI
      have q : (12 ≤ i) = False := eq_false (by omega)
      have hi0 : slA (aGoS A j o i) i = slA A i := by
        show (if i < i ∧ _ then nil0 else slA A i) = _
        rw [if_neg (by omega)]
      have hkd := i1.kd hi
      have hkd : gI T (r + 23) i = kA A i := by rw [hkd]; unfold kA; rw [hi0]
      have x2 := (i1.2.2.2.2.1 i hi).2
      rw [hi0] at x2
      have hext : goS A j o i = false → Rq r dq cap T hs (aGoS A j o (i + 1)) := fun hg => i1.ext (fun _ _ => rfl) (fun s' hs' => by
        show (if s' < i + 1 ∧ goS A j o s' = true then nil0 else slA A s') = (if s' < i ∧ goS A j o s' = true then nil0 else slA A s')
        by_cases e : s' = i
        · subst e; rw [if_neg (by rw [hg]; exact fun z => by cases z.2), if_neg (by omega)]
        · by_cases e2 : s' < i ∧ goS A j o s' = true
          · rw [if_pos e2, if_pos ⟨by omega, e2.2⟩]
          · rw [if_neg e2, if_neg (fun z => e2 ⟨by omega, z.2⟩)]) rfl (fun _ _ => rfl)
      by_cases hk45 : kA A i = 45
      · have hg : goS A j o i = false := by unfold goS; rw [show sK (slA A i) = 45 from hk45]; simp
        refine ⟨T, ⟨by omega, hext hg, i2⟩, ?_⟩
        have a1 : ((45 : Int32) = 112) = False := by decide
        have a2 : ((45 : Int32) = 102) = False := by decide
        simp only [f_X5_letsGo_L94, f_X5_letsGo_b161, i1.1.fs, i1.1.rs.1 i hi, hkd, hk45, a1, a2, Option.bind_some, if_false, n_12, nI_leI (show 12 < 2 ^ 31 by omega) (show i < 2 ^ 31 by omega), q, nI_1]
      · obtain ⟨y1, -⟩ := x2 hk45
        have hS : ∀ (k94 : GS → Nat → Int32 → Option (GS × Nat)), (kA A i = 112 ∨ kA A i = 102) → ∃ T', (4 ≤ i + 1 ∧ Rq r dq cap T' hs (aGoS A j o (i + 1)) ∧ (∀ k, gI T' r k = gI T0 r k)) ∧ f_X5_letsGo_b125 k94 r T m (nI i) = k94 T' m (nI (i + 1)) := by
          intro k94 hk2
          cases hp : sP (slA A i) with
          | none =>
            have hg : goS A j o i = false := by unfold goS; rw [hp]; simp
            refine ⟨T, ⟨by omega, hext hg, i2⟩, ?_⟩
            simp only [f_X5_letsGo_b125, f_X5_letsGo_b161, i1.1.fs, i1.1.rs.2.2.1 i hi, y1, hp, oI_none, Option.bind_some, if_true, nI_1]
          | some p =>
            obtain ⟨-, hp2⟩ := hK i hi hk45 p hp
            have hgp : gI T (dq 4) p = b2i (goP A j o p) := (i1.2.2.2.2.2.1 p hp2).2.2.2.2
            have hg : goS A j o i = goP A j o p := by
              unfold goS
              rw [hp, decide_eq_true h4, decide_eq_true (show sK (slA A i) ≠ 45 from hk45)]
              rfl
            cases hgg : goP A j o p
            · refine ⟨T, ⟨by omega, hext (hg.trans hgg), i2⟩, ?_⟩
              simp only [f_X5_letsGo_b125, f_X5_letsGo_b161, i1.1.fs, i1.1.rs.2.2.1 i hi, y1, hp, oI_some, nI_m1 (show p < 2 ^ 31 by omega), Option.bind_some, if_false, i1.1.rs.2.2.2.2.2.2.2.2.2.2.2.2.2.2 p (by omega), hgp, hgg, b2i_f, if_true, nI_1]
            · have hn : gnr .char 45 = true := by decide
              refine ⟨gsI (gsI (gsI (gsI T (r + 23) i 45) (r + 24) i 0) (r + 25) i (-1)) (r + 28) i 0, ⟨by omega, ?_, ?_⟩, ?_⟩
              rotate_left 2
              · simp only [f_X5_letsGo_b125, f_X5_letsGo_b161, i1.1.fs, i1.1.rs.2.2.1 i hi, y1, hp, oI_some, nI_m1 (show p < 2 ^ 31 by omega), Option.bind_some, if_false, i1.1.rs.2.2.2.2.2.2.2.2.2.2.2.2.2.2 p (by omega), hgp, hgg, b2i_t, b2i_1, beq_self_eq_true, gck_t, r_holds i1.1 hi hn, nI_1]
              · have hsl := i1.slot (x := nil0) (s := i) (hs' := hs) (holds_fr (kd := 45) (x := 0) (p := -1)) ⟨holds_at.1, fun z => absurd rfl z⟩ (Nat.le_refl _) (fun a ha => i1.2.2.2.2.2.2.1 a ha)
                refine hsl.ext (fun _ _ => rfl) (fun s' hs' => ?_) rfl (fun _ _ => rfl)
                show (if s' < i + 1 ∧ goS A j o s' = true then nil0 else slA A s') = (if s' = i then nil0 else (if s' < i ∧ goS A j o s' = true then nil0 else slA A s'))
                by_cases e : s' = i
                · subst e; rw [if_pos ⟨by omega, hg.trans hgg⟩, if_pos rfl]
                · rw [if_neg e]
                  by_cases e2 : s' < i ∧ goS A j o s' = true
                  · rw [if_pos e2, if_pos ⟨by omega, e2.2⟩]
                  · rw [if_neg e2, if_neg (fun z => e2 ⟨by omega, z.2⟩)]
              · intro k
                simp only [gI_gsI]
                rw [if_neg (by omega), if_neg (by omega), if_neg (by omega), if_neg (by omega)]
                exact i2 k
        have a1 : ((102 : Int32) = 112) = False := by decide
        by_cases k1 : kA A i = 112
        · obtain ⟨T', g1, g2⟩ := hS (f_X5_letsGo_L94 r n) (Or.inl k1)
          refine ⟨T', g1, ?_⟩
          rw [← g2]
          simp only [f_X5_letsGo_L94, i1.1.fs, i1.1.rs.1 i hi, hkd, k1, Option.bind_some, if_false, if_true, n_12, nI_leI (show 12 < 2 ^ 31 by omega) (show i < 2 ^ 31 by omega), q]
        · by_cases k2 : kA A i = 102
          · obtain ⟨T', g1, g2⟩ := hS (f_X5_letsGo_L94 r n) (Or.inr k2)
            refine ⟨T', g1, ?_⟩
            rw [← g2]
            simp only [f_X5_letsGo_L94, i1.1.fs, i1.1.rs.1 i hi, hkd, k2, a1, Option.bind_some, if_false, if_true, n_12, nI_leI (show 12 < 2 ^ 31 by omega) (show i < 2 ^ 31 by omega), q]
          · have hg : goS A j o i = false := by
              cases hp : sP (slA A i) with
              | none => unfold goS; rw [hp]; simp
              | some p => exact absurd (hK i hi hk45 p hp).1 (fun z => z.elim k1 k2)
            refine ⟨T, ⟨by omega, hext hg, i2⟩, ?_⟩
            simp only [f_X5_letsGo_L94, f_X5_letsGo_b161, i1.1.fs, i1.1.rs.1 i hi, hkd, k1, k2, Option.bind_some, if_false, n_12, nI_leI (show 12 < 2 ^ 31 by omega) (show i < 2 ^ 31 by omega), q, nI_1]) 8 4 gN T0 (by omega) (by simp only [gN]; omega) ⟨by omega, h, fun _ => rfl⟩
  refine ⟨T, ?_, t1, t2⟩
  rw [e4, t3]
  simp only [f_X5_letsGo_L94, n_12, Int32.le_refl, if_true]
end RLet
