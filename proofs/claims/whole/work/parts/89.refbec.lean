/-! the reference: parts go; a list or part becomes other things -/
section RBec
variable {S S' : GS} {r cap hs hs' : Nat} {dq : Nat → Nat} {A B : AS}
theorem r_letsGo {j : Nat} {o : Option Nat} (h : Rq r dq cap S hs A) (hC : wC A) (hj : j < 2) (ho : okP A j o) (hL : ∀ p, p < npA A → pG (ptA A p) = false → pL (ptA A p) < 2) (hK : ∀ s, s < 12 → kA A s ≠ 45 → ∀ p, sP (slA A s) = some p → (kA A s = 112 ∨ kA A s = 102) ∧ p < npA A) (hn : npA A ≤ 512) :
    ∃ S', f_X5_letsGo S hs r (nI j) (oI o) = some (S', hs + 1) ∧ Rq r dq cap S' (hs + 1) (aLet A j o) ∧ ∀ k, gI S' r k = gI S r k := by
  have hdlt := fun i hi => Rq.dlt (i := i) h hi
  have hdne := fun i hi => Rq.dne (i := i) h hi
  obtain ⟨h1, ⟨h2, h21, h22⟩, h3, h4, h5, h6, h7, h8⟩ := id h
  obtain ⟨i1, i2, i3, i4⟩ := chn_is hC (npA A) o ho (fun p hp => (ho p hp).1)
  have f0 : rFr hs (fun _ _ => False) S (gnw S hs 12 (npA A)) := rFr.new (Nat.le_refl _)
  have hd3 := h1.fr f0 h7 h8
  have g3 : ∀ a k, a < hs → gI (gnw S hs 12 (npA A)) a k = gI S a k := fun a k ha => (f0 a ha).2.2.2 k id
  have hT : gT (gnw S hs 12 (npA A)) hs = 12 := by rw [gT_gnw, if_pos rfl]
  have hZ : gZ (gnw S hs 12 (npA A)) hs = npA A := by rw [gZ_gnw, if_pos rfl]
  have hI : ∀ p, gI (gnw S hs 12 (npA A)) hs p = 0 := fun p => by rw [gI_gnw, if_pos rfl]
  obtain ⟨T1, a1, a2, a3⟩ := c_stay (x1 := nI j) (m := hs + 1) (chA A o) o (gnw S hs 12 (npA A)) gN i1 (fun q hq => (i2 q hq).2.1) hd3 h21 (fun p hp => by rw [g3 _ _ (hdlt 1 (by omega))]; exact (h6 p hp).2.1) hT hZ hn (by have := hdlt 1 (by omega); omega) (by
    have : (chA A o).length ≤ npA A := i4
    simp only [gN]; omega)
  have hP1 : ∀ p, p < npA A → rPt T1 dq p (ptA A p) := fun p hp => by
    have e : ∀ i, i < 5 → gI T1 (dq i) p = gI S (dq i) p := fun i hi => by
      rw [a2.2.2.2 _ _ (by have := hdlt i hi; omega), g3 _ _ (hdlt i hi)]
    unfold rPt
    rw [e 0 (by omega), e 1 (by omega), e 2 (by omega), e 3 (by omega), e 4 (by omega)]
    exact h6 p hp
  have e12 : gI T1 r 12 = nI (npA A) := by rw [a2.2.2.2 _ _ (by omega), g3 _ _ (by omega)]; exact h2
  obtain ⟨T2, b1, b2, b3, b4⟩ := c_gone (A := A) (o := o) (hs := hs) (j := j) (m := hs + 1) (a2.hd hd3) e12 h21 hn hj hP1 hL (by rw [a2.2.1]; exact hT) (by rw [a2.2.2.1]; exact hZ) (fun i hi => ⟨by have := hdlt i hi; omega, (hdne i hi).1⟩) (fun p hp => by
    rw [a3, hI]
    by_cases z : p ∈ chA A o
    · rw [if_pos z, decide_eq_true z]; rfl
    · rw [if_neg z, decide_eq_false z]; rfl)
  have g1 : rFr hs (fun a _ => a = hs ∨ a = dq 4) S (gnw S hs 12 (npA A)) := f0.mono (fun _ _ z => z.elim)
  have g2 : rFr hs (fun a _ => a = hs ∨ a = dq 4) (gnw S hs 12 (npA A)) T1 := a2.fr (fun _ => Or.inl rfl)
  have g4 : rFr hs (fun a _ => a = hs ∨ a = dq 4) T1 T2 := b2.fr (fun _ => Or.inr rfl)
  have g5 := (g1.tr g2 (Nat.le_refl _)).tr g4 (Nat.le_refl _)
  have fr : rFr hs (fun a _ => a = dq 4) S T2 := by
    intro a ha
    obtain ⟨y1, y2, y3, y4⟩ := g5 a ha
    exact ⟨y1, y2, y3, fun k q => y4 k (fun z => z.elim (fun z => by omega) q)⟩
  have hne : ∀ i, i < 4 → dq i ≠ dq 4 := fun i hi e => by have := h1.2.2.2.2.2.1 i 4 (by omega) (by omega) e; omega
  obtain ⟨d1, d2⟩ := hdne 4 (by omega)
  have hq : Rq r dq cap T2 (hs + 1) (aGoS A j o 4) := by
    refine ⟨h1.fr fr h7 h8, ⟨((fr r (by omega)).2.2.2 12 (fun z => d1 z.symm)).trans h2, h21, h22.1, fun p w1 w2 => by
      rw [b4 p w1, a2.2.2.2 _ _ (by have := hdlt 4 (by omega); omega), g3 _ _ (hdlt 4 (by omega))]
      exact h22.2 p w1 w2⟩, fun i hi => (h3 i hi).fr fr h8 hi (fun k => by omega) (by omega), fun i hi => (h4 i hi).fr fr h8 hi (fun k => by omega) (by omega), fun s hs' => ?_, fun p hp => ?_, fun a ha => ?_, by omega⟩
    · have : slA (aGoS A j o 4) s = slA A s := by
        show (if s < 4 ∧ goS A j o s = true then nil0 else slA A s) = slA A s
        rw [if_neg]
        rintro ⟨z1, z2⟩
        unfold goS at z2
        rw [decide_eq_false (show ¬ 4 ≤ s by omega)] at z2
        simp at z2
      rw [this]
      exact (h5 s hs').fr fr h8 (fun o h1 h2 => by omega)
    · obtain ⟨q1, q2, q3, q4, q5⟩ := h6 p hp
      exact ⟨((fr _ (hdlt 0 (by omega))).2.2.2 _ (hne 0 (by omega))).trans q1, ((fr _ (hdlt 1 (by omega))).2.2.2 _ (hne 1 (by omega))).trans q2, ((fr _ (hdlt 2 (by omega))).2.2.2 _ (hne 2 (by omega))).trans q3, ((fr _ (hdlt 3 (by omega))).2.2.2 _ (hne 3 (by omega))).trans q4, b3 p hp⟩
    · rw [b2.2.1, a2.2.1, gT_gnw, if_neg (by omega)]; exact h7 a (by omega)
  obtain ⟨T3, c1, c2, c3⟩ := c_goS (m := hs + 1) hq hK
  refine ⟨T3, ?_, c2.ext (fun _ _ => rfl) (fun s hs' => ?_) rfl (fun _ _ => rfl), fun k => (c3 k).trans ((fr r (by omega)).2.2.2 k (fun z => d1 z.symm))⟩
  · have hck : decide (0 ≤ (nI (npA A)).toInt ∧ (nI (npA A)).toInt ≤ 512) = true := decide_eq_true (by rw [nI_toInt (by omega)]; omega)
    simp only [f_X5_letsGo, h1.fs, h2, Option.bind_some, hck, gck_t, nI_clamp (show npA A < 2 ^ 31 by omega), a1, b1, c1]
  · show (if goS A j o s = true then nil0 else slA A s) = (if s < 12 ∧ goS A j o s = true then nil0 else slA A s)
    by_cases z : goS A j o s = true
    · rw [if_pos z, if_pos ⟨hs', z⟩]
    · rw [if_neg z, if_neg (fun y => z y.2)]
/-- sizes along a chain -/
theorem c_szL {x1 x5 x7 : Int32} {m : Nat} {f : Nat → Int32} : ∀ (l : List Nat) (o : Option Nat) (T : GS) (n : Nat), isC2 A o l → l.Nodup → (∀ q ∈ l, q < npA A) → rHd T r dq cap → npA A ≤ cap → (∀ p, p < npA A → gI T (dq 1) p = oI (pA (ptA A p))) → (∀ q ∈ l, gI T (dq 3) q + x7 = f q) → l.length < n →
    ∃ T' n', f_X5_becomes_L247 r n T m x1 x5 x7 (oI o) = f_X5_becomes_L247 r (n' + 1) T' m x1 x5 x7 (-1) ∧ rOn (dq 3) T T' ∧ ∀ p, gI T' (dq 3) p = if p ∈ l then f p else gI T (dq 3) p := by
  intro l
  induction l with
  | nil =>
    intro o T n h1 h2 h3 h4 h5 h6 h7 h8
    obtain ⟨n, rfl⟩ : ∃ k, n = k + 1 := ⟨n - 1, by omega⟩
    have : o = none := h1
    subst this
    exact ⟨T, n, rfl, rOn.rf, fun p => by simp⟩
  | cons q l ih =>
    intro o T n h1 h2 h3 h4 h5 h6 h7 h8
    obtain ⟨n, rfl⟩ : ∃ k, n = k + 1 := ⟨n - 1, by omega⟩
    obtain ⟨rfl, h1⟩ : o = some q ∧ isC2 A (pA (ptA A q)) l := h1
    have hq := h3 q List.mem_cons_self
    have hcap := h4.2.2.2.2.2.2
    have hne : dq 1 ≠ dq 3 := fun e => by have := h4.2.2.2.2.2.1 1 3 (by omega) (by omega) e; omega
    obtain ⟨n1, n2⟩ := List.nodup_cons.mp h2
    have h4' := h4.gs (dq 3) q (f q)
    have e1 : gI (gsI T (dq 3) q (f q)) (dq 1) q = oI (pA (ptA A q)) := by rw [gI_gsI, if_neg (fun z => hne z.1)]; exact h6 q hq
    obtain ⟨T', n', g1, g2, g3⟩ := ih (pA (ptA A q)) (gsI T (dq 3) q (f q)) n h1 n2 (fun p hp => h3 p (List.mem_cons_of_mem _ hp)) h4' h5 (fun p hp => by rw [gI_gsI, if_neg (fun z => hne z.1)]; exact h6 p hp) (fun p hp => by
      rw [gI_gsI, if_neg (c := dq 3 = dq 3 ∧ p = q) (fun z => n1 (z.2 ▸ hp))]; exact h7 p (List.mem_cons_of_mem _ hp)) (by simp only [List.length_cons] at h8; omega)
    refine ⟨T', n', ?_, rOn.one.tr g2, fun p => ?_⟩
    · rw [← g1]
      simp (disch := omega) only [f_X5_becomes_L247, oI_some, nI_m1, if_false, h4.fs, h4.rs.2.2.2.2.2.2.2.2.2.2.2.2.2.1 q (by omega), h4.ws.2.2.2.2.2.2.2.2.2.2.2.2.2.1 q _ (show q < cap by omega), h7 q List.mem_cons_self, Option.bind_some, h4'.fs, h4'.rs.2.2.2.2.2.2.2.2.2.2.2.1 q (by omega), e1]
    · rw [g3, gI_gsI]
      by_cases a1 : p ∈ l
      · rw [if_pos a1, if_pos (List.mem_cons_of_mem _ a1)]
      · rw [if_neg a1]
        by_cases a2 : p = q
        · subst a2; rw [if_pos ⟨rfl, rfl⟩, if_pos List.mem_cons_self]
        · rw [if_neg (fun z => a2 z.2), if_neg (fun z => (List.mem_cons.mp z).elim a2 a1)]
theorem Rq.szs {o : Option Nat} {za zc : Nat} (h : Rq r dq cap S hs A) (f : rOn (dq 3) S S') (hp : ∀ p, p < npA A → gI S' (dq 3) p = if p ∈ chA A o then nI (pZ (ptA A p) + zc - za) else gI S (dq 3) p) : Rq r dq cap S' hs (aSzs A o za zc) := by
  have hdlt := fun i hi => Rq.dlt (i := i) h hi
  obtain ⟨d1, d2⟩ := Rq.dne (i := 3) h (by omega)
  obtain ⟨h1, ⟨h2, h21, h22⟩, h3, h4, h5, h6, h7, h8⟩ := h
  have hne : ∀ i, i < 5 → i ≠ 3 → dq i ≠ dq 3 := fun i hi h3 e => h3 (h1.2.2.2.2.2.1 i 3 hi (by omega) e)
  have fr : rFr hs (fun a _ => a = dq 3) S S' := f.fr (fun _ => rfl)
  refine ⟨f.hd h1, ⟨(f.2.2.2 r 12 (fun z => d1 z.symm)).trans h2, h21, h22.1, fun p w1 w2 => by
      rw [f.2.2.2 _ _ (hne 4 (by omega) (by omega))]
      exact h22.2 p w1 w2⟩, fun i hi => (h3 i hi).fr fr h8 hi (fun k => by omega) (by omega), fun i hi => (h4 i hi).fr fr h8 hi (fun k => by omega) (by omega), fun s hs => (h5 s hs).fr fr h8 (fun o h1 h2 => by omega), fun p hp9 => ?_, fun a ha => by rw [f.2.1]; exact h7 a ha, h8⟩
  have hp9 : p < npA A := hp9
  obtain ⟨q1, q2, q3, q4, q5⟩ := h6 p hp9
  obtain ⟨z1, z2, z3, z4, z5⟩ := szs_p (A := A) (o := o) (za := za) (zc := zc) (p := p)
  refine ⟨by rw [z1, f.2.2.2 _ _ (hne 0 (by omega) (by omega))]; exact q1, by rw [z2, f.2.2.2 _ _ (hne 1 (by omega) (by omega))]; exact q2, by rw [z3, f.2.2.2 _ _ (hne 2 (by omega) (by omega))]; exact q3, ?_, by rw [z4, f.2.2.2 _ _ (hne 4 (by omega) (by omega))]; exact q5⟩
  rw [hp p hp9, z5]
  by_cases e : p ∈ chA A o
  · rw [if_pos e, if_pos e]
  · rw [if_neg e, if_neg e]; exact q4
theorem nI_mv {L c z : Nat} (h : z ≤ L) : nI L + (nI c - nI z) = nI (L + c - z) := by
  rw [Int32.sub_eq_add_neg, ← Int32.add_assoc, ← Int32.sub_eq_add_neg, nI_add, pk_sub (by omega)]
theorem nI_dif {c z : Nat} (hc : c < 2 ^ 31) (hz : z < 2 ^ 31) : (nI c - nI z = 0) ↔ c = z := by
  constructor
  · intro e
    have : nI c = nI z := by rw [← Int32.sub_add_cancel (nI c) (nI z), e, Int32.zero_add]
    exact (nI_eq hc hz).mp this
  · rintro rfl; exact Int32.sub_self _
/-- what a slot's refs say, of a list -/
theorem Rq.refL {s : Nat} (h : Rq r dq cap S hs A) (hw : WF A) (hs12 : s < 12) (hk : sK (slA A s) = 108 ∨ sK (slA A s) = 112) : gI S (r + 24) s = nI (sR (slA A s)) ∧ gI S (r + 25) s = oI (sP (slA A s)) := by
  obtain ⟨l1, l2, -⟩ := lst_facts hw hs12 (hk.elim Or.inl (fun h => Or.inr (Or.inl h)))
  obtain ⟨x1, x2⟩ := h.2.2.2.2.1 s hs12
  obtain ⟨y1, y2, y3⟩ := x2 (by rcases hk with h | h <;> (rw [h]; decide))
  refine ⟨?_, y1⟩
  rw [(y3 l2).1]
  unfold rIx
  rw [if_pos l1]
/-- the rest behind is kept aside -/
theorem r_rest {s f z b m : Nat} {x2 x3 : Option Nat} {x4 x7 : Int32} (h : Rq r dq cap S hs A) (hw : WF A) (hs12 : s < 12) (hk : sK (slA A s) = 108 ∨ sK (slA A s) = 112) (hf : fsA A (slA A s) = f) (hz : (vw A s).length = z) (hb : f + z + b = (rwA A (sR (slA A s))).length) :
    ∃ T n, f_X5_becomes_L58 r gN (gnw (gnw S hs 11 b) (hs + 1) 11 b) m (nI s) x2 x3 x4 (nI (sR (slA A s))) (nI f) x7 (nI b) (some hs) (some (hs + 1)) 0 = f_X5_becomes_L122 r gN T m (nI s) x2 x3 x4 (nI (sR (slA A s))) (nI f) x7 (nI b) (some hs) (some (hs + 1)) 0 ∧ n = 0 ∧
      rFr hs (fun _ _ => False) S T ∧ (gT T hs = 11 ∧ gT T (hs + 1) = 11 ∧ gZ T hs = b ∧ gZ T (hs + 1) = b) ∧ (∀ a, hs + 2 ≤ a → gT T a = 0) ∧ ∀ k, k < b → gI T hs k = ((rwA A (sR (slA A s))).getD (f + z + k) tz).2.1 ∧ gI T (hs + 1) k = ((rwA A (sR (slA A s))).getD (f + z + k) tz).2.2 := by
  obtain ⟨l1, l2, -⟩ := lst_facts hw hs12 (hk.elim Or.inl (fun h => Or.inr (Or.inl h)))
  have g24 := (hw.1 _ (show sR (slA A s) < 4 by omega)).1
  have hk45 : kA A s ≠ 45 := by
    show sK (slA A s) ≠ 45
    rcases hk with h | h <;> (rw [h]; decide)
  have f0 : rFr hs (fun _ _ => False) S (gnw (gnw S hs 11 b) (hs + 1) 11 b) := (rFr.new (Nat.le_refl _)).tr (rFr.new (by omega)) (Nat.le_refl _)
  obtain ⟨T, ⟨t1, t2, t3, t4⟩, n, t5⟩ := lpG0 (F := fun n T i => f_X5_becomes_L58 r n T m (nI s) x2 x3 x4 (nI (sR (slA A s))) (nI f) x7 (nI b) (some hs) (some (hs + 1)) i)
    (fun i T => rFr hs (fun _ _ => False) S T ∧ (gT T hs = 11 ∧ gT T (hs + 1) = 11 ∧ gZ T hs = b ∧ gZ T (hs + 1) = b) ∧ (∀ a, hs + 2 ≤ a → gT T a = 0) ∧ ∀ k, k < i → gI T hs k = ((rwA A (sR (slA A s))).getD (f + z + k) tz).2.1 ∧ gI T (hs + 1) k = ((rwA A (sR (slA A s))).getD (f + z + k) tz).2.2) b (fun n T i hi hI => by
      obtain ⟨i1, ⟨i2, i3, i4, i5⟩, i6, i7⟩ := hI
      have hT : Rq r dq cap T (hs + 2) A := h.sc (i1.mono (fun _ _ z => z.elim)) (by omega) i6
      have hm := r_many hT hw hs12 hk45
      rw [hz] at hm
      obtain ⟨b1, b2⟩ := (hT.2.2.1 _ l1).2 (f + z + i) (by omega)
      have h8 := h.2.2.2.2.2.2.2
      have hT1 : Rq r dq cap (gsI T hs i ((rwA A (sR (slA A s))).getD (f + z + i) tz).2.1) (hs + 2) A := by
        have f9 : rFr hs (fun _ _ => False) S (gsI T hs i ((rwA A (sR (slA A s))).getD (f + z + i) tz).2.1) := i1.tr (fun a ha => ⟨rfl, rfl, fun _ => rfl, fun k _ => by rw [gI_gsI, if_neg (by omega)]⟩) (Nat.le_refl _)
        exact h.sc (f9.mono (fun _ _ z => z.elim)) (by omega) i6
      have hm1 := r_many hT1 hw hs12 hk45
      rw [hz] at hm1
      have w1 := saI (S := T) (v := ((rwA A (sR (slA A s))).getD (f + z + i) tz).2.1) i2 (show i < gZ T hs by omega) (by omega)
      have w2 := saI (S := gsI T hs i ((rwA A (sR (slA A s))).getD (f + z + i) tz).2.1) (v := ((rwA A (sR (slA A s))).getD (f + z + i) tz).2.2) i3 (show i < gZ T (hs + 1) by omega) (show gZ T (hs + 1) ≤ 4096 by omega)
      have v2 : gI (gsI T hs i ((rwA A (sR (slA A s))).getD (f + z + i) tz).2.1) (r + (5 + sR (slA A s))) (f + z + i) = ((rwA A (sR (slA A s))).getD (f + z + i) tz).2.2 := by rw [gI_gsI, if_neg (by omega)]; exact b2
      have q : (b ≤ i) = False := eq_false (by omega)
      refine ⟨gsI (gsI T hs i ((rwA A (sR (slA A s))).getD (f + z + i) tz).2.1) (hs + 1) i ((rwA A (sR (slA A s))).getD (f + z + i) tz).2.2, ⟨?_, ⟨i2, i3, i4, i5⟩, i6, fun k hk9 => ?_⟩, ?_⟩
      · exact i1.tr (fun a ha => ⟨rfl, rfl, fun _ => rfl, fun k _ => by rw [gI_gsI, if_neg (by omega), gI_gsI, if_neg (by omega)]⟩) (Nat.le_refl _)
      · simp only [gI_gsI]
        by_cases e : k = i
        · subst e
          rw [if_neg (by omega), if_pos (by simp), if_pos (by simp)]
          exact ⟨rfl, rfl⟩
        · rw [if_neg (by omega), if_neg (by omega), if_neg (by omega), if_neg (by omega)]
          exact i7 k (by omega)
      · simp (disch := omega) only [f_X5_becomes_L58, nI_leI, q, if_false, hT.1.fs, hT.1.ro.1 _ l1, Option.bind_some, beq_self_eq_true, gck_t, hm, nI_add, hT.1.rb.1 _ _ l1 (show f + z + i < 24 by omega), b1, w1, hT1.1.fs, hT1.1.ro.2.1 _ l1, hm1, hT1.1.rb.2.1 _ _ l1 (show f + z + i < 24 by omega), v2, w2, nI_1]) (by omega) (gnw (gnw S hs 11 b) (hs + 1) 11 b) ⟨f0, by
      refine ⟨?_, ?_, ?_, ?_⟩
      · rw [gT_gnw, if_neg (by omega), gT_gnw, if_pos rfl]
      · rw [gT_gnw, if_pos rfl]
      · rw [gZ_gnw, if_neg (by omega), gZ_gnw, if_pos rfl]
      · rw [gZ_gnw, if_pos rfl], fun a ha => by rw [gT_gnw, if_neg (by omega), gT_gnw, if_neg (by omega)]; exact h.2.2.2.2.2.2.1 a (by omega), fun k hk9 => by omega⟩
  refine ⟨T, 0, ?_, rfl, t1, t2, t3, t4⟩
  rw [t5]
  simp only [f_X5_becomes_L58, Int32.le_refl, if_true]
end RBec
