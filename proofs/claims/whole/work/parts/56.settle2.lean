theorem c_settleL {b : Nat} {pa : Nat → Nat} {A : AS} {x1 : Option Nat} {x2 : Int32} {f : Nat → Int32} : ∀ (l : List Nat) (o : Option Nat) (T : GS) (n : Nat), isC2 A o l → l.Nodup → (∀ q ∈ l, ∀ r ∈ l, pa q = pa r → q = r) → (∀ q ∈ l, gT T (pa q) = 3 ∧ gR T (pa q) 0 = (pA (ptA A q)).map pa ∧ gI T (pa q) 2 + x2 = f q) → l.length < n →
    f_X4_settle_L17 b n T x1 x2 (o.map pa) = (gfR (wPs pa 2 f l T) x1 2 2).bind fun v8 => gck (gT (wPs pa 2 f l T) b == 5) ((f_X4_letPartsGo (wPs pa 2 f l T) b x1 v8).bind fun S12 => some S12) := by
  intro l
  induction l with
  | nil =>
    intro o T n h1 h2 h3 h4 h5
    obtain ⟨n, rfl⟩ : ∃ k, n = k + 1 := ⟨n - 1, by omega⟩
    have h1 : o = none := h1
    subst h1
    rw [f_X4_settle_L17]
    simp only [Option.map_none, if_true, wPs]
  | cons p l ih =>
    intro o T n h1 h2 h3 h4 h5
    obtain ⟨n, rfl⟩ : ∃ k, n = k + 1 := ⟨n - 1, by omega⟩
    obtain ⟨rfl, h1⟩ := h1
    obtain ⟨n1, n2⟩ := List.nodup_cons.mp h2
    obtain ⟨g1, g2, g3⟩ := h4 p List.mem_cons_self
    rw [f_X4_settle_L17]
    simp only [Option.map_some, reduceCtorEq, if_false, gfI_at g1, Option.bind_some, gsfI_at g1, wPs, g3]
    rw [gfR_at (S := gsI T (pa p) 2 (f p)) g1, Option.bind_some, gR_gsI, g2]
    refine ih _ _ n h1 n2 (fun q hq r hr => h3 q (List.mem_cons_of_mem _ hq) r (List.mem_cons_of_mem _ hr)) (fun q hq => ?_) (by simp only [List.length_cons] at h5; omega)
    obtain ⟨y1, y2, y3⟩ := h4 q (List.mem_cons_of_mem _ hq)
    refine ⟨y1, y2, ?_⟩
    rw [gI_gsI, if_neg]
    · exact y3
    · rintro ⟨e, -⟩
      exact n1 (h3 q (List.mem_cons_of_mem _ hq) p List.mem_cons_self e ▸ hq)
/-- numbers of parts alone change -/
theorem Rcp.sizes {b k hs j za zc : Nat} {pa ch : Nat → Nat} {S : GS} {A : AS} {o : Option Nat} (h : Rcp b k pa ch S hs A) (hC : wC A) (ho : okP A j o) : Rcp b k pa ch (wPs pa 2 (fun q => nI (pZ (ptA A q) + zc - za)) (chA A o) S) hs (aSzs A o za zc) := by
  obtain ⟨r1, r2, ⟨⟨L1, r3⟩, L2, r3'⟩, r4, r5, r6, r7⟩ := h
  obtain ⟨i1, i2, i3, i4⟩ := chn_is hC (npA A) o ho (fun p hp => (ho p hp).1)
  have h3p : ∀ q, q < npA A → pG (ptA A q) = false → gT S (pa q) = 3 := fun q h1 h2 => (r5 q h1 h2).1
  have hl : chn A (npA A) o = chA A o := rfl
  rw [hl] at i1 i2 i3 i4
  obtain ⟨wR, wT, wZ⟩ := wPs_r (pa := pa) (k := 2) (f := fun q => nI (pZ (ptA A q) + zc - za)) (chA A o) S
  generalize hT2 : wPs pa 2 (fun q => nI (pZ (ptA A q) + zc - za)) (chA A o) S = T at wR wT wZ ⊢
  have tin : ∀ q, q ∈ chA A o → gI T (pa q) 2 = nI (pZ (ptA A q) + zc - za) := fun q hq => by
    rw [← hT2]
    obtain ⟨-, h1, h2, -⟩ := i2 q hq
    exact wPs_at _ S i3 (fun r hr e => by obtain ⟨-, y1, y2, -⟩ := i2 r hr; exact r6 r q y1 h1 y2 h2 e) hq
  have tno : ∀ a i, (i ≠ 2 ∨ ∀ q ∈ chA A o, pa q ≠ a) → gI T a i = gI S a i := fun a i hi => by rw [← hT2]; exact wPs_no _ S hi
  have ttag : ∀ a i, gT S a ≠ 3 → gI T a i = gI S a i := fun a i hx => tno a i (Or.inr fun q hq e => by
    obtain ⟨-, y1, y2, -⟩ := i2 q hq
    exact hx (e ▸ h3p q y1 y2))
  have fSt : ∀ w L, cSt S w L → cSt T w L := fun w L hw => by
    obtain ⟨⟨k1, k2, k3, k4, k5, k6, k7, k8, k9, k10⟩, g2, g3, g4⟩ := hw
    refine ⟨⟨by rw [wT]; exact k1, by rw [wR]; exact k2, by rw [wR]; exact k3, by rw [wR]; exact k4, by rw [wT]; exact k5, by rw [wT]; exact k6, by rw [wT]; exact k7, by rw [wZ]; exact k8, by rw [wZ]; exact k9, by rw [wZ]; exact k10⟩, by rw [ttag _ _ (by omega)]; exact g2, g3, fun i hi => ?_⟩
    rw [← g4 i hi]
    unfold trw
    rw [ttag _ _ (by omega), ttag _ _ (by omega), ttag _ _ (by omega)]
  refine ⟨?_, fun i hi => ?_, ⟨⟨L1, fSt _ _ r3⟩, L2, fSt _ _ r3'⟩, fun s hs12 => ?_, fun p hp hg => ?_, fun p q hp hq hg hh => ?_, ⟨fun x hx => by rw [wT]; exact r7.1 x hx, r7.2⟩⟩
  · obtain ⟨⟨p1, p2, p3, p4, p5⟩, ⟨p6, p7⟩, ⟨p8, p9⟩, ⟨p10, p11, p12⟩, p13, p14, p15, p16⟩ := r1
    refine ⟨⟨?_, ?_, ?_, ?_, ?_⟩, ⟨?_, ?_⟩, ⟨?_, ?_⟩, ⟨?_, ?_, ?_⟩, ?_, ?_, ?_, ?_⟩ <;> first | (rw [wR]; assumption) | (rw [wT]; assumption) | (rw [wZ]; assumption) | (rw [ttag _ _ (by omega)]; assumption)
  · obtain ⟨f1, f2, f3, f4⟩ := r2 i hi
    have := f1.1.1
    exact ⟨fSt _ _ f1, by rw [ttag _ _ (by omega)]; exact f2, by rw [ttag _ _ (by omega)]; exact f3, f4⟩
  · obtain ⟨c1, c2⟩ := r4 s hs12
    refine ⟨fun e => by rw [wR]; exact c1 e, fun e => ?_⟩
    obtain ⟨a, d1, d2, d3, d4, d5, d6, d7⟩ := c2 e
    have hoa := fun i => ttag a i (by omega)
    exact ⟨a, by rw [wR]; exact d1, by rw [wT]; exact d2, by rw [hoa]; exact d3, by rw [hoa]; exact d4, by rw [wR]; exact d5, by rw [wR]; exact d6, fun e => by rw [hoa, hoa, hoa]; exact d7 e⟩
  · have eP : ptA (aSzs A o za zc) p = if p ∈ chA A o then (pL (ptA A p), pA (ptA A p), pF (ptA A p), pZ (ptA A p) + zc - za, pG (ptA A p)) else ptA A p := rfl
    have hp : p < npA A := hp
    by_cases hm : p ∈ chA A o
    · rw [eP, if_pos hm] at hg ⊢
      obtain ⟨d1, d2, d3, d4, d5⟩ := r5 p hp hg
      obtain ⟨c, c1, c2⟩ := d5
      exact ⟨by rw [wT]; exact d1, by rw [wR]; exact d2, by rw [tno _ _ (Or.inl (by omega))]; exact d3, tin p hm, c, c1, by rw [tno _ _ (Or.inl (by omega))]; exact c2⟩
    · rw [eP, if_neg hm] at hg ⊢
      obtain ⟨d1, d2, d3, d4, d5⟩ := r5 p hp hg
      obtain ⟨c, c1, c2⟩ := d5
      exact ⟨by rw [wT]; exact d1, by rw [wR]; exact d2, by rw [tno _ _ (Or.inl (by omega))]; exact d3, by rw [tno _ _ (Or.inr fun q hq e => hm (by obtain ⟨-, w1, w2, -⟩ := i2 q hq; exact r6 q p w1 hp w2 hg e ▸ hq))]; exact d4, c, c1, by rw [tno _ _ (Or.inl (by omega))]; exact c2⟩
  · have f : ∀ p, pG (ptA (aSzs A o za zc) p) = pG (ptA A p) := fun p => by
      have eP : ptA (aSzs A o za zc) p = if p ∈ chA A o then (pL (ptA A p), pA (ptA A p), pF (ptA A p), pZ (ptA A p) + zc - za, pG (ptA A p)) else ptA A p := rfl
      rw [eP]
      by_cases hm : p ∈ chA A o
      · rw [if_pos hm]; rfl
      · rw [if_neg hm]
    rw [f] at hg hh
    exact r6 p q hp hq hg hh
/-- sizes changed, the chain is the same -/
theorem szs_p {A : AS} {o : Option Nat} {za zc p : Nat} : pL (ptA (aSzs A o za zc) p) = pL (ptA A p) ∧ pA (ptA (aSzs A o za zc) p) = pA (ptA A p) ∧ pF (ptA (aSzs A o za zc) p) = pF (ptA A p) ∧ pG (ptA (aSzs A o za zc) p) = pG (ptA A p) ∧ pZ (ptA (aSzs A o za zc) p) = if p ∈ chA A o then pZ (ptA A p) + zc - za else pZ (ptA A p) := by
  have eP : ptA (aSzs A o za zc) p = if p ∈ chA A o then (pL (ptA A p), pA (ptA A p), pF (ptA A p), pZ (ptA A p) + zc - za, pG (ptA A p)) else ptA A p := rfl
  rw [eP]
  by_cases hm : p ∈ chA A o
  · simp only [if_pos hm]; exact ⟨rfl, rfl, rfl, rfl, rfl⟩
  · simp only [if_neg hm, and_self]
theorem chn_same {A B : AS} (h : ∀ p, pA (ptA B p) = pA (ptA A p)) : ∀ (n : Nat) (o : Option Nat), chn B n o = chn A n o := by
  intro n
  induction n with
  | zero => intro o; rfl
  | succ n ih =>
    intro o
    cases o with
    | none => rfl
    | some p => rw [chn, chn, h, ih]
def chgP (A : AS) (j : Nat) (o : Option Nat) (za zc : Nat) : AS := if za = zc then A else aLet (aSzs A o za zc) j o
theorem c_settle {b k hs a j za zc : Nat} {pa ch : Nat → Nat} {S : GS} {A : AS} {o : Option Nat} {x2 : Int32} (h : Rcp b k pa ch S hs A) (hC : wC A) (hS : wS A) (hk : k < 600) (hj : j < 4) (ho : okP A j o) (ha : gT S a = 2) (ha2 : gR S a 2 = some (stB b j)) (ha3 : gR S a 3 = o.map pa) (hnp : npA A ≤ 600)
    (hx : x2 = 0 ↔ za = zc) (hx2 : ∀ q ∈ chA A o, nI (pZ (ptA A q)) + x2 = nI (pZ (ptA A q) + zc - za)) :
    ∃ S' ch', f_X4_settle S b (some a) x2 = some S' ∧ Rcp b (k + 1) pa ch' S' hs (chgP A j o za zc) ∧ (∀ x i, gT S x = 2 → gR S' x i = gR S x i) ∧ (∀ x, gT S' x = gT S x) ∧ ∀ s, gR S' (b + 1) s = gR S (b + 1) s ∨ gR S' (b + 1) s = none := by
  by_cases h0 : x2 = 0
  · refine ⟨S, ch, by unfold f_X4_settle; rw [if_pos h0], ?_, fun _ _ _ => rfl, fun _ => rfl, fun _ => Or.inl rfl⟩
    unfold chgP
    rw [if_pos (hx.mp h0)]
    exact h.mono (by omega) (by omega)
  · obtain ⟨i1, i2, i3, i4⟩ := chn_is hC (npA A) o ho (fun p hp => (ho p hp).1)
    have h2 := h.sizes (za := za) (zc := zc) hC ho
    obtain ⟨wR, wT, wZ⟩ := wPs_r (pa := pa) (k := 2) (f := fun q => nI (pZ (ptA A q) + zc - za)) (chA A o) S
    have hC2 : wC (aSzs A o za zc) := fun p hp hg q hq => by
      obtain ⟨e1, e2, e3, e4, -⟩ := szs_p (A := A) (o := o) (za := za) (zc := zc) (p := p)
      rw [e2] at hq
      rw [e4] at hg
      obtain ⟨f1, -, -, f4, -⟩ := szs_p (A := A) (o := o) (za := za) (zc := zc) (p := q)
      rw [f4, f1, e1]
      exact hC p hp hg q hq
    have hS2 : wS (aSzs A o za zc) := fun s hs hk p hp => by
      obtain ⟨e1, e2, e3, e4, -⟩ := szs_p (A := A) (o := o) (za := za) (zc := zc) (p := p)
      rw [e4, e1]
      exact hS s hs hk p hp
    have ho2 : okP (aSzs A o za zc) j o := fun p hp => by
      obtain ⟨e1, e2, e3, e4, -⟩ := szs_p (A := A) (o := o) (za := za) (zc := zc) (p := p)
      rw [e4, e1]
      exact ho p hp
    obtain ⟨S', y1, y2, y3, y4, y5⟩ := c_letGo h2 hC2 hS2 hk hj ho2 (by rw [wT]; exact ha) (by rw [wR]; exact ha3) hnp
    have hL := c_settleL (b := b) (pa := pa) (A := A) (x1 := some a) (x2 := x2) (f := fun q => nI (pZ (ptA A q) + zc - za)) (chA A o) o S gN i1 i3 (fun q hq r hr e => by
      obtain ⟨-, u1, u2, -⟩ := i2 q hq
      obtain ⟨-, v1, v2, -⟩ := i2 r hr
      exact h.2.2.2.2.2.1 q r u1 v1 u2 v2 e) (fun q hq => by
      obtain ⟨-, u1, u2, -⟩ := i2 q hq
      obtain ⟨d1, d2, d3, d4, -⟩ := h.2.2.2.2.1 q u1 u2
      exact ⟨d1, d2, by rw [d4]; exact hx2 q hq⟩) (by simp only [gN]; exact Nat.lt_of_le_of_lt i4 (by omega))
    refine ⟨S', upf ch j (ch j + 1), ?_, ?_, fun x i hx => ?_, fun x => ?_, fun s => by rw [← wR (b + 1) s]; exact y5 s⟩
    · unfold f_X4_settle
      rw [if_neg h0, gfR_at ha, ha2]
      simp only [Option.bind_some, reduceCtorEq, if_false, gfR_at ha, ha3]
      rw [hL, gfR_at (by rw [wT]; exact ha), wR, ha2, Option.bind_some, wT, h.1.1.1]
      simp only [beq_self_eq_true, gck_t, y1, Option.bind_some]
    · unfold chgP
      rw [if_neg (fun z => h0 (hx.mpr z))]
      exact y2
    · rw [y3 x i (by rw [wT]; exact hx), wR]
    · rw [y4, wT]
