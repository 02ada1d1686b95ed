/-! what stays, and who asks for it -/
section RSt2
variable {S S' : GS} {r cap hs hs' : Nat} {dq : Nat → Nat} {A B : AS}
theorem r_stays {s sa : Nat} {q : Tr → Bool} {T0 : GS} (h : Rq r dq cap T0 hs A) (hw : WF A) (hs12 : s < 12) (hk : (kA A s = 108 ∨ kA A s = 112) ∨ kA A s = 107 ∨ kA A s = 118) (hp : npA A ≤ 512) (hsa : sa < hs) (hsr : r + 30 < sa) (hst : rStk T0 sa (vw A s) q) (h19 : gI T0 r 19 = 0) :
    ∃ S' hs', f_X5_stays T0 hs r (nI s) (some sa) = some (nI ((vw A s).countP q), S', hs') ∧ Rq r dq cap S' hs' (chgA A s ((vw A s).filter fun t => !q t)) ∧ gI S' r 19 = 0 ∧ hs ≤ hs' := by
  rcases hk with hk | hk
  · exact r_staysL h hw hs12 hk hp hsa hsr hst h19
  · have hm : sK (slA A s) = 109 ∨ sK (slA A s) = 70 ∨ sK (slA A s) = 107 ∨ sK (slA A s) = 118 := Or.inr (Or.inr hk)
    have hop : opn A s := hk.elim (fun z => Or.inr (Or.inr (Or.inr (Or.inl z)))) (fun z => Or.inr (Or.inr (Or.inr (Or.inr z))))
    obtain ⟨j, hj, hjr, -, hvw, e45⟩ := h.ref hw hs12 (hk.elim (fun z => Or.inl (by rw [z]; decide)) Or.inr)
    have h24 := vw_24 hw hs12 e45
    have hv := h.see hw hs12 e45
    have hfl := filt_len (V := vw A s) (q := q)
    obtain ⟨T, n, g1, g2, g3⟩ := r_staysM (hs := hs) (z := nI (vw A s).length) hw hs12 hk hj hjr hsa hsr (vw A s).length (vw A s) T0 gN (by
      have := h.mself (j := 2 + j)
      rw [← hvw] at this
      exact this) hst h24 h24 (Nat.le_refl _) (Nat.le_refl _) (by simp only [gN]; omega)
    obtain ⟨r1, -⟩ := rmV_all (g := fun i => q ((vw A s).getD i tz)) (q := q) (V := vw A s) (fun _ _ => rfl)
    rw [r1] at g2
    have g4 := g2.chgM hw hs12 hm hjr
    have hwf := WF_sub (V := (vw A s).filter fun t => !q t) hw hs12 hop List.filter_sublist
    obtain ⟨x1, x2, x3, x4⟩ := chgM_ext (V := (vw A s).filter fun t => !q t) hw hs12 hm
    have e2 := x2 s hs12
    have hm2 : sK (slA (chgA A s ((vw A s).filter fun t => !q t)) s) = 109 ∨ sK (slA (chgA A s ((vw A s).filter fun t => !q t)) s) = 70 ∨ sK (slA (chgA A s ((vw A s).filter fun t => !q t)) s) = 107 ∨ sK (slA (chgA A s ((vw A s).filter fun t => !q t)) s) = 118 := by rw [e2]; exact hm
    obtain ⟨-, -, -, -, -, y6⟩ := map_facts hwf hs12 hm2
    have y7 : vw (chgA A s ((vw A s).filter fun t => !q t)) s = (vw A s).filter fun t => !q t := by
      rw [y6, x1, e2, if_pos rfl]
    have hmy := r_many g4 hwf hs12 (by show sK (slA (chgA A s ((vw A s).filter fun t => !q t)) s) ≠ 45; rw [e2]; exact e45)
    rw [y7] at hmy
    have esub : nI (vw A s).length - nI ((vw A s).filter fun t => !q t).length = nI ((vw A s).countP q) := by
      rw [pk_sub (by omega)]
      exact congrArg nI (by omega)
    have em1 : (nI 0 - 1 < 0) = True := by decide
    refine ⟨T, hs, ?_, g4, g3.trans h19, Nat.le_refl _⟩
    have hfin : f_X5_stays_L33 r gN T0 hs (nI s) (some sa) (nI (vw A s).length) (nI (vw A s).length - 1) = some (nI ((vw A s).countP q), T, hs) := by
      rw [g1]
      rw [f_X5_stays_L33]
      simp only [em1, if_true, g4.1.fs, beq_self_eq_true, gck_t, hmy, Option.bind_some, esub]
    rcases hk with hk | hk
    · have k1 : ((107 : Int32) = 118) = False := by decide
      simp only [f_X5_stays, f_X5_stays_b28, h.1.fs, beq_self_eq_true, gck_t, hv.2.1, Option.bind_some, h.1.rs.1 s hs12, h.kd hs12, hk, k1, if_false, if_true, hfin]
    · simp only [f_X5_stays, f_X5_stays_b28, h.1.fs, beq_self_eq_true, gck_t, hv.2.1, Option.bind_some, h.1.rs.1 s hs12, h.kd hs12, hk, if_true, hfin]
/-- a loop that marks what stays -/
theorem r_fillS {β : Type} {V : List Tr} {q : Tr → Bool} {F : Nat → GS → Int32 → Option β} (h : Rq r dq cap S hs A) (h24 : V.length ≤ 24)
    (hF : ∀ (T : GS) (n i : Nat), i < V.length → Rq r dq cap T (hs + 1) A → gT T hs = 12 → gZ T hs = 24 → F (n + 1) T (nI i) = F n (gsI T hs i (b2i (!q (V.getD i tz)))) (nI (i + 1))) :
    ∃ T, (∃ n, F gN (gnw S hs 12 24) 0 = F (n + 1) T (nI V.length)) ∧ Rq r dq cap T (hs + 1) A ∧ rStk T hs V q ∧ gI T r 19 = gI S r 19 := by
  have h8 := h.2.2.2.2.2.2
  have key : ∀ T, rFr hs (fun _ _ => False) S T ∧ (∀ a, hs + 1 ≤ a → gT T a = 0) → Rq r dq cap T (hs + 1) A := fun T z => h.sc (z.1.mono (fun _ _ z => z.elim)) (by omega) z.2
  obtain ⟨T, ⟨t1, t2, t3, t4⟩, t5⟩ := lpG0 F (fun i T => (rFr hs (fun _ _ => False) S T ∧ (∀ a, hs + 1 ≤ a → gT T a = 0)) ∧ gT T hs = 12 ∧ gZ T hs = 24 ∧ ∀ k, k < i → gI T hs k = b2i (!q (V.getD k tz))) V.length (fun n T i hi hI => by
    obtain ⟨⟨i1, i2⟩, i3, i4, i5⟩ := hI
    refine ⟨gsI T hs i (b2i (!q (V.getD i tz))), ⟨⟨i1.tr (fun b hb => ⟨rfl, rfl, fun _ => rfl, fun j _ => by rw [gI_gsI, if_neg (by omega)]⟩) (Nat.le_refl _), i2⟩, i3, i4, fun k hk => ?_⟩, hF T n i hi (key T ⟨i1, i2⟩) i3 i4⟩
    rw [gI_gsI]
    by_cases e : k = i
    · subst e; rw [if_pos (by simp)]
    · rw [if_neg (fun z => e z.2)]; exact i5 k (by omega)) (by omega) (gnw S hs 12 24) ⟨⟨rFr.new (Nat.le_refl _), fun a ha => by rw [gT_gnw, if_neg (by omega)]; exact h8.1 a (by omega)⟩, by rw [gT_gnw, if_pos rfl], by rw [gZ_gnw, if_pos rfl], fun k hk => by omega⟩
  exact ⟨T, t5, key T t1, ⟨t2, t3, t4⟩, (t1.1 r (by omega)).2.2.2 19 id⟩
theorem saI12 {T : GS} {a i : Nat} {v : Int32} (h1 : gT T a = 12) (h2 : gZ T a = 24) (hi : i < 24) : gsaI T (some a) 12 (nI i) v = some (gsI T a i v) := saI h1 (by rw [h2]; exact hi) (by rw [h2]; decide)
theorem fIdx_m1 {q : Tr → Bool} {V : List Tr} (h : V.length < 2 ^ 31) : (fIdx q V 0 = -1) = (fIdx q V 0 < 0) := by
  rcases fIdx_find q (M := V) V 0 rfl with ⟨e1, e2⟩ | ⟨j, e0, e1, e2⟩
  · rw [e2]; decide
  · rw [e1]
    have : (nI j < 0) = False := n_lt0 (by omega)
    rw [this, nI_m1 (by omega)]
theorem gnb0 : gnr .boolean (0 : Int32) = true := by decide
theorem gnb1 : gnr .boolean (1 : Int32) = true := by decide
theorem n24c : (24 : Int32).toNatClampNeg = 24 := by decide
theorem opn_row {s : Nat} (hw : WF A) (hs12 : s < 12) (e45 : kA A s ≠ 45) (ho : sO (slA A s) = true) (hk : (isRw (kA A s) || kA A s == 107) = true) : (kA A s = 108 ∨ kA A s = 112) ∨ kA A s = 107 ∨ kA A s = 118 := by
  rcases opn_of hw hs12 e45 ho with z | z | z | z | z
  · exact Or.inl (Or.inl z)
  · exact Or.inl (Or.inr z)
  · have z : kA A s = 109 := z
    rw [z] at hk
    exact absurd hk (by decide)
  · exact Or.inr (Or.inl z)
  · exact Or.inr (Or.inr z)
theorem r_keep (h : Rq r dq cap S hs A) (hw : WF A) (hp : npA A ≤ 511) (x y w : Int32) : rRes [1, 2, 3] r hs A (f_X5_keep S hs r x y w) (m_keep A x y w) := by
  have h0 := h.thr 0
  unfold m_keep
  rcases c2s x y with e | ⟨s, hs12, rfl, e⟩ | ⟨s, t, hs12, rfl, ht12, rfl⟩
  · rw [nd2_no (Or.inl e)]
    exact rRes_no (i := 0) (v := 0) h rfl (by simp only [f_X5_keep_b149, f_X5_keep_b88, f_X5_keep_b87, f_X5_keep_b70, f_X5_keep_b60, f_X5_keep_b47, f_X5_keep_b46, f_X5_keep_b19, f_X5_keep_b18, f_X5_keep, h.1.fs, beq_self_eq_true, gck_t, Option.bind_some, b2i_1, e20, e30, e40, e50, if_true, if_false, r_fails h.1.1, fcd, gb2_s, r_slot0 S e]; rfl)
  · rw [nd2_no (Or.inr e)]
    exact rRes_no (i := 0) (v := 0) h rfl (by simp only [f_X5_keep_b149, f_X5_keep_b88, f_X5_keep_b87, f_X5_keep_b70, f_X5_keep_b60, f_X5_keep_b47, f_X5_keep_b46, f_X5_keep_b19, f_X5_keep_b18, f_X5_keep, h.1.fs, beq_self_eq_true, gck_t, Option.bind_some, b2i_1, e20, e30, e40, e50, if_true, if_false, r_fails h.1.1, fcd, gb2_s, r_slot0 S e, r_slot1 S hs12]; rfl)
  · rw [nd2_2 hs12 ht12]
    have e2 := r_isRow h hs12
    have e4 := r_isRow h ht12
    by_cases hb : (kA A s = 45 ∨ isRw (kA A s) = false) ∨ (kA A t = 45 ∨ isRw (kA A t) = false)
    · rw [if_pos hb]
      rcases hb with hb | hb
      · have e : (kLs (kA A s) || kA A s == 118) = false := or_bad (q := isRw) hb (by decide)
        rw [e] at e2
        exact rRes_no (i := 1) (v := 0) h rfl (by simp only [f_X5_keep_b149, f_X5_keep_b88, f_X5_keep_b87, f_X5_keep_b70, f_X5_keep_b60, f_X5_keep_b47, f_X5_keep_b46, f_X5_keep_b19, f_X5_keep_b18, f_X5_keep, h.1.fs, beq_self_eq_true, gck_t, Option.bind_some, b2i_1, e20, e30, e40, e50, if_true, if_false, r_fails h.1.1, fcd, gb2_s, e2, b2i_f, r_slot1 S hs12, r_slot1 S ht12]; rfl)
      · have e : (kLs (kA A t) || kA A t == 118) = false := or_bad (q := isRw) hb (by decide)
        rw [e] at e4
        refine rRes_no (i := 1) (v := 0) h rfl ?_
        cases e9 : (kLs (kA A s) || kA A s == 118) <;> (rw [e9] at e2; simp only [f_X5_keep_b149, f_X5_keep_b88, f_X5_keep_b87, f_X5_keep_b70, f_X5_keep_b60, f_X5_keep_b47, f_X5_keep_b46, f_X5_keep_b19, f_X5_keep_b18, f_X5_keep, h.1.fs, beq_self_eq_true, gck_t, Option.bind_some, b2i_1, e20, e30, e40, e50, if_true, if_false, r_fails h.1.1, fcd, gb2_s, e2, e4, b2i_f, b2i_t, r_slot1 S hs12, r_slot1 S ht12]; rfl)
    · rw [if_neg hb]
      have e45 : kA A s ≠ 45 := fun z => hb (Or.inl (Or.inl z))
      have et45 : kA A t ≠ 45 := fun z => hb (Or.inr (Or.inl z))
      have e : (kLs (kA A s) || kA A s == 118) = true := by
        cases z : (kLs (kA A s) || kA A s == 118)
        · exact absurd (Or.inl (Or.inr z)) hb
        · rfl
      have et : (kLs (kA A t) || kA A t == 118) = true := by
        cases z : (kLs (kA A t) || kA A t == 118)
        · exact absurd (Or.inr (Or.inr z)) hb
        · rfl
      rw [e] at e2
      rw [et] at e4
      have e3 := r_canChange h hw hs12 e45
      show rRes [1, 2, 3] r hs A _ (if sO (slA A s) = false then .inr 3 else m_del A s (q_keep (vw A t) w))
      cases ho : sO (slA A s)
      · rw [ho] at e3
        exact rRes_no (i := 2) (v := 0) h rfl (by simp only [f_X5_keep_b149, f_X5_keep_b88, f_X5_keep_b87, f_X5_keep_b70, f_X5_keep_b60, f_X5_keep_b47, f_X5_keep_b46, f_X5_keep_b19, f_X5_keep_b18, f_X5_keep, h.1.fs, beq_self_eq_true, gck_t, Option.bind_some, b2i_1, e20, e30, e40, e50, if_true, if_false, r_fails h.1.1, fcd, gb2_s, e2, e4, e3, b2i_f, b2i_t, r_slot1 S hs12, r_slot1 S ht12]; rfl)
      · rw [ho] at e3
        simp only [Bool.true_eq_false, if_false]
        have hk := opn_row hw hs12 e45 ho (by have : isRw (kA A s) = true := e; rw [this]; rfl)
        have h24 := vw_24 hw hs12 e45
        have h8 := h0.2.2.2.2.2.2
        obtain ⟨T, ⟨n, t1⟩, t2, t3, t4⟩ := r_fillS (V := vw A s) (q := q_keep (vw A t) w) (F := fun n T i => f_X5_keep_L107 r n T (hs + 1) (nI s) (nI t) w (some hs) i) h0 h24 (fun T n i hi j1 j2 j3 => by
          have hv := j1.see hw hs12 e45
          have q1 : ((vw A s).length ≤ i) = False := eq_false (by omega)
          have hv2 := j1.see hw ht12 et45
          obtain ⟨b1, b2⟩ := hv.2.2.2 i hi
          have ha := r_has hv2 ((vw A s).getD i tz).2.1 ((vw A s).getD i tz).2.2
          have hx : b2i ((vw A t).any (isT ((vw A s).getD i tz).2.1 ((vw A s).getD i tz).2.2)) = if fIdx (isT ((vw A s).getD i tz).2.1 ((vw A s).getD i tz).2.2) (vw A t) 0 < 0 then (0 : Int32) else 1 := by
            have ht24 := vw_24 hw ht12 et45
            by_cases c : fIdx (isT ((vw A s).getD i tz).2.1 ((vw A s).getD i tz).2.2) (vw A t) 0 < 0
            · rw [if_pos c, (fIdx_any (by omega)).mp c]; rfl
            · rw [if_neg c]
              cases z : (vw A t).any (isT ((vw A s).getD i tz).2.1 ((vw A s).getD i tz).2.2)
              · exact absurd ((fIdx_any (by omega)).mpr z) c
              · rfl
          rw [hx] at ha
          have hb1 := saI12 (v := 1) j2 j3 (show i < 24 by omega)
          have hb0 := saI12 (v := 0) j2 j3 (show i < 24 by omega)
          have bt : b2i (!decide (¬ (if fIdx (isT ((vw A s).getD i tz).2.1 ((vw A s).getD i tz).2.2) (vw A t) 0 < 0 then (0 : Int32) else 1) = w)) = if (if fIdx (isT ((vw A s).getD i tz).2.1 ((vw A s).getD i tz).2.2) (vw A t) 0 < 0 then (0 : Int32) else 1) = w then 1 else 0 := by
            by_cases c : (if fIdx (isT ((vw A s).getD i tz).2.1 ((vw A s).getD i tz).2.2) (vw A t) 0 < 0 then (0 : Int32) else 1) = w
            · rw [if_pos c, decide_eq_false (fun z => z c)]; rfl
            · rw [if_neg c, decide_eq_true c]; rfl
          show f_X5_keep_L107 r (n + 1) T (hs + 1) (nI s) (nI t) w (some hs) (nI i) = _
          unfold q_keep
          rw [bt]
          generalize (if fIdx (isT ((vw A s).getD i tz).2.1 ((vw A s).getD i tz).2.2) (vw A t) 0 < 0 then (0 : Int32) else 1) = z at *
          by_cases c : z = w
          · rw [if_pos c]
            simp (disch := omega) only [f_X5_keep_L107, f_X5_keep_b149, j1.1.1, beq_self_eq_true, gck_t, hv.2.1, Option.bind_some, nI_leI, q1, if_false, b1, b2, ha, c, if_true, gnb1, hb1, nI_1]
          · rw [if_neg c]
            simp (disch := omega) only [f_X5_keep_L107, f_X5_keep_b149, j1.1.1, beq_self_eq_true, gck_t, hv.2.1, Option.bind_some, nI_leI, q1, if_false, b1, b2, ha, c, gnb0, hb0, nI_1])
        have u19 : gI (gsI S r 19 0) r 19 = 0 := by rw [gI_gsI, if_pos ⟨rfl, rfl⟩]
        obtain ⟨S2, hs2, u1, u2, u3, u4⟩ := r_stays t2 hw hs12 hk (by omega) (by omega) (by omega) t3 (t4.trans u19)
        have hvT := t2.see hw hs12 e45
        refine ⟨dq, cap, S2, hs2, ?_, u2, u3, by omega⟩
        have hT6 : gT (gsI S r 19 0) r = 6 := h0.1.1
        simp only [f_X5_keep_b149, f_X5_keep_b88, f_X5_keep_b87, f_X5_keep_b70, f_X5_keep_b60, f_X5_keep_b47, f_X5_keep_b46, f_X5_keep_b19, f_X5_keep_b18, f_X5_keep, h.1.fs, beq_self_eq_true, gck_t, Option.bind_some, b2i_1, e20, e30, e40, e50, if_true, if_false, r_fails h.1.1, fcd, gb2_s, e2, e3, e4, b2i_t, b2i_f, r_slot1 S hs12, r_slot1 S ht12, n24c]
        rw [t1]
        simp only [f_X5_keep_L107, t2.1.1, beq_self_eq_true, gck_t, hvT.2.1, Option.bind_some, Int32.le_refl, if_true, u1, gb3]
theorem r_keepKeys (h : Rq r dq cap S hs A) (hw : WF A) (hp : npA A ≤ 511) (x y w : Int32) : rRes [1, 2, 3] r hs A (f_X5_keepKeys S hs r x y w) (m_keepKeys A x y w) := by
  have h0 := h.thr 0
  unfold m_keepKeys
  rcases c2s x y with e | ⟨s, hs12, rfl, e⟩ | ⟨s, t, hs12, rfl, ht12, rfl⟩
  · rw [nd2_no (Or.inl e)]
    exact rRes_no (i := 0) (v := 0) h rfl (by simp only [f_X5_keepKeys_b163, f_X5_keepKeys_b154, f_X5_keepKeys_b88, f_X5_keepKeys_b87, f_X5_keepKeys_b70, f_X5_keepKeys_b60, f_X5_keepKeys_b47, f_X5_keepKeys_b46, f_X5_keepKeys_b19, f_X5_keepKeys_b18, f_X5_keepKeys, h.1.fs, beq_self_eq_true, gck_t, Option.bind_some, b2i_1, e20, e30, e40, e50, if_true, if_false, r_fails h.1.1, fcd, gb2_s, r_slot0 S e]; rfl)
  · rw [nd2_no (Or.inr e)]
    exact rRes_no (i := 0) (v := 0) h rfl (by simp only [f_X5_keepKeys_b163, f_X5_keepKeys_b154, f_X5_keepKeys_b88, f_X5_keepKeys_b87, f_X5_keepKeys_b70, f_X5_keepKeys_b60, f_X5_keepKeys_b47, f_X5_keepKeys_b46, f_X5_keepKeys_b19, f_X5_keepKeys_b18, f_X5_keepKeys, h.1.fs, beq_self_eq_true, gck_t, Option.bind_some, b2i_1, e20, e30, e40, e50, if_true, if_false, r_fails h.1.1, fcd, gb2_s, r_slot0 S e, r_slot1 S hs12]; rfl)
  · rw [nd2_2 hs12 ht12]
    have e2 := r_isKeys h hs12
    have e4 := r_isKeys h ht12
    by_cases hb : (kA A s = 45 ∨ (fun k => k == 107) (kA A s) = false) ∨ (kA A t = 45 ∨ (fun k => k == 107) (kA A t) = false)
    · rw [if_pos hb]
      rcases hb with hb | hb
      · have e : (kA A s == 107) = false := or_bad (q := (fun k => k == 107)) hb (by decide)
        rw [e] at e2
        exact rRes_no (i := 1) (v := 0) h rfl (by simp only [f_X5_keepKeys_b163, f_X5_keepKeys_b154, f_X5_keepKeys_b88, f_X5_keepKeys_b87, f_X5_keepKeys_b70, f_X5_keepKeys_b60, f_X5_keepKeys_b47, f_X5_keepKeys_b46, f_X5_keepKeys_b19, f_X5_keepKeys_b18, f_X5_keepKeys, h.1.fs, beq_self_eq_true, gck_t, Option.bind_some, b2i_1, e20, e30, e40, e50, if_true, if_false, r_fails h.1.1, fcd, gb2_s, e2, b2i_f, r_slot1 S hs12, r_slot1 S ht12]; rfl)
      · have e : (kA A t == 107) = false := or_bad (q := (fun k => k == 107)) hb (by decide)
        rw [e] at e4
        refine rRes_no (i := 1) (v := 0) h rfl ?_
        cases e9 : (kA A s == 107) <;> (rw [e9] at e2; simp only [f_X5_keepKeys_b163, f_X5_keepKeys_b154, f_X5_keepKeys_b88, f_X5_keepKeys_b87, f_X5_keepKeys_b70, f_X5_keepKeys_b60, f_X5_keepKeys_b47, f_X5_keepKeys_b46, f_X5_keepKeys_b19, f_X5_keepKeys_b18, f_X5_keepKeys, h.1.fs, beq_self_eq_true, gck_t, Option.bind_some, b2i_1, e20, e30, e40, e50, if_true, if_false, r_fails h.1.1, fcd, gb2_s, e2, e4, b2i_f, b2i_t, r_slot1 S hs12, r_slot1 S ht12]; rfl)
    · rw [if_neg hb]
      have e45 : kA A s ≠ 45 := fun z => hb (Or.inl (Or.inl z))
      have et45 : kA A t ≠ 45 := fun z => hb (Or.inr (Or.inl z))
      have e : (kA A s == 107) = true := by
        cases z : (kA A s == 107)
        · exact absurd (Or.inl (Or.inr z)) hb
        · rfl
      have et : (kA A t == 107) = true := by
        cases z : (kA A t == 107)
        · exact absurd (Or.inr (Or.inr z)) hb
        · rfl
      rw [e] at e2
      rw [et] at e4
      have e3 := r_canChange h hw hs12 e45
      show rRes [1, 2, 3] r hs A _ (if sO (slA A s) = false then .inr 3 else m_del A s (q_keepK (vw A t) w))
      cases ho : sO (slA A s)
      · rw [ho] at e3
        exact rRes_no (i := 2) (v := 0) h rfl (by simp only [f_X5_keepKeys_b163, f_X5_keepKeys_b154, f_X5_keepKeys_b88, f_X5_keepKeys_b87, f_X5_keepKeys_b70, f_X5_keepKeys_b60, f_X5_keepKeys_b47, f_X5_keepKeys_b46, f_X5_keepKeys_b19, f_X5_keepKeys_b18, f_X5_keepKeys, h.1.fs, beq_self_eq_true, gck_t, Option.bind_some, b2i_1, e20, e30, e40, e50, if_true, if_false, r_fails h.1.1, fcd, gb2_s, e2, e4, e3, b2i_f, b2i_t, r_slot1 S hs12, r_slot1 S ht12]; rfl)
      · rw [ho] at e3
        simp only [Bool.true_eq_false, if_false]
        have hk := opn_row hw hs12 e45 ho (by have : (kA A s == 107) = true := e; rw [this]; exact Bool.or_true _)
        have h24 := vw_24 hw hs12 e45
        have h8 := h0.2.2.2.2.2.2
        obtain ⟨T, ⟨n, t1⟩, t2, t3, t4⟩ := r_fillS (V := vw A s) (q := q_keepK (vw A t) w) (F := fun n T i => f_X5_keepKeys_L107 r n T (hs + 1) (nI s) (nI t) w (some hs) i) h0 h24 (fun T n i hi j1 j2 j3 => by
          have hv := j1.see hw hs12 e45
          have q1 : ((vw A s).length ≤ i) = False := eq_false (by omega)
          have hw2 : (kMp (kA A t) || kA A t == 107) = true := by rw [et]; exact Bool.or_true _
          have hw1 : (kMp (kA A s) || kA A s == 107) = true := by rw [e]; exact Bool.or_true _
          obtain ⟨js, js2, -, js4, js5, -⟩ := j1.ref hw hs12 (Or.inl hw1)
          obtain ⟨jt, jt2, -, jt4, jt5, -⟩ := j1.ref hw ht12 (Or.inl hw2)
          have hns := j1.nj hw js2
          have hnt := j1.nj hw jt2
          rw [← js5] at hns
          rw [← jt5] at hnt
          have ha := r_placeOfNumber j1.1 hnt ((vw A s).getD i tz).1
          have h3 := hns.2.2.2 i hi
          have hb1 := saI12 (v := 1) j2 j3 (show i < 24 by omega)
          have hb0 := saI12 (v := 0) j2 j3 (show i < 24 by omega)
          have ht24 := vw_24 hw ht12 et45
          have hq : (fIdx (fun u => u.1 == ((vw A s).getD i tz).1) (vw A t) 0 = -1) = (fIdx (fun u => u.1 == ((vw A s).getD i tz).1) (vw A t) 0 < 0) := fIdx_m1 (by omega)
          have bt : b2i (!decide (¬ (if fIdx (fun u => u.1 == ((vw A s).getD i tz).1) (vw A t) 0 < 0 then (0 : Int32) else 1) = w)) = if (if fIdx (fun u => u.1 == ((vw A s).getD i tz).1) (vw A t) 0 < 0 then (0 : Int32) else 1) = w then 1 else 0 := by
            by_cases c : (if fIdx (fun u => u.1 == ((vw A s).getD i tz).1) (vw A t) 0 < 0 then (0 : Int32) else 1) = w
            · rw [if_pos c, decide_eq_false (fun z => z c)]; rfl
            · rw [if_neg c, decide_eq_true c]; rfl
          show f_X5_keepKeys_L107 r (n + 1) T (hs + 1) (nI s) (nI t) w (some hs) (nI i) = _
          unfold q_keepK
          rw [bt]
          generalize fIdx (fun u => u.1 == ((vw A s).getD i tz).1) (vw A t) 0 = u at *
          by_cases c0 : u < 0
          · rw [if_pos c0]
            by_cases c : (0 : Int32) = w
            · rw [if_pos c]
              simp (disch := omega) only [f_X5_keepKeys_L107, f_X5_keepKeys_b154, f_X5_keepKeys_b163, j1.1.fs, beq_self_eq_true, gck_t, hv.2.1, Option.bind_some, nI_leI, q1, if_false, jt4, js4, j1.1.ro.2.2.1 js js2, hns.2.2.1, h3, ha, hq, c0, eq_true c, if_true, gnb1, hb1, nI_1]
            · rw [if_neg c]
              simp (disch := omega) only [f_X5_keepKeys_L107, f_X5_keepKeys_b154, f_X5_keepKeys_b163, j1.1.fs, beq_self_eq_true, gck_t, hv.2.1, Option.bind_some, nI_leI, q1, if_false, jt4, js4, j1.1.ro.2.2.1 js js2, hns.2.2.1, h3, ha, hq, c0, c, if_true, gnb0, hb0, nI_1]
          · rw [if_neg c0]
            by_cases c : (1 : Int32) = w
            · rw [if_pos c]
              simp (disch := omega) only [f_X5_keepKeys_L107, f_X5_keepKeys_b154, f_X5_keepKeys_b163, j1.1.fs, beq_self_eq_true, gck_t, hv.2.1, Option.bind_some, nI_leI, q1, if_false, jt4, js4, j1.1.ro.2.2.1 js js2, hns.2.2.1, h3, ha, hq, c0, eq_true c, if_true, gnb1, hb1, nI_1]
            · rw [if_neg c]
              simp (disch := omega) only [f_X5_keepKeys_L107, f_X5_keepKeys_b154, f_X5_keepKeys_b163, j1.1.fs, beq_self_eq_true, gck_t, hv.2.1, Option.bind_some, nI_leI, q1, if_false, jt4, js4, j1.1.ro.2.2.1 js js2, hns.2.2.1, h3, ha, hq, c0, c, if_true, gnb0, hb0, nI_1])
        have u19 : gI (gsI S r 19 0) r 19 = 0 := by rw [gI_gsI, if_pos ⟨rfl, rfl⟩]
        obtain ⟨S2, hs2, u1, u2, u3, u4⟩ := r_stays t2 hw hs12 hk (by omega) (by omega) (by omega) t3 (t4.trans u19)
        have hvT := t2.see hw hs12 e45
        refine ⟨dq, cap, S2, hs2, ?_, u2, u3, by omega⟩
        have hT6 : gT (gsI S r 19 0) r = 6 := h0.1.1
        simp only [f_X5_keepKeys_b163, f_X5_keepKeys_b154, f_X5_keepKeys_b88, f_X5_keepKeys_b87, f_X5_keepKeys_b70, f_X5_keepKeys_b60, f_X5_keepKeys_b47, f_X5_keepKeys_b46, f_X5_keepKeys_b19, f_X5_keepKeys_b18, f_X5_keepKeys, h.1.fs, beq_self_eq_true, gck_t, Option.bind_some, b2i_1, e20, e30, e40, e50, if_true, if_false, r_fails h.1.1, fcd, gb2_s, e2, e3, e4, b2i_t, b2i_f, r_slot1 S hs12, r_slot1 S ht12, n24c]
        rw [t1]
        simp only [f_X5_keepKeys_L107, t2.1.1, beq_self_eq_true, gck_t, hvT.2.1, Option.bind_some, Int32.le_refl, if_true, u1, gb3]
end RSt2
