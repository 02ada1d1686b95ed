/-! the checker: lists -/
theorem countP_nb {V : List Tr} {q : Tr → Bool} (hq : ∀ t u : Tr, t.2 = u.2 → q t = q u) : ∀ n, n ≤ V.length → (nbV V n).countP q = (V.take n).countP q := by
  intro n
  induction n with
  | zero => intro _; rfl
  | succ n ih =>
    intro h
    rw [nbV_s, take_s (by omega), List.countP_append, List.countP_append, ih (by omega), List.countP_cons, List.countP_cons, hq (nI n, (V.getD n tz).2.1, (V.getD n tz).2.2) (V.getD n tz) rfl]
theorem countP_ord {V W : List Tr} {q : Tr → Bool} (hp : W.Perm (nbV V V.length)) (hq : ∀ t u : Tr, t.2 = u.2 → q t = q u) : W.countP q = V.countP q := by
  rw [hp.countP_eq, countP_nb hq _ (Nat.le_refl _), List.take_length]
theorem rkw107 (t : Tr) : rkw 107 t = t.2.1 := by
  unfold rkw
  rw [if_neg (by decide), if_pos (by decide)]
theorem srt_tl {rk : Tr → Int32} {t : Tr} {l : List Tr} (h : srt rk (t :: l)) : srt rk l := fun i j h1 h2 => h (i + 1) (j + 1) (by omega) (by simp only [List.length_cons]; omega)
theorem rsg_srt : ∀ (l : List Tr) (t : Tr), srt (rkw 107) (t :: l) → rsg t.2.1 l = true := by
  intro l
  induction l with
  | nil => intro t _; rfl
  | cons u m ih =>
    intro t h
    have h1 := h 0 1 (by omega) (by simp)
    have h1 : lx (rkw 107) t u := h1
    unfold lx at h1
    rw [rkw107, rkw107] at h1
    unfold rsg
    rw [if_pos (Int32.le_iff_toInt_le.mpr (by omega))]
    exact ih u (srt_tl h)
theorem sKy_r {x : Int32} {V : List Tr} (hr : srt (rkw 107) V) : sKy x V 0 = if V.any (fun t => t.2.1 == x) = true then 100 else -1 - nI (V.countP (fun t => decide (t.2.1 < x))) := by
  cases V with
  | nil => rfl
  | cons t l =>
    have := sKy_c (x := x) (t :: l) t.2.1 0 (by unfold rsg; rw [if_pos (Int32.le_refl _)]; exact rsg_srt l t hr)
    rw [this, Nat.zero_add]
theorem rot5 : ∀ z, z < 24 → rot 5 (z + 1) = 5 % (z + 1) ∧ rot (-5) (z + 1) = ((z + 1) - 5 % (z + 1)) % (z + 1) := by decide
theorem roL_back {L : List Tr} (h : 0 < L.length) (h24 : L.length ≤ 24) : roL (roL L (rot 5 L.length)) (rot (-5) L.length) = L := by
  have e := rot5 (L.length - 1) (by omega)
  have e1 : L.length - 1 + 1 = L.length := by omega
  rw [e1] at e
  rw [e.1, e.2]
  have hm := Nat.mod_lt 5 h
  generalize 5 % L.length = p at *
  have hp : (L.length - p) % L.length = if p = 0 then 0 else L.length - p := by
    by_cases c : p = 0
    · rw [if_pos c, c, Nat.sub_zero, Nat.mod_self]
    · rw [if_neg c, Nat.mod_eq_of_lt (by omega)]
  rw [hp]
  have l1 := roL_len (V := L) (p := p) (by omega)
  refine tl_ext (by rw [roL_len (by rw [l1]; by_cases c : p = 0 <;> simp [c]), l1]) fun k hk => ?_
  rw [roL_len (by rw [l1]; by_cases c : p = 0 <;> simp [c]), l1] at hk
  rw [gd_roL (by rw [l1]; by_cases c : p = 0 <;> simp [c]) (by rw [l1]; exact hk), l1]
  by_cases c : p = 0
  · rw [if_pos c, if_neg (by omega), gd_roL (by omega) (by omega), if_neg (by omega)]
    exact congrArg (fun q => L.getD q tz) (by omega)
  · rw [if_neg c]
    by_cases c2 : k < L.length - p
    · rw [if_pos c2, gd_roL (by omega) (by omega), if_neg (by omega)]
      exact congrArg (fun q => L.getD q tz) (by omega)
    · rw [if_neg c2, gd_roL (by omega) (by omega), if_pos (by omega)]
      exact congrArg (fun q => L.getD q tz) (by omega)
theorem roL_at {L : List Tr} {i : Nat} (hi : i < L.length) (h24 : L.length ≤ 24) : (roL L (rot 5 L.length)).getD ((i + 5) % L.length) tz = L.getD i tz := by
  have e := rot5 (L.length - 1) (by omega)
  have e1 : L.length - 1 + 1 = L.length := by omega
  rw [e1] at e
  rw [e.1]
  have hm := Nat.mod_lt 5 (show L.length > 0 by omega)
  have e2 : (i + 5) % L.length = (i + 5 % L.length) % L.length := by rw [Nat.add_mod, Nat.mod_eq_of_lt hi]
  rw [e2]
  generalize 5 % L.length = p at *
  by_cases c : i + p < L.length
  · rw [Nat.mod_eq_of_lt c, gd_roL (by omega) c, if_neg (by omega)]
    exact congrArg (fun q => L.getD q tz) (by omega)
  · rw [Nat.mod_eq_sub_mod (by omega), Nat.mod_eq_of_lt (by omega), gd_roL (by omega) (by omega), if_pos (by omega)]
    exact congrArg (fun q => L.getD q tz) (by omega)
section CChk
variable {b k hs s a : Nat} {pa ch : Nat → Nat} {S : GS} {A : AS}
/-- the checker's store holds L, all else is as in S -/
def cck (b : Nat) (S T : GS) (L : List Tr) : Prop := cFr (b + 28) S T ∧ cSt T (b + 28) L
theorem cck.rcp {T : GS} {L : List Tr} (f : cck b S T L) (h : Rcp b k pa ch S hs A) : Rcp b k pa ch T hs A := h.aside (Or.inr rfl) f.1 f.2
theorem cck.has {T : GS} {L : List Tr} (f : cck b S T L) (h : Rcp b k pa ch S hs A) (hw : WF A) (h5 : has A S b s a) : has A T b s a := by
  rcases c_slot (f.rcp h) hw h5.1 with ⟨e, -⟩ | ⟨-, a', g1, g2⟩
  · exact absurd e h5.2.1
  · rw [f.1.1, h5.2.2.1] at g2
    cases g2
    exact g1
theorem cck.copy {T : GS} {L : List Tr} (f : cck b S T L) (h : Rcp b k pa ch S hs A) : cVw T (b + 32) 108 L := by
  obtain ⟨-, -, -, -, d1, d2, d3, d4⟩ := (f.rcp h).1
  have : cPn T (b + 32) 108 L (some (b + 28)) 0 := ⟨d1, d2, d3, fun e => (by cases e), fun st e => by
    cases e
    exact ⟨L, f.2, by omega, viw_all.symm, Or.inl ⟨d4, rfl, rfl⟩⟩⟩
  exact this.view
theorem cck.hd {T : GS} {L : List Tr} (f : cck b S T L) (h : Rcp b k pa ch S hs A) : gT T (b + 27) = 1 ∧ gR T (b + 27) 0 = some (b + 28) ∧ gR T (b + 27) 1 = some (b + 32) := (f.rcp h).1.2.2.2.1
theorem f_copy (h : Rcp b k pa ch S hs A) (hw : WF A) (h5 : has A S b s a) : ∃ T, f_X3_copyThings S (b + 28) (some a) = some T ∧ cck b S T (nbV (vw A s) (vw A s).length) := by
  obtain ⟨L0, hL0⟩ := h.2.2.1.2
  have h24 := h5.view.2.2.1
  have st0 : cck b S (gsI S (b + 28) 4 0) (nbV (vw A s) 0) := ⟨cFr.cnt, hL0.1.gsI, by rw [gI_gsI, if_pos ⟨rfl, rfl⟩]; rfl, by rw [nbV_len]; omega, fun i hi => by have : i < 0 := hi; omega⟩
  obtain ⟨T, t1, n, t2⟩ := lpG0 (F := fun n T i => f_X3_copyThings_L7 (b + 28) n T (some a) i) (fun i T => cck b S T (nbV (vw A s) i)) (vw A s).length (fun n T i hi hI => by
    have hv := (hI.has h hw h5).view
    obtain ⟨b1, b2, -⟩ := hv.2.2.2.2 i hi
    have q : ((vw A s).length ≤ i) = False := eq_false (by omega)
    have hlen : (nbV (vw A s) i).length = i := nbV_len
    obtain ⟨T', y1, y2, y3⟩ := f_insert (p := i) (nu := nI i) (k := ((vw A s).getD i tz).2.1) (m := ((vw A s).getD i tz).2.2) hI.2 (by rw [hlen]; exact Nat.le_refl _) (by rw [hlen]; omega)
    have e : (nbV (vw A s) i).insertIdx i (nI i, ((vw A s).getD i tz).2.1, ((vw A s).getD i tz).2.2) = nbV (vw A s) (i + 1) := by
      have := ins_app (P := nbV (vw A s) i) (Q := []) (x := (nI i, ((vw A s).getD i tz).2.1, ((vw A s).getD i tz).2.2))
      rw [List.append_nil, hlen] at this
      rw [this, nbV_s]
    rw [e] at y2
    refine ⟨T', ⟨hI.1.tr y3, y2⟩, ?_⟩
    simp (disch := omega) only [f_X3_copyThings_L7, gtk_at hv.1, hv.2.2.2.1, Option.bind_some, nI_leI, q, if_false, b1, b2, hI.2.1.1, beq_self_eq_true, gck_t, y1, nI_1]) (by omega) (gsI S (b + 28) 4 0) st0
  refine ⟨T, ?_, t1⟩
  have hv := (t1.has h hw h5).view
  unfold f_X3_copyThings
  rw [gsfI_at hL0.1.1, Option.bind_some, t2]
  simp only [f_X3_copyThings_L7, gtk_at hv.1, hv.2.2.2.1, Option.bind_some, Int32.le_refl, if_true]
theorem c_sortSound (h : Rcp b k pa ch S hs A) (hw : WF A) (h5 : has A S b s a) (w : Int32) : ∃ T L, f_X0_isSortSound S (b + 27) (some a) w = some (1, T) ∧ cck b S T L := by
  have h24 := h5.view.2.2.1
  obtain ⟨k1, k2, k3⟩ := h.1.2.2.2.1
  obtain ⟨L0, hL0⟩ := h.2.2.1.2
  obtain ⟨T1, y1, y2⟩ := f_copy h hw h5
  obtain ⟨m1, m2, m3⟩ := y2.hd h
  obtain ⟨T, z1, z2, z3⟩ := f_order (f := 0) (z := (nbV (vw A s) (vw A s).length).length) (w := w) y2.2 (by omega)
  have z1 : f_X3_order T1 (b + 28) 0 (nI (nbV (vw A s) (vw A s).length).length) w = some T := z1
  have hck : cck b S T _ := ⟨y2.1.tr z3, z2⟩
  obtain ⟨o1, o2⟩ := ordV (rk := rkw w) (V := vw A s) h24
  rw [Nat.zero_add] at hck
  generalize hW : ord (rkw w) 0 ((nbV (vw A s) (vw A s).length).length - 1) 1 (nbV (vw A s) (vw A s).length) = W at *
  have hWl : W.length = (vw A s).length := by rw [o2.length_eq, nbV_len]
  refine ⟨T, W, ?_, hck⟩
  obtain ⟨n1, n2, n3⟩ := hck.hd h
  have hv := (hck.has h hw h5).view
  have hc := hck.copy h
  have cnt : gI T (b + 28) 4 = nI W.length := hck.2.2.1
  have g4 : gT T (b + 28) = 4 := hck.2.1.1
  obtain ⟨c, u1, n, u2⟩ := lpG0 (F := fun n (c : Nat) i => f_X0_isSortSound_L29 (b + 27) n T (some a) w (nI c) i) (fun i c => c = bts (W.take i)) W.length (fun n c i hi hI => by
    have q : (W.length ≤ i) = False := eq_false (by omega)
    obtain ⟨j, hj, ej⟩ := nbV_mem (o2.mem_iff.mp (mem_gd hi))
    have hnum := f_numberIn hck.2 hi
    have hal := f_alike hc hv hi hj
    have hall : isT ((vw A s).getD j tz).2.1 ((vw A s).getD j tz).2.2 (W.getD i tz) = true := by rw [ej]; unfold isT; simp
    rw [hall] at hal
    have hn1 : (W.getD i tz).1 = nI j := by rw [ej]
    rw [hn1] at hnum
    have e9 : b2i true = 1 := rfl
    refine ⟨c ||| 2 ^ j, ?_, ?_⟩
    · rw [hI, take_s hi]
      unfold bts
      rw [List.foldl_append, List.foldl_cons, List.foldl_nil, hn1, nI_clamp (by omega)]
    · show f_X0_isSortSound_L29 (b + 27) (n + 1) T (some a) w (nI c) (nI i) = _
      by_cases c0 : i = 0
      · subst c0
        have c1 : (nI 0 ≤ 0) = True := by decide
        simp (disch := omega) only [f_X0_isSortSound_L29, f_X0_isSortSound_b91, gfR_at n1, n2, n3, Option.bind_some, gfI_at g4, cnt, nI_leI, q, if_false, gtk_at g4, hnum, gtk_at hc.1, hal, e9, e1z, c1, if_true, shl_n j (by omega), or_n, nI_1]
      · have c1 : (nI i ≤ 0) = False := eq_false (fun z => by
          have := (nI_leI (show i < 2 ^ 31 by omega) (show 0 < 2 ^ 31 by omega)).mp z
          omega)
        have hb : f_X0_isBehind T (b + 27) (nI i) w = some 1 := by
          have hB : ∀ v, v < W.length → inB (W.getD v tz) := fun v hv2 => by
            obtain ⟨j2, hj2, ej2⟩ := nbV_mem (o2.mem_iff.mp (mem_gd hv2))
            rw [ej2]
            exact (vw_B hw h5.1 h5.2.1 (mem_gd hj2) : inB ((vw A s).getD j2 tz))
          rw [f_behind n1 n2 hck.2 (by omega) hi (by omega)]
          exact beh_lx (hB i hi) (hB (i - 1) (by omega)) (o1 (i - 1) i (by omega) hi)
        simp (disch := omega) only [f_X0_isSortSound_L29, f_X0_isSortSound_b91, gfR_at n1, n2, n3, Option.bind_some, gfI_at g4, cnt, nI_leI, q, if_false, gtk_at g4, hnum, gtk_at hc.1, hal, e9, e1z, c1, n1, beq_self_eq_true, gck_t, hb, shl_n j (by omega), or_n, nI_1]) (by omega) 0 rfl
  rw [List.take_length] at u1
  rw [bts_all h24 o2] at u1
  have u2 : f_X0_isSortSound_L29 (b + 27) gN T (some a) w 0 0 = _ := u2
  simp only [f_X0_isSortSound, gfR_at k1, k2, Option.bind_some, gtk_at hL0.1.1, y1, gfR_at m1, m2, gfI_at y2.2.1.1, y2.2.2.1, gtk_at y2.2.1.1, z1]
  rw [u2]
  simp only [f_X0_isSortSound_L29, gfR_at n1, n2, Option.bind_some, gfI_at g4, cnt, Int32.le_refl, if_true, gtk_at hv.1, hv.2.2.2.1, hWl, u1, shl_m _ (show (vw A s).length < 25 by omega)]
theorem c_turnSound (h : Rcp b k pa ch S hs A) (hw : WF A) (h5 : has A S b s a) : ∃ T L, f_X0_isTurnSound S (b + 27) (some a) = some (1, T) ∧ cck b S T L := by
  have h24 := h5.view.2.2.1
  have hv0 := h5.view
  obtain ⟨k1, k2, k3⟩ := h.1.2.2.2.1
  obtain ⟨L0, hL0⟩ := h.2.2.1.2
  obtain ⟨T1, y1, y2⟩ := f_copy h hw h5
  obtain ⟨m1, m2, m3⟩ := y2.hd h
  have hN := nbV_len (V := vw A s) (i := (vw A s).length)
  obtain ⟨T, z1, z2, z3⟩ := f_rev (f := 0) (z := (vw A s).length) y2.2 (by rw [hN]; omega)
  have hck : cck b S T _ := ⟨y2.1.tr z3, z2⟩
  obtain ⟨n1, n2, n3⟩ := hck.hd h
  have hv := (hck.has h hw h5).view
  have hc := hck.copy h
  have hl : (rvS (nbV (vw A s) (vw A s).length) 0 (vw A s).length).length = (vw A s).length := by rw [rvS_len (by rw [hN]; omega), hN]
  obtain ⟨T2, x1, x2, x3⟩ := f_rev (f := 0) (z := (vw A s).length) z2 (by rw [hl]; omega)
  have hck2 : cck b S T2 (nbV (vw A s) (vw A s).length) := ⟨hck.1.tr x3, by
    have : rvS (rvS (nbV (vw A s) (vw A s).length) 0 (vw A s).length) 0 (vw A s).length = nbV (vw A s) (vw A s).length := by
      refine tl_ext (by rw [rvS_len (by rw [hl]; omega), hl, hN]) fun q hq => ?_
      rw [rvS_len (by rw [hl]; omega), hl] at hq
      rw [gd_rvS (by rw [hl]; omega), if_pos (by omega), gd_rvS (by rw [hN]; omega), if_pos (by omega)]
      exact congrArg (fun q => (nbV (vw A s) (vw A s).length).getD q tz) (by omega)
    rw [this] at x2
    exact x2⟩
  obtain ⟨v1, v2, v3⟩ := hck2.hd h
  have hv2 := (hck2.has h hw h5).view
  have hc2 := hck2.copy h
  have g4 : gT T (b + 28) = 4 := hck.2.1.1
  have e9 : b2i true = 1 := rfl
  have hst : f_X1_standsAt T2 (b + 32) 0 (some a) = some 1 := by
    have := f_stands (p := 0) hc2 hv2 (by rw [hN]; omega)
    rw [List.drop_zero, alk_i _ _ (by rw [hN]; exact Nat.le_refl _) (fun i hi => by rw [nbV_gd hi])] at this
    exact this
  refine ⟨T2, _, ?_, hck2⟩
  obtain ⟨-, -, n, u2⟩ := lpG0 (F := fun n (_ : Unit) i => f_X0_isTurnSound_L24 (b + 27) n T (some a) (nI (vw A s).length) i) (fun i c => True) (vw A s).length (fun n c i hi hI => by
    have q : ((vw A s).length ≤ i) = False := eq_false (by omega)
    have em : nI (vw A s).length - 1 - nI i = nI ((vw A s).length - 1 - i) := by
      rw [n_1, pk_sub (by omega), pk_sub (by omega)]
    have hal := f_alike hc hv (show i < _ by rw [hl]; exact hi) (show (vw A s).length - 1 - i < (vw A s).length by omega)
    have hall : isT ((vw A s).getD ((vw A s).length - 1 - i) tz).2.1 ((vw A s).getD ((vw A s).length - 1 - i) tz).2.2 ((rvS (nbV (vw A s) (vw A s).length) 0 (vw A s).length).getD i tz) = true := by
      rw [gd_rvS (by rw [hN]; omega), if_pos (by omega)]
      have : 0 + (0 + (vw A s).length - 1 - i) = (vw A s).length - 1 - i := by omega
      rw [this, nbV_gd (by omega)]
      unfold isT; simp
    rw [hall] at hal
    refine ⟨(), trivial, ?_⟩
    show f_X0_isTurnSound_L24 (b + 27) (n + 1) T (some a) (nI (vw A s).length) (nI i) = _
    simp (disch := omega) only [f_X0_isTurnSound_L24, nI_leI, q, if_false, gfR_at n1, n3, Option.bind_some, gtk_at hc.1, em, hal, e9, e1z, nI_1]) (by omega) () trivial
  have z1 : f_X3_reverse T1 (b + 28) 0 (nI (vw A s).length) = some T := z1
  have x1 : f_X3_reverse T (b + 28) 0 (nI (vw A s).length) = some T2 := x1
  simp only [f_X0_isTurnSound, gtk_at hv0.1, hv0.2.2.2.1, gfR_at k1, k2, Option.bind_some, gtk_at hL0.1.1, y1, gfR_at m1, m2, gtk_at y2.2.1.1, z1]
  rw [u2]
  simp only [f_X0_isTurnSound_L24, Int32.le_refl, if_true, gfR_at n1, n2, Option.bind_some, gtk_at g4, x1, gfR_at v1, v3, gtk_at hc2.1, hst, gnb1, gck_t]
theorem c_rotateSound (h : Rcp b k pa ch S hs A) (hw : WF A) (h5 : has A S b s a) : ∃ T L, f_X0_isRotateSound S (b + 27) (some a) = some (1, T) ∧ cck b S T L := by
  have h24 := h5.view.2.2.1
  have hv0 := h5.view
  obtain ⟨k1, k2, k3⟩ := h.1.2.2.2.1
  obtain ⟨L0, hL0⟩ := h.2.2.1.2
  obtain ⟨T1, y1, y2⟩ := f_copy h hw h5
  obtain ⟨m1, m2, m3⟩ := y2.hd h
  have hN := nbV_len (V := vw A s) (i := (vw A s).length)
  obtain ⟨T, z1, z2, z3⟩ := f_round (f := 0) (z := (vw A s).length) (x := 5) y2.2 (by rw [hN]; omega) (by decide) (by decide)
  have spl0 : ∀ (L M : List Tr), L.length = (vw A s).length → spl L 0 (vw A s).length M = M := fun L M hL => by
    unfold spl
    rw [List.take_zero, List.nil_append, Nat.zero_add, ← hL, List.drop_length, List.append_nil]
  have viw0 : ∀ (L : List Tr), L.length = (vw A s).length → viw L 0 (vw A s).length = L := fun L hL => by rw [← hL]; exact viw_all
  rw [spl0 _ _ hN, viw0 _ hN] at z2
  have hck : cck b S T _ := ⟨y2.1.tr z3, z2⟩
  obtain ⟨n1, n2, n3⟩ := hck.hd h
  have hv := (hck.has h hw h5).view
  have hc := hck.copy h
  have hl : (roL (nbV (vw A s) (vw A s).length) (rot 5 (vw A s).length)).length = (vw A s).length := by
    unfold roL
    rw [List.length_append, List.length_drop, List.length_take, hN]; omega
  obtain ⟨T2, x1, x2, x3⟩ := f_round (f := 0) (z := (vw A s).length) (x := -5) z2 (by rw [hl]; omega) (by decide) (by decide)
  rw [spl0 _ _ hl, viw0 _ hl] at x2
  have hck2 : cck b S T2 (nbV (vw A s) (vw A s).length) := ⟨hck.1.tr x3, by
    by_cases c : 0 < (vw A s).length
    · have := roL_back (L := nbV (vw A s) (vw A s).length) (by rw [hN]; exact c) (by rw [hN]; exact h24)
      rw [hN] at this
      rw [this] at x2
      exact x2
    · have c0 : (vw A s).length = 0 := by omega
      rw [c0] at x2
      have e1 : nbV (vw A s) 0 = [] := rfl
      rw [c0]
      rw [e1] at x2 ⊢
      have e2 : roL (roL [] (rot 5 0)) (rot (-5) 0) = [] := rfl
      rw [e2] at x2
      exact x2⟩
  obtain ⟨v1, v2, v3⟩ := hck2.hd h
  have hv2 := (hck2.has h hw h5).view
  have hc2 := hck2.copy h
  have g4 : gT T (b + 28) = 4 := hck.2.1.1
  have e9 : b2i true = 1 := rfl
  have hst : f_X1_standsAt T2 (b + 32) 0 (some a) = some 1 := by
    have := f_stands (p := 0) hc2 hv2 (by rw [hN]; omega)
    rw [List.drop_zero, alk_i _ _ (by rw [hN]; exact Nat.le_refl _) (fun i hi => by rw [nbV_gd hi])] at this
    exact this
  refine ⟨T2, _, ?_, hck2⟩
  obtain ⟨-, -, n, u2⟩ := lpG0 (F := fun n (_ : Unit) i => f_X0_isRotateSound_L25 (b + 27) n T (some a) (nI (vw A s).length) i) (fun i c => True) (vw A s).length (fun n c i hi hI => by
    have q : ((vw A s).length ≤ i) = False := eq_false (by omega)
    have hm := Nat.mod_lt (i + 5) (show (vw A s).length > 0 by omega)
    have em : (nI i + 5) - (nI i + 5) / nI (vw A s).length * nI (vw A s).length = nI ((i + 5) % (vw A s).length) := by
      have e5 : nI i + 5 = nI (i + 5) := by
        have : (5 : Int32) = nI 5 := by decide
        rw [this, nI_add]
      rw [e5, pk_rem (by omega) (by omega) (by omega)]
    have hz : decide (¬ nI (vw A s).length = 0) = true := decide_eq_true (fun z => nI_ne0 (by omega) (by omega) z)
    have hal := f_alike hc hv (show (i + 5) % (vw A s).length < _ by rw [hl]; exact hm) hi
    have hall : isT ((vw A s).getD i tz).2.1 ((vw A s).getD i tz).2.2 ((roL (nbV (vw A s) (vw A s).length) (rot 5 (vw A s).length)).getD ((i + 5) % (vw A s).length) tz) = true := by
      have := roL_at (L := nbV (vw A s) (vw A s).length) (i := i) (by rw [hN]; exact hi) (by rw [hN]; exact h24)
      rw [hN] at this
      rw [this, nbV_gd hi]
      unfold isT; simp
    rw [hall] at hal
    refine ⟨(), trivial, ?_⟩
    show f_X0_isRotateSound_L25 (b + 27) (n + 1) T (some a) (nI (vw A s).length) (nI i) = _
    simp (disch := omega) only [f_X0_isRotateSound_L25, nI_leI, q, if_false, gfR_at n1, n3, Option.bind_some, hz, gck_t, gtk_at hc.1, em, hal, e9, e1z, nI_1]) (by omega) () trivial
  have z1 : f_X3_moveRound T1 (b + 28) 0 (nI (vw A s).length) 5 = some T := z1
  have x1 : f_X3_moveRound T (b + 28) 0 (nI (vw A s).length) (-5) = some T2 := x1
  simp only [f_X0_isRotateSound, gtk_at hv0.1, hv0.2.2.2.1, gfR_at k1, k2, Option.bind_some, gtk_at hL0.1.1, y1, gfR_at m1, m2, gtk_at y2.2.1.1, z1]
  rw [u2]
  simp only [f_X0_isRotateSound_L25, Int32.le_refl, if_true, gfR_at n1, n2, Option.bind_some, gtk_at g4, x1, gfR_at v1, v3, gtk_at hc2.1, hst, gnb1, gck_t]
theorem f_counted {S : GS} {a : Nat} {kd x : Int32} {V : List Tr} (c0 : Nat) (hv : cVw S a kd V) : f_X0_countedSearch S c0 (some a) x = some (if V.any (fun t => t.2.1 == x) = true then 100 else -1 - nI (V.countP fun t => decide (t.2.1 < x))) := by
  have h24 := hv.2.2.1
  obtain ⟨c, u1, n, u2⟩ := lpG0 (F := fun n (c : Nat) i => f_X0_countedSearch_L5 S c0 n (some a) x (nI c) i) (fun i c => c = (V.take i).countP fun t => decide (t.2.1 < x)) V.length (fun n c i hi hI => by
    have q : (V.length ≤ i) = False := eq_false (by omega)
    obtain ⟨b1, -⟩ := hv.2.2.2.2 i hi
    by_cases e : x ≤ (V.getD i tz).2.1
    · refine ⟨c, ?_, ?_⟩
      · rw [hI, take_s hi, List.countP_append, List.countP_cons, List.countP_nil, decide_eq_false (Int32.not_lt.mpr e)]; simp
      · simp (disch := omega) only [f_X0_countedSearch_L5, f_X0_countedSearch_b27, gtk_at hv.1, hv.2.2.2.1, Option.bind_some, nI_leI, q, if_false, b1, e, if_true, nI_1]
    · refine ⟨c + 1, ?_, ?_⟩
      · rw [hI, take_s hi, List.countP_append, List.countP_cons, List.countP_nil, decide_eq_true (Int32.not_le.mp e)]; simp
      · simp (disch := omega) only [f_X0_countedSearch_L5, f_X0_countedSearch_b27, gtk_at hv.1, hv.2.2.2.1, Option.bind_some, nI_leI, q, if_false, b1, e, nI_1]) (by omega) 0 rfl
  rw [List.take_length] at u1
  have u2 : f_X0_countedSearch_L5 S c0 gN (some a) x 0 0 = _ := u2
  unfold f_X0_countedSearch
  rw [u2]
  simp only [f_X0_countedSearch_L5, gtk_at hv.1, hv.2.2.2.1, Option.bind_some, Int32.le_refl, if_true, f_countKey hv]
  have hcl : cKy x V ≤ V.length := List.countP_le_length
  by_cases e : V.any (fun t => t.2.1 == x) = true
  · rw [if_pos e]
    have : 0 < cKy x V := by
      unfold cKy
      obtain ⟨t, ht, h2⟩ := List.any_eq_true.mp e
      exact List.countP_pos_iff.mpr ⟨t, ht, h2⟩
    rw [if_neg (fun z => by
      have := (nI_leI (show cKy x V < 2 ^ 31 by omega) (show 0 < 2 ^ 31 by omega)).mp z
      omega)]
  · rw [if_neg e]
    have : cKy x V = 0 := by
      unfold cKy
      refine List.countP_eq_zero.mpr fun t ht h2 => e (List.any_eq_true.mpr ⟨t, ht, h2⟩)
    rw [this, if_pos (by decide), u1]
theorem c_searchSound (h : Rcp b k pa ch S hs A) (hw : WF A) (h5 : has A S b s a) : ∃ T L, f_X0_isSearchSound S (b + 27) (some a) = some (1, T) ∧ cck b S T L := by
  have h24 := h5.view.2.2.1
  obtain ⟨k1, k2, k3⟩ := h.1.2.2.2.1
  obtain ⟨L0, hL0⟩ := h.2.2.1.2
  obtain ⟨T1, y1, y2⟩ := f_copy h hw h5
  obtain ⟨m1, m2, m3⟩ := y2.hd h
  obtain ⟨T, z1, z2, z3⟩ := f_order (f := 0) (z := (nbV (vw A s) (vw A s).length).length) (w := 107) y2.2 (by omega)
  have z1 : f_X3_order T1 (b + 28) 0 (nI (nbV (vw A s) (vw A s).length).length) 107 = some T := z1
  have hck : cck b S T _ := ⟨y2.1.tr z3, z2⟩
  obtain ⟨o1, o2⟩ := ordV (rk := rkw 107) (V := vw A s) h24
  rw [Nat.zero_add] at hck
  generalize hW : ord (rkw 107) 0 ((nbV (vw A s) (vw A s).length).length - 1) 1 (nbV (vw A s) (vw A s).length) = W at *
  refine ⟨T, W, ?_, hck⟩
  obtain ⟨n1, n2, n3⟩ := hck.hd h
  have hv := (hck.has h hw h5).view
  have hc := hck.copy h
  have anyE : ∀ x : Int32, W.any (fun t => t.2.1 == x) = (vw A s).any (fun t => t.2.1 == x) := fun x => by
    rw [Bool.eq_iff_iff]
    have e1 : W.any (fun t => t.2.1 == x) = true ↔ 0 < W.countP (fun t => t.2.1 == x) := by rw [List.any_eq_true, List.countP_pos_iff]
    have e2 : (vw A s).any (fun t => t.2.1 == x) = true ↔ 0 < (vw A s).countP (fun t => t.2.1 == x) := by rw [List.any_eq_true, List.countP_pos_iff]
    rw [e1, e2, countP_ord (q := fun t => t.2.1 == x) o2 (fun t u e => by show (t.2.1 == x) = (u.2.1 == x); rw [e])]
  have keyE : ∀ x : Int32, sKy x W 0 = if (vw A s).any (fun t => t.2.1 == x) = true then 100 else -1 - nI ((vw A s).countP fun t => decide (t.2.1 < x)) := fun x => by
    rw [sKy_r o1, anyE, countP_ord (q := fun t => decide (t.2.1 < x)) o2 (fun t u e => by show decide (t.2.1 < x) = decide (u.2.1 < x); rw [e])]
  obtain ⟨-, -, n, u2⟩ := lpG0 (F := fun n (_ : Unit) i => f_X0_isSearchSound_L27 (b + 27) n T (some a) i) (fun i c => True) (vw A s).length (fun n c i hi hI => by
    have q : ((vw A s).length ≤ i) = False := eq_false (by omega)
    obtain ⟨b1, -⟩ := hv.2.2.2.2 i hi
    have s1 := f_search (x := ((vw A s).getD i tz).2.1) hc
    rw [keyE, if_pos (List.any_eq_true.mpr ⟨_, mem_gd hi, by simp⟩)] at s1
    have s2 := f_search (x := ((vw A s).getD i tz).2.1 + 1) hc
    rw [keyE] at s2
    have s3 := f_counted (x := ((vw A s).getD i tz).2.1 + 1) (b + 27) hv
    refine ⟨(), trivial, ?_⟩
    show f_X0_isSearchSound_L27 (b + 27) (n + 1) T (some a) (nI i) = _
    simp (disch := omega) only [f_X0_isSearchSound_L27, gtk_at hv.1, hv.2.2.2.1, Option.bind_some, nI_leI, q, if_false, b1, gfR_at n1, n3, gtk_at hc.1, s1, if_true, s2, n1, beq_self_eq_true, gck_t, s3, nI_1]) (by omega) () trivial
  simp only [f_X0_isSearchSound, gfR_at k1, k2, Option.bind_some, gtk_at hL0.1.1, y1, gfR_at m1, m2, gfI_at y2.2.1.1, y2.2.2.1, gtk_at y2.2.1.1, z1]
  rw [u2]
  simp only [f_X0_isSearchSound_L27, gtk_at hv.1, hv.2.2.2.1, Option.bind_some, Int32.le_refl, if_true]
end CChk
