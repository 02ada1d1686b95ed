/-! things copied, put in, woven in -/
def nb : Nat → List Tr → List Tr
  | _, [] => []
  | i, t :: l => (nI i, t.2.1, t.2.2) :: nb (i + 1) l
theorem nb_len : ∀ (l : List Tr) (i : Nat), (nb i l).length = l.length := by
  intro l
  induction l with
  | nil => intro i; rfl
  | cons t l ih => intro i; rw [nb, List.length_cons, ih, List.length_cons]
theorem gd_nb : ∀ (l : List Tr) (i k : Nat), k < l.length → (nb i l).getD k tz = (nI (i + k), (l.getD k tz).2.1, (l.getD k tz).2.2) := by
  intro l
  induction l with
  | nil => intro i k h; exact absurd h (Nat.not_lt_zero _)
  | cons t l ih =>
    intro i k h
    cases k with
    | zero => rfl
    | succ k =>
      have := ih (i + 1) k (by simp only [List.length_cons] at h; omega)
      rw [show i + 1 + k = i + (k + 1) by omega] at this
      exact this
theorem ins_app {P Q : List Tr} {x : Tr} : (P ++ Q).insertIdx P.length x = P ++ x :: Q := by
  refine tl_ext (by rw [len_ins (by simp)]; simp; omega) fun k hk => ?_
  rw [gd_ins (by simp), gd_app, gd_app, gd_app]
  by_cases a : k < P.length
  · rw [if_pos a, if_pos a, if_pos a]
  · rw [if_neg a, if_neg a]
    by_cases c : k = P.length
    · rw [if_pos c, c]; simp
    · rw [if_neg c, if_neg (by omega)]
      obtain ⟨j, hj⟩ : ∃ j, k - P.length = j + 1 := ⟨k - P.length - 1, by omega⟩
      rw [hj, show k - 1 - P.length = j by omega]
      rfl
theorem c_copyL {S0 : GS} {w a f : Nat} {kd : Int32} {L : List Tr} {u : Option Nat} (hap : ∀ st, u = some st → st + 3 < w ∨ w + 3 < st) : ∀ (l : List Tr) (i : Nat) (S : GS) (C : List Tr) (n : Nat), cPn S a kd L u f → cSt S w C → C.length = i → L.drop i = l → l.length < n → L.length ≤ 24 →
    ∃ S', f_X3_copyThings_L7 w n S (some a) (nI i) = some S' ∧ cFr w S S' ∧ cSt S' w (C ++ nb i l) := by
  intro l
  induction l with
  | nil =>
    intro i S C n h hC hi h1 h2 h3
    obtain ⟨n, rfl⟩ : ∃ k, n = k + 1 := ⟨n - 1, by omega⟩
    have hv := h.view
    have q : (L.length ≤ i) = True := eq_true (gd_nil h1)
    have := hC.2.2.1
    refine ⟨S, ?_, cFr.rf, by simpa [nb] using hC⟩
    rw [f_X3_copyThings_L7]
    simp (disch := omega) only [gtk_at hv.1, hv.2.2.2.1, Option.bind_some, nI_leI, q, if_true]
  | cons t l ih =>
    intro i S C n h hC hi h1 h2 h3
    obtain ⟨n, rfl⟩ : ∃ k, n = k + 1 := ⟨n - 1, by omega⟩
    have hv := h.view
    obtain ⟨a1, a2, a3⟩ := gd_cons h1
    obtain ⟨b1, b2, -⟩ := hv.2.2.2.2 i a1
    rw [a2] at b1 b2
    have q : (L.length ≤ i) = False := eq_false (by omega)
    obtain ⟨S1, q1, q2, q3⟩ := f_insert (p := i) (nu := nI i) (k := t.2.1) (m := t.2.2) hC (by omega) (by omega)
    have e1 : C.insertIdx i (nI i, t.2.1, t.2.2) = C ++ [(nI i, t.2.1, t.2.2)] := by
      have := ins_app (P := C) (Q := []) (x := (nI i, t.2.1, t.2.2))
      rw [hi, List.append_nil] at this
      exact this
    rw [e1] at q2
    obtain ⟨S2, y1, y2, y3⟩ := ih (i + 1) S1 _ n (h.kept hC.1 q3 hap) q2 (by simp [hi]) a3 (by simp only [List.length_cons] at h2; omega) h3
    refine ⟨S2, ?_, q3.tr y2, by simpa [nb] using y3⟩
    rw [f_X3_copyThings_L7]
    simp (disch := omega) only [gtk_at hv.1, hv.2.2.2.1, Option.bind_some, nI_leI, q, if_false, b1, b2, hC.1.1, beq_self_eq_true, gck_t, q1, nI_1]
    exact y1
theorem c_copy {S : GS} {w a f : Nat} {kd : Int32} {L C : List Tr} {u : Option Nat} (hap : ∀ st, u = some st → st + 3 < w ∨ w + 3 < st) (h : cPn S a kd L u f) (hC : cSt S w C) :
    ∃ S', f_X3_copyThings S w (some a) = some S' ∧ cFr w S S' ∧ cSt S' w (nb 0 L) := by
  have h3 := h.view.2.2.1
  have hk := hC.1
  have q0 : cFr w S (gsI S w 4 0) := cFr.cnt
  have hC0 : cSt (gsI S w 4 0) w [] := ⟨hk, by rw [gI_gsI, if_pos ⟨rfl, rfl⟩]; exact n_0, by simp, fun i hi => absurd hi (Nat.not_lt_zero _)⟩
  obtain ⟨S', y1, y2, y3⟩ := c_copyL (S0 := S) hap L 0 (gsI S w 4 0) [] gN (h.kept hk q0 hap) hC0 rfl rfl (by simp only [gN]; omega) h3
  refine ⟨S', ?_, q0.tr y2, by simpa using y3⟩
  unfold f_X3_copyThings
  rw [gsfI_at hk.1, Option.bind_some, n_0, ← n_0]
  rw [nI_0] at y1
  exact y1
/-- a pane whose store has changed, but not it: its keys as the row has them -/
theorem rawKey {S : GS} {a st f i : Nat} {R : List Tr} (ha : gT S a = 2) (h2 : gR S a 2 = some st) (hf : f_X1_first S a = some (nI f)) (hst : cSt S st R) (hi : f + i < R.length) : f_X1_keyOf S a (nI i) = some (R.getD (f + i) tz).2.1 := by
  simp only [f_X1_keyOf, gfR_at ha, ha, h2, Option.bind_some, reduceCtorEq, if_false, beq_self_eq_true, gck_t, hf, gtk_at hst.1.1, nI_add, f_keyIn hst hi]
/-- weaving, from the last one on -/
def wvL (x : Int32) (y : Tr) : Nat → List Tr → List Tr
  | 0, V => V
  | i + 1, V => wvL x y i (if (V.getD i tz).2.1 = x then V.insertIdx (i + 1) y else V)
def wvF (x : Int32) (y : Tr) (V : List Tr) : List Tr := V.flatMap fun t => if t.2.1 = x then [t, y] else [t]
theorem wvL_tail {x : Int32} {y : Tr} : ∀ (i : Nat) (V : List Tr), i ≤ V.length → wvL x y i V = wvF x y (V.take i) ++ V.drop i := by
  intro i
  induction i with
  | zero => intro V _; simp [wvL, wvF]
  | succ i ih =>
    intro V h
    have et : V.take (i + 1) = V.take i ++ [V.getD i tz] := by
      rw [List.take_succ, gd_eq, List.getElem?_eq_getElem (by omega)]; rfl
    have ed : V.drop i = V.getD i tz :: V.drop (i + 1) := by
      rw [List.drop_eq_getElem_cons (by omega), gd_eq, List.getElem?_eq_getElem (by omega)]
      rfl
    have hl : (V.take (i + 1)).length = i + 1 := by rw [List.length_take]; omega
    have hl0 : (V.take i).length = i := by rw [List.length_take]; omega
    rw [wvL, et]
    unfold wvF
    rw [List.flatMap_append]
    by_cases c : (V.getD i tz).2.1 = x
    · rw [if_pos c]
      have e1 : V.insertIdx (i + 1) y = V.take (i + 1) ++ y :: V.drop (i + 1) := by
        have := ins_app (P := V.take (i + 1)) (Q := V.drop (i + 1)) (x := y)
        rw [hl, List.take_append_drop] at this
        exact this
      rw [ih _ (by rw [len_ins (by omega)]; omega), e1]
      have e2 : (V.take (i + 1) ++ y :: V.drop (i + 1)).take i = V.take i := by
        rw [et, List.append_assoc, List.take_append_of_le_length (by omega), List.take_of_length_le (by omega)]
      have e3 : (V.take (i + 1) ++ y :: V.drop (i + 1)).drop i = V.getD i tz :: y :: V.drop (i + 1) := by
        rw [et, List.append_assoc, List.drop_append_of_le_length (by omega), List.drop_of_length_le (by omega)]
        rfl
      rw [e2, e3]
      generalize V.getD i tz = t0 at c ⊢
      simp [wvF, c]
    · rw [if_neg c, ih V (by omega), ed]
      generalize V.getD i tz = t0 at c ⊢
      simp [wvF, c]
theorem wvL_all {x : Int32} {y : Tr} {V : List Tr} : wvL x y V.length V = wvF x y V := by
  rw [wvL_tail _ _ (Nat.le_refl _), List.take_length, List.drop_length, List.append_nil]
theorem wvF_len {x : Int32} {y : Tr} : ∀ (V : List Tr), (wvF x y V).length = V.length + cKy x V := by
  intro V
  induction V with
  | nil => rfl
  | cons t V ih =>
    unfold wvF cKy at ih ⊢
    rw [List.flatMap_cons, List.length_append, ih, List.countP_cons]
    by_cases c : t.2.1 = x
    · simp [c]; omega
    · simp [c]; omega
section CIns
variable {b k hs : Nat} {A : AS}
theorem cHd.fr {b w : Nat} {S S' : GS} (h : cHd S b) (hk : cSk S w) (hr : cFr w S S') : cHd S' b := by
  obtain ⟨⟨p1, p2, p3, p4, p5⟩, ⟨p6, p7⟩, ⟨p8, p9⟩, ⟨p10, p11, p12⟩, p13, p14, p15, p16⟩ := h
  refine ⟨⟨?_, ?_, ?_, ?_, ?_⟩, ⟨?_, ?_⟩, ⟨?_, ?_⟩, ⟨?_, ?_, ?_⟩, ?_, ?_, ?_, ?_⟩ <;> first | (rw [hr.1]; assumption) | (rw [hr.2.1]; assumption) | (rw [hr.2.2.1]; assumption) | (rw [hr.out hk (by omega) (by omega)]; assumption)
theorem c_weaveL {a st f z : Nat} {R : List Tr} {x2 x3 x6 : Int32} (hz : f + z ≤ R.length) : ∀ (i : Nat) (S : GS) (V : List Tr) (n : Nat), cHd S b → gT S a = 2 → gR S a 2 = some st → (gR S a 3 = none ∨ ∃ q, gR S a 3 = some q ∧ gT S q = 3) → f_X1_first S a = some (nI f) → cSt S st (spl R f z V) → i ≤ V.length → (wvL x2 (0, x2, x3) i V).length + (R.length - z) ≤ 24 → i < n →
    ∃ S', f_X4_weave_L43 b n S x2 x3 (some a) (some st) x6 (nI i - 1) = gck (gT S' b == 5) ((f_X4_settle S' b (some a) x6).bind fun S31 => some (.inl (x6, S31))) ∧ cFr st S S' ∧ cSt S' st (spl R f z (wvL x2 (0, x2, x3) i V)) := by
  intro i
  induction i with
  | zero =>
    intro S V n hH ha ha2 hp hf hst h1 h2 hn
    obtain ⟨n, rfl⟩ : ∃ k, n = k + 1 := ⟨n - 1, by omega⟩
    have q : (nI 0 - 1 < 0) = True := by decide
    refine ⟨S, ?_, cFr.rf, hst⟩
    rw [f_X4_weave_L43]
    simp only [q, if_true]
  | succ i ih =>
    intro S V n hH ha ha2 hp hf hst h1 h2 hn
    obtain ⟨n, rfl⟩ : ∃ k, n = k + 1 := ⟨n - 1, by omega⟩
    have hlen := spl_len (M := V) hz
    have h24 := hst.2.2.1
    have eg : (spl R f z V).getD (f + i) tz = V.getD i tz := by
      rw [gd_spl hz, if_neg (by omega), if_pos (by omega)]
      exact congrArg (fun q => V.getD q tz) (by omega)
    have hk := rawKey ha ha2 hf hst (i := i) (by omega)
    rw [eg] at hk
    rw [f_X4_weave_L43, nI_pred]
    simp (disch := omega) only [n_lt0, if_false, gtk_at ha, Option.bind_some, hk, f_X4_weave_b77, sub1]
    rw [wvL] at h2 ⊢
    by_cases c : (V.getD i tz).2.1 = x2
    · rw [if_pos c] at h2 ⊢
      rw [if_pos c]
      have hg : ∀ (j : Nat) (W : List Tr), W.length ≤ (wvL x2 (0, x2, x3) j W).length := by
        intro j
        induction j with
        | zero => intro W; exact Nat.le_refl _
        | succ j ihj =>
          intro W
          rw [wvL]
          refine Nat.le_trans ?_ (ihj _)
          by_cases c : (W.getD j tz).2.1 = x2
          · rw [if_pos c, List.length_insertIdx]; by_cases q : j + 1 ≤ W.length <;> simp [q]
          · rw [if_neg c]; exact Nat.le_refl _
      have hV' := len_ins (V := V) (x := ((0 : Int32), x2, x3)) (i := i + 1) h1
      have hge := hg i (V.insertIdx (i + 1) (0, x2, x3))
      obtain ⟨S1, q1, q2, q3⟩ := f_insert (p := f + (i + 1)) (nu := 0) (k := x2) (m := x3) hst (by omega) (by omega)
      have e1 := ins_spl (L := spl R f z V) (f := f) (z := V.length) (i := i + 1) (x := ((0 : Int32), x2, x3)) (by omega) h1
      rw [spl_viw hz, spl_spl hz] at e1
      rw [e1] at q2
      obtain ⟨S2, y1, y2, y3⟩ := ih S1 _ n (hH.fr hst.1 q3) (by rw [q3.2.1]; exact ha) (by rw [q3.1]; exact ha2) (hp.elim (fun e => Or.inl (by rw [q3.1]; exact e)) (fun ⟨q, w1, w2⟩ => Or.inr ⟨q, by rw [q3.1]; exact w1, by rw [q3.2.1]; exact w2⟩)) (first_kept hst.1 q3 ha hp hf) q2 (by omega) h2 (by omega)
      refine ⟨S2, ?_, q3.tr y2, y3⟩
      simp only [hf, Option.bind_some, gtk_at hst.1.1, nI_add, nI_1, show f + i + 1 = f + (i + 1) from rfl, q1]
      exact y1
    · rw [if_neg c] at h2 ⊢
      rw [if_neg c]
      exact ih S V n hH ha ha2 hp hf hst (by omega) h2 (by omega)
/-- one behind the other put in at a place -/
def inL (p : Nat) : Nat → List Tr → List Tr → List Tr
  | _, [], V => V
  | i, t :: l, V => inL p (i + 1) l (V.insertIdx (p + i) (0, t.2.1, t.2.2))
def n0 (t : Tr) : Tr := (0, t.2.1, t.2.2)
theorem inL_all {p : Nat} : ∀ (C : List Tr) (i : Nat) (P M Q : List Tr), P.length = p → M.length = i → inL p i C (P ++ M ++ Q) = P ++ M ++ C.map n0 ++ Q := by
  intro C
  induction C with
  | nil => intro i P M Q _ _; simp [inL]
  | cons t l ih =>
    intro i P M Q hp hm
    rw [inL]
    have := ins_app (P := P ++ M) (Q := Q) (x := ((0 : Int32), t.2.1, t.2.2))
    rw [List.length_append, hp, hm] at this
    rw [this]
    have e := ih (i + 1) P (M ++ [(0, t.2.1, t.2.2)]) Q hp (by simp [hm])
    have e2 : P ++ M ++ (0, t.2.1, t.2.2) :: Q = P ++ (M ++ [(0, t.2.1, t.2.2)]) ++ Q := by simp
    rw [e2, e]
    simp [n0]
theorem inL_take {p : Nat} {C V : List Tr} (hp : p ≤ V.length) : inL p 0 C V = V.take p ++ C.map n0 ++ V.drop p := by
  have := inL_all (p := p) C 0 (V.take p) [] (V.drop p) (by rw [List.length_take]; omega) rfl
  simpa using this
theorem c_putL {a st f z p : Nat} {R C : List Tr} (hz : f + z ≤ R.length) (hap : st + 3 < b + 22 ∨ b + 22 + 3 < st) : ∀ (l : List Tr) (i : Nat) (S : GS) (V : List Tr) (n : Nat), cHd S b → gT S a = 2 → (gR S a 3 = none ∨ ∃ q, gR S a 3 = some q ∧ gT S q = 3) → f_X1_first S a = some (nI f) → cSt S st (spl R f z V) → cSt S (b + 22) C → C.drop i = l → i ≤ C.length → p + i ≤ V.length → V.length + l.length + (R.length - z) ≤ 24 → l.length < n →
    ∃ S', f_X4_putAll_L54 b n S (nI p) (some a) (some st) (nI i) = gck (gT S' b == 5) ((f_X4_settle S' b (some a) (nI C.length)).bind fun S50 => (gtk S50 (some a) 2).bind fun a51 => (f_X1_count S50 a51).bind fun v55 => some (.inl (v55, S50))) ∧ cFr st S S' ∧ cSt S' st (spl R f z (inL p i l V)) := by
  intro l
  induction l with
  | nil =>
    intro i S V n hH ha hp hf hst hC h1 h1' h2 h3 hn
    obtain ⟨n, rfl⟩ : ∃ k, n = k + 1 := ⟨n - 1, by omega⟩
    obtain ⟨⟨p1, p2, p3, p4, p5⟩, -⟩ := id hH
    have g3 := hC.2.2.1
    have q : (C.length ≤ i) = True := eq_true (gd_nil h1)
    refine ⟨S, ?_, cFr.rf, hst⟩
    rw [f_X4_putAll_L54]
    simp (disch := omega) only [gfR_at p1, p3, Option.bind_some, gfI_at hC.1.1, hC.2.1, nI_leI, q, if_true]
  | cons t l ih =>
    intro i S V n hH ha hp hf hst hC h1 h1' h2 h3 hn
    obtain ⟨n, rfl⟩ : ∃ k, n = k + 1 := ⟨n - 1, by omega⟩
    obtain ⟨⟨p1, p2, p3, p4, p5⟩, -⟩ := id hH
    have g3 := hC.2.2.1
    have hlen := spl_len (M := V) hz
    simp only [List.length_cons] at h3 hn
    obtain ⟨a1, a2, a3⟩ := gd_cons h1
    have hkI := f_keyIn hC a1
    have hmI := f_markIn hC a1
    rw [a2] at hkI hmI
    have q : (C.length ≤ i) = False := eq_false (by omega)
    obtain ⟨S1, q1, q2, q3⟩ := f_insert (p := f + (p + i)) (nu := 0) (k := t.2.1) (m := t.2.2) hst (by omega) (by omega)
    have e1 := ins_spl (L := spl R f z V) (f := f) (z := V.length) (i := p + i) (x := ((0 : Int32), t.2.1, t.2.2)) (by omega) h2
    rw [spl_viw hz, spl_spl hz] at e1
    rw [e1] at q2
    have hV' := len_ins (V := V) (x := ((0 : Int32), t.2.1, t.2.2)) (i := p + i) h2
    obtain ⟨S2, y1, y2, y3⟩ := ih (i + 1) S1 _ n (hH.fr hst.1 q3) (by rw [q3.2.1]; exact ha) (hp.elim (fun e => Or.inl (by rw [q3.1]; exact e)) (fun ⟨q, w1, w2⟩ => Or.inr ⟨q, by rw [q3.1]; exact w1, by rw [q3.2.1]; exact w2⟩)) (first_kept hst.1 q3 ha hp hf) q2 (q3.st hC (by omega)) a3 (by omega) (by omega) (by omega) (by omega)
    refine ⟨S2, ?_, q3.tr y2, y3⟩
    rw [f_X4_putAll_L54]
    simp (disch := omega) only [gfR_at p1, p3, Option.bind_some, gfI_at hC.1.1, hC.2.1, nI_leI, q, if_false, gtk_at ha, hf, gtk_at hC.1.1, hkI, hmI, gtk_at hst.1.1, nI_add, Nat.add_assoc, q1, nI_1]
    exact y1
end CIns
