/-! asked of the reference: loops -/
theorem fndX {q : Tr → Bool} {V : List Tr} {w : Int32} {i : Nat} (h : i < V.length) (h24 : V.length ≤ 24) : (if w = 0 then fIdx q (V.take (i + 1)) 0 else lIdx q V (i + 1)) = if q (V.getD i tz) = true then (if w = 0 then (if (if w = 0 then fIdx q (V.take i) 0 else lIdx q V i) = -1 then nI i else (if w = 0 then fIdx q (V.take i) 0 else lIdx q V i)) else nI i) else (if w = 0 then fIdx q (V.take i) 0 else lIdx q V i) := by
  have hl : (V.take i).length = i := by rw [List.length_take]; omega
  by_cases e : w = 0
  · simp only [if_pos e]
    rw [take_s h, fIdx_app _ _ (by rw [hl]; omega), hl, Nat.zero_add]
    by_cases a : fIdx q (V.take i) 0 = -1
    · simp only [if_pos a]
      by_cases b : q (V.getD i tz) = true
      · rw [if_pos b, if_pos b]
      · rw [if_neg b, if_neg b, a]
    · simp only [if_neg a]
      by_cases b : q (V.getD i tz) = true
      · rw [if_pos b]
      · rw [if_neg b]
  · simp only [if_neg e]
    rfl
section RAsk2
variable {S : GS} {r cap hs : Nat} {dq : Nat → Nat} {A : AS}
theorem r_placeOf (h : Rq r dq cap S hs A) (hw : WF A) (x k m w : Int32) : rAns [1, 2] S r (f_X5_placeOf S r x k m w) (q_placeOf A x k m w) := by
  have h0 := h.thr 0
  unfold q_placeOf
  rcases c3 (A := A) x kLs with e | ⟨s, hs12, rfl, e⟩ | ⟨s, hs12, rfl, e45, e⟩
  · rw [nd_no e]
    refine ⟨0, 0, rfl, ?_⟩
    simp only [f_X5_placeOf, h.1.fs, beq_self_eq_true, gck_t, Option.bind_some, b2i_1, e20, e30, e40, e50, if_true, if_false, r_fails h.1.1, fcd, gb2_s, r_isList_no h e]
    show f_X5_placeOf_L13 S r (4999 + 1) _ _ _ _ _ _ _ = _
    rw [f_X5_placeOf_L13]
    simp only [f_X5_placeOf_b66, f_X5_placeOf_b79, f_X5_placeOf_b89, h.1.fs, beq_self_eq_true, gck_t, Option.bind_some, b2i_1, e20, e30, e40, e50, if_true, if_false, r_fails h.1.1, fcd, gb2_s, r_slot0 S e]
    rfl
  · rw [nd_bad hs12 e]
    have e := or_bad (q := kLs) e (by decide)
    have e2 := r_isList h hs12
    rw [e] at e2
    refine ⟨1, 0, rfl, ?_⟩
    simp only [f_X5_placeOf, h.1.fs, beq_self_eq_true, gck_t, Option.bind_some, b2i_1, e20, e30, e40, e50, if_true, if_false, r_fails h.1.1, fcd, gb2_s, e2, b2i_f]
    show f_X5_placeOf_L13 S r (4999 + 1) _ _ _ _ _ _ _ = _
    rw [f_X5_placeOf_L13]
    simp only [f_X5_placeOf_b66, f_X5_placeOf_b79, f_X5_placeOf_b89, h.1.fs, beq_self_eq_true, gck_t, Option.bind_some, b2i_1, e20, e30, e40, e50, if_true, if_false, r_fails h.1.1, fcd, gb2_s, r_slot1 S hs12]
    rfl
  · rw [nd_ok hs12 e45 e]
    have e2 := r_isList h hs12
    rw [e] at e2
    have hv := h.see hw hs12 e45
    have h24 := hv.2.2.1
    show _ = _
    obtain ⟨c, c1, n, c2⟩ := lpG0 (F := fun n (c : Int32) i => f_X5_placeOf_L13 S r n (nI s) k m w 1 c i) (fun i c => c = if w = 0 then fIdx (isT k m) ((vw A s).take i) 0 else lIdx (isT k m) (vw A s) i) (vw A s).length (fun n c i hi hc => by
      refine ⟨_, rfl, ?_⟩
      have q : ((vw A s).length ≤ i) = False := eq_false (by omega)
      rw [fndX hi h24, ← hc]
      simp (disch := omega) only [f_X5_placeOf_L13, f_X5_placeOf_b51, f_X5_placeOf_b56, f_X5_placeOf_b58, h.1.fs, beq_self_eq_true, gck_t, Option.bind_some, b2i_1, e20, e30, e40, e50, if_true, if_false, r_fails h.1.1, fcd, gb2_s, hv.2.1, nI_leI, q, r_alike hv hi, b2i_0, nI_1]
      cases isT k m ((vw A s).getD i tz)
      · simp only [if_true, Bool.false_eq_true, if_false]
      · simp only [Bool.true_eq_false, if_true, if_false]
        by_cases a : w = 0
        · simp only [a, if_true]
          by_cases b : c = -1
          · simp only [b, if_true]
          · simp only [b, if_false]
        · simp only [a, if_false]) (by omega) (-1) (by
      by_cases a : w = 0
      · simp only [a, if_true]; rfl
      · simp only [a, if_false]; rfl)
    simp only [f_X5_placeOf, h.1.fs, beq_self_eq_true, gck_t, Option.bind_some, b2i_1, e20, e30, e40, e50, if_true, if_false, r_fails h.1.1, fcd, gb2_s, e2, b2i_t]
    rw [c2]
    simp only [f_X5_placeOf_L13, f_X5_placeOf_b66, f_X5_placeOf_b79, f_X5_placeOf_b89, h.1.fs, beq_self_eq_true, gck_t, Option.bind_some, b2i_1, e20, e30, e40, e50, if_true, if_false, r_fails h.1.1, fcd, gb2_s, hv.2.1, Int32.le_refl, r_slot1 S hs12, c1, List.take_length]
    rfl
theorem r_searchL {s : Nat} {V : List Tr} {x : Int32} (h : rHd S r dq cap) (hv : rVw S r s V) : ∀ (l : List Tr) (i n less : Nat) (c d : Bool), V.drop (i + 1) = l → l.length < n → i < V.length →
    f_X5_search_L18 S r n (nI s) x 1 (b2i c) (nI less) (b2i d) (nI (i + 1)) = f_X5_search_b118 S r (nI s) 1 (b2i (c && rsg (V.getD i tz).2.1 l)) (nI (less + l.countP (fun t => decide (t.2.1 < x)))) (b2i (d || l.any (fun t => t.2.1 == x))) := by
  have h24 := hv.2.2.1
  intro l
  induction l with
  | nil =>
    intro i n less c d h1 h2 h3
    obtain ⟨n, rfl⟩ : ∃ k, n = k + 1 := ⟨n - 1, by omega⟩
    have q : (V.length ≤ i + 1) = True := eq_true (gd_nil h1)
    simp (disch := omega) only [f_X5_search_L18, h.1, beq_self_eq_true, gck_t, hv.2.1, Option.bind_some, nI_leI, q, if_true, b2i_1, if_false, rsg, Bool.and_true, List.countP_nil, Nat.add_zero, List.any_nil, Bool.or_false]
  | cons t l ih =>
    intro i n less c d h1 h2 h3
    obtain ⟨n, rfl⟩ : ∃ k, n = k + 1 := ⟨n - 1, by omega⟩
    obtain ⟨a1, a2, a3⟩ := gd_cons h1
    obtain ⟨b1, b2⟩ := hv.2.2.2 (i + 1) a1
    obtain ⟨c1, c2⟩ := hv.2.2.2 i h3
    rw [a2] at b1 b2
    have q : (V.length ≤ i + 1) = False := eq_false (by omega)
    have q0 : (nI (i + 1) = 0) = False := eq_false (nI_ne0 (by omega) (by omega))
    have ih2 := fun less c d => ih (i + 1) n less c d a3 (by simp only [List.length_cons] at h2; omega) a1
    rw [a2] at ih2
    have fin : ∀ (c2 : Bool), f_X5_search_b66 (f_X5_search_L18 S r n) S r (nI s) x 1 (nI less) (b2i d) (nI (i + 1)) (b2i c2) = f_X5_search_b118 S r (nI s) 1 (b2i (c2 && rsg t.2.1 l)) (nI (less + (t :: l).countP (fun t => decide (t.2.1 < x)))) (b2i (d || (t :: l).any (fun t => t.2.1 == x))) := by
      intro c2
      simp only [f_X5_search_b66, f_X5_search_b86, f_X5_search_b105, f_X5_search_b110, h.1, beq_self_eq_true, gck_t, b1, Option.bind_some, b2i_0, List.countP_cons, List.any_cons]
      have m1 : nI less + 0 = nI less := Int32.add_zero _
      by_cases k1 : x ≤ t.2.1
      · have k2 : ¬ t.2.1 < x := Int32.not_lt.mpr k1
        simp only [k1, if_true, k2, decide_false, Bool.false_eq_true, if_false, Nat.add_zero, m1]
        cases d
        · by_cases k3 : t.2.1 = x
          · simp only [if_true, k3, nI_1, beq_self_eq_true, Bool.true_or, Bool.or_true]
            have := ih2 less c2 true
            rw [b2i_t, Bool.true_or, k3] at this
            exact this
          · have k4 : (t.2.1 == x) = false := beq_eq_false_iff_ne.mpr k3
            simp only [if_true, k3, if_false, nI_1, k4, Bool.false_or]
            have := ih2 less c2 false
            rw [b2i_f, Bool.false_or] at this
            exact this
        · simp only [Bool.true_eq_false, if_false, nI_1, Bool.true_or]
          have := ih2 less c2 true
          rw [b2i_t, Bool.true_or] at this
          exact this
      · have k2 : t.2.1 < x := Int32.not_le.mp k1
        have k3 : ¬ t.2.1 = x := fun z => by rw [z] at k2; exact Int32.lt_irrefl k2
        have k4 : (t.2.1 == x) = false := beq_eq_false_iff_ne.mpr k3
        simp only [k1, if_false, k2, decide_true, if_true, nI_1, k3, k4, Bool.false_or]
        have e9 : less + 1 + l.countP (fun t => decide (t.2.1 < x)) = less + (l.countP (fun t => decide (t.2.1 < x)) + 1) := by omega
        cases d
        · simp only [if_true]
          have := ih2 (less + 1) c2 false
          rw [b2i_f, Bool.false_or, e9] at this
          exact this
        · simp only [Bool.true_eq_false, if_false, Bool.true_or]
          have := ih2 (less + 1) c2 true
          rw [b2i_t, Bool.true_or, e9] at this
          exact this
    simp (disch := omega) only [f_X5_search_L18, f_X5_search_b65, f_X5_search_b61, h.1, beq_self_eq_true, gck_t, hv.2.1, Option.bind_some, nI_leI, q, if_false, b2i_0, b2i_1, q0, nI_pred, c1, b1, rsg]
    cases c
    · simp only [if_true, Bool.false_and]
      have := fin false
      rw [b2i_f, Bool.false_and] at this
      exact this
    · simp only [Bool.true_eq_false, if_false, Bool.true_and]
      by_cases k1 : (V.getD i tz).2.1 ≤ t.2.1
      · have k2 : ¬ t.2.1 < (V.getD i tz).2.1 := Int32.not_lt.mpr k1
        rw [if_neg k2, if_pos k1]
        have := fin true
        rw [b2i_t, Bool.true_and] at this
        exact this
      · rw [if_pos (Int32.not_le.mp k1), if_neg k1]
        have := fin false
        rw [b2i_f, Bool.false_and] at this
        exact this
theorem r_search (h : Rq r dq cap S hs A) (hw : WF A) (x k : Int32) : rAns [1, 2, 5] S r (f_X5_search S r x k) (q_search A x k) := by
  have h0 := h.thr 0
  unfold q_search
  rcases c3 (A := A) x kLs with e | ⟨s, hs12, rfl, e⟩ | ⟨s, hs12, rfl, e45, e⟩
  · rw [nd_no e]
    refine ⟨0, 0, rfl, ?_⟩
    simp only [f_X5_search, h.1.fs, beq_self_eq_true, gck_t, Option.bind_some, b2i_1, e20, e30, e40, e50, if_true, if_false, r_fails h.1.1, fcd, gb2_s, r_isList_no h e]
    show f_X5_search_L18 S r (4999 + 1) _ _ _ _ _ _ _ = _
    rw [f_X5_search_L18]
    simp only [f_X5_search_b118, f_X5_search_b131, f_X5_search_b140, f_X5_search_b150, h.1.fs, beq_self_eq_true, gck_t, Option.bind_some, b2i_1, e20, e30, e40, e50, if_true, if_false, r_fails h.1.1, fcd, gb2_s, r_slot0 S e]
    rfl
  · rw [nd_bad hs12 e]
    have e := or_bad (q := kLs) e (by decide)
    have e2 := r_isList h hs12
    rw [e] at e2
    refine ⟨1, 0, rfl, ?_⟩
    simp only [f_X5_search, h.1.fs, beq_self_eq_true, gck_t, Option.bind_some, b2i_1, e20, e30, e40, e50, if_true, if_false, r_fails h.1.1, fcd, gb2_s, e2, b2i_f]
    show f_X5_search_L18 S r (4999 + 1) _ _ _ _ _ _ _ = _
    rw [f_X5_search_L18]
    simp only [f_X5_search_b118, f_X5_search_b131, f_X5_search_b140, f_X5_search_b150, h.1.fs, beq_self_eq_true, gck_t, Option.bind_some, b2i_1, e20, e30, e40, e50, if_true, if_false, r_fails h.1.1, fcd, gb2_s, r_slot1 S hs12]
    rfl
  · rw [nd_ok hs12 e45 e]
    have e2 := r_isList h hs12
    rw [e] at e2
    have hv := h.see hw hs12 e45
    have h24 := hv.2.2.1
    have key : f_X5_search_L18 S r gN (nI s) k 1 1 0 0 0 = f_X5_search_b118 S r (nI s) 1 (b2i (rsL (vw A s))) (nI ((vw A s).countP (fun t => decide (t.2.1 < k)))) (b2i ((vw A s).any (fun t => t.2.1 == k))) := by
      cases hV : vw A s with
      | nil =>
        show f_X5_search_L18 S r (4999 + 1) _ _ _ _ _ _ _ = _
        have z : f_X5_many S r (nI s) = some 0 := by rw [hv.2.1, hV]; rfl
        have z0 : ((0 : Int32) ≤ 0) = True := by decide
        rw [f_X5_search_L18]
        simp only [h.1.fs, beq_self_eq_true, gck_t, Option.bind_some, b2i_1, e20, e30, e40, e50, if_true, if_false, r_fails h.1.1, fcd, gb2_s, z, z0]
        rfl
      | cons t l =>
        rw [hV] at hv h24
        show f_X5_search_L18 S r (4999 + 1) _ _ _ _ _ _ _ = _
        obtain ⟨b1, b2⟩ := hv.2.2.2 0 (by simp)
        have z0 : (nI (t :: l).length ≤ 0) = False := eq_false (nI_nle (by simp) (by omega))
        have hL := fun less d => r_searchL (x := k) h.1 hv l 0 4999 less true d rfl (by simp only [List.length_cons] at h24; omega) (by simp)
        rw [nI_0] at b1
        have b1 : f_X5_key S r (nI s) 0 = some t.2.1 := b1
        have g0 : (t :: l).getD 0 tz = t := rfl
        simp only [g0, Bool.true_and, b2i_t] at hL
        have n1 : nI (0 + 1) = (0 : Int32) + 1 := by decide
        have m1 : (0 : Int32) + 0 = nI 0 := by decide
        have m2 : (0 : Int32) + 1 = nI 1 := by decide
        rw [f_X5_search_L18]
        simp only [f_X5_search_b110, f_X5_search_b105, f_X5_search_b86, f_X5_search_b66, f_X5_search_b65, f_X5_search_b61, h.1.fs, beq_self_eq_true, gck_t, Option.bind_some, b2i_1, e20, e30, e40, e50, if_true, if_false, r_fails h.1.1, fcd, gb2_s, hv.2.1, z0, b1, rsL, List.countP_cons, List.any_cons, m1]
        by_cases k1 : k ≤ t.2.1
        · have k2 : ¬ t.2.1 < k := Int32.not_lt.mpr k1
          simp only [k1, if_true, k2, decide_false, Bool.false_eq_true, if_false, Nat.add_zero]
          by_cases k3 : t.2.1 = k
          · simp only [k3, if_true, beq_self_eq_true, Bool.true_or]
            have := hL 0 true
            rw [b2i_t, Bool.true_or, Nat.zero_add, n1, k3] at this
            rw [this, Nat.zero_add]
          · have k4 : (t.2.1 == k) = false := beq_eq_false_iff_ne.mpr k3
            simp only [k3, if_false, k4, Bool.false_or]
            have := hL 0 false
            rw [b2i_f, Bool.false_or, Nat.zero_add, n1] at this
            rw [this, Nat.zero_add]
        · have k2 : t.2.1 < k := Int32.not_le.mp k1
          have k3 : ¬ t.2.1 = k := fun z => by rw [z] at k2; exact Int32.lt_irrefl k2
          have k4 : (t.2.1 == k) = false := beq_eq_false_iff_ne.mpr k3
          simp only [k1, if_false, k2, decide_true, if_true, k3, k4, Bool.false_or]
          have := hL 1 false
          rw [b2i_f, Bool.false_or, Nat.add_comm 1, n1] at this
          exact this
    simp only [f_X5_search, h.1.fs, beq_self_eq_true, gck_t, Option.bind_some, b2i_1, e20, e30, e40, e50, if_true, if_false, r_fails h.1.1, fcd, gb2_s, e2, b2i_t]
    rw [key]
    cases hr : rsL (vw A s)
    · exact ⟨2, _, rfl, by simp only [f_X5_search_b118, f_X5_search_b131, f_X5_search_b140, f_X5_search_b150, h.1.fs, beq_self_eq_true, gck_t, Option.bind_some, b2i_1, e20, e30, e40, e50, if_true, if_false, r_fails h.1.1, fcd, gb2_s, r_slot1 S hs12, b2i_f]; rfl⟩
    · show _ = _
      have hs2 : sKy k (vw A s) 0 = if (vw A s).any (fun t => t.2.1 == k) = true then 100 else -1 - nI ((vw A s).countP (fun t => decide (t.2.1 < k))) := by
        cases hV : vw A s with
        | nil => rfl
        | cons t l =>
          rw [hV] at hr
          have := sKy_c (x := k) (t :: l) t.2.1 0 (by unfold rsg; rw [if_pos (Int32.le_refl _)]; exact hr)
          rw [Nat.zero_add] at this
          exact this
      rw [hs2]
      simp only [f_X5_search_b118, f_X5_search_b131, f_X5_search_b140, f_X5_search_b150, h.1.fs, beq_self_eq_true, gck_t, Option.bind_some, b2i_1, e20, e30, e40, e50, if_true, if_false, r_fails h.1.1, fcd, gb2_s, r_slot1 S hs12, b2i_t, b2i_0]
      cases (vw A s).any (fun t => t.2.1 == k) <;> rfl
/-- the hash, a thing more -/
def hst (kd : Int32) (c : Int32) (t : Tr) : Int32 := if kLs kd = true then hL c t else if kd = 107 then hK c t else hM c t
theorem r_hash (h : Rq r dq cap S hs A) (hw : WF A) (x : Int32) : rAns [1, 2] S r (f_X5_hash S r x) (q_hash A x) := by
  have h0 := h.thr 0
  unfold q_hash
  rcases sIx_c x with ⟨e, -⟩ | ⟨s, hs12, rfl, e⟩
  · rw [nd_no e]
    exact ⟨0, _, rfl, by simp only [f_X5_hash_b156, f_X5_hash_b154, f_X5_hash_b68, f_X5_hash_b44, f_X5_hash_b35, f_X5_hash_b21, f_X5_hash_b16, f_X5_hash, h.1.fs, beq_self_eq_true, gck_t, Option.bind_some, b2i_1, e20, e30, e40, e50, if_true, if_false, r_fails h.1.1, fcd, gb2_s, r_isList_no h e, r_hasNumbers_no h e, r_slot0 S e]; rfl⟩
  · have e2 := r_isList h hs12
    have e3 := r_hasNumbers h hs12
    cases hq : (kLs (kA A s) || (kMp (kA A s) || kA A s == 107))
    · obtain ⟨q1, q2⟩ := Bool.or_eq_false_iff.mp hq
      obtain ⟨q3, q4⟩ := Bool.or_eq_false_iff.mp q2
      have q5 : ¬ kA A s = 107 := beq_eq_false_iff_ne.mp q4
      rw [q1] at e2
      rw [q2] at e3
      have : bnd (ndL A (nI s) fun _ => true) (fun s => if kLs (kA A s) = true then Sum.inl ((vw A s).foldl hL 1) else if kA A s = 107 then .inl ((vw A s).foldl hK 0) else if kMp (kA A s) = true then .inl ((vw A s).foldl hM 0) else .inr 2) = .inr 2 := by
        by_cases h45 : kA A s = 45
        · rw [nd_bad hs12 (Or.inl h45)]
        · rw [nd_ok hs12 h45 rfl, q1, q3]
          simp only [Bool.false_eq_true, if_false, q5]
      rw [this]
      exact ⟨1, _, rfl, by simp only [f_X5_hash_b156, f_X5_hash_b154, f_X5_hash_b68, f_X5_hash_b44, f_X5_hash_b35, f_X5_hash_b21, f_X5_hash_b16, f_X5_hash, h.1.fs, beq_self_eq_true, gck_t, Option.bind_some, b2i_1, e20, e30, e40, e50, if_true, if_false, r_fails h.1.1, fcd, gb2_s, e2, e3, b2i_f, r_slot1 S hs12]; rfl⟩
    · have e45 : kA A s ≠ 45 := fun z => by rw [z] at hq; exact absurd hq (by decide)
      have hv0 := h0.see hw hs12 e45
      have h24 := hv0.2.2.1
      rw [nd_ok hs12 e45 rfl]
      have hz : (if kLs (kA A s) = true then Sum.inl ((vw A s).foldl hL 1) else if kA A s = 107 then .inl ((vw A s).foldl hK 0) else if kMp (kA A s) = true then .inl ((vw A s).foldl hM 0) else .inr 2 : Int32 ⊕ Nat) = .inl ((vw A s).foldl (hst (kA A s)) (if kLs (kA A s) = true then 1 else 0)) := by
        by_cases q1 : kLs (kA A s) = true
        · rw [if_pos q1, if_pos q1]
          have : hst (kA A s) = hL := by funext c t; unfold hst; rw [if_pos q1]
          rw [this]
        · rw [if_neg q1, if_neg q1]
          by_cases q5 : kA A s = 107
          · rw [if_pos q5]
            have : hst (kA A s) = hK := by funext c t; unfold hst; rw [if_neg q1, if_pos q5]
            rw [this]
          · rw [if_neg q5]
            have q6 : kMp (kA A s) = true := by
              rcases (Bool.or_eq_true _ _).mp hq with z | z
              · exact absurd z q1
              · rcases (Bool.or_eq_true _ _).mp z with z | z
                · exact z
                · exact absurd (eq_of_beq z) q5
            rw [if_pos q6]
            have : hst (kA A s) = hM := by funext c t; unfold hst; rw [if_neg q1, if_neg q5]
            rw [this]
      rw [hz]
      show _ = _
      have e2' := r_isList h0 hs12
      have e4' := r_isKeys h0 hs12
      have key : ∀ c0, f_X5_hash_L72 r gN (gsI S r 19 0) (nI s) c0 0 = some ((vw A s).foldl (hst (kA A s)) c0, gsI S r 19 0) := fun c0 =>
        lpF (F := fun n c i => f_X5_hash_L72 r n (gsI S r 19 0) (nI s) c i) (vw A s) (hst (kA A s)) (fun c => some (c, gsI S r 19 0)) (by omega) (fun n c => by
          simp only [f_X5_hash_L72, h0.1.fs, beq_self_eq_true, gck_t, hv0.2.1, Option.bind_some, Int32.le_refl, if_true]) (fun n c i hi => by
          have q : ((vw A s).length ≤ i) = False := eq_false (by omega)
          simp (disch := omega) only [f_X5_hash_L72, f_X5_hash_b156, f_X5_hash_b154, h0.1.fs, beq_self_eq_true, gck_t, hv0.2.1, Option.bind_some, nI_leI, q, if_false, e2', e4', b2i_0, r_hashAt hv0 hi, nI_1]
          unfold hst
          cases q1 : kLs (kA A s)
          · simp only [if_true, Bool.false_eq_true, if_false]
            have hq2 : (kMp (kA A s) || kA A s == 107) = true := by rw [q1, Bool.false_or] at hq; exact hq
            obtain ⟨j, j1, j2, j3, j4, -⟩ := h0.ref hw hs12 (Or.inl hq2)
            have hj := h0.nj hw j1
            rw [← j4] at hj
            by_cases q5 : kA A s = 107
            · have q6 : (kA A s == 107) = true := beq_iff_eq.mpr q5
              simp only [q6, if_true, Bool.true_eq_false, if_false, j3, hj.2.2.1, hj.2.2.2 i hi, Option.bind_some, hK]
              rw [if_pos q5]
            · have q6 : (kA A s == 107) = false := beq_eq_false_iff_ne.mpr q5
              simp only [q6, q5, if_true, if_false, j3, hj.2.2.1, hj.2.2.2 i hi, Option.bind_some, hM]
          · simp only [Bool.true_eq_false, if_false, if_true, hL]) c0
      cases q1 : kLs (kA A s)
      · have hq2 : (kMp (kA A s) || kA A s == 107) = true := by rw [q1, Bool.false_or] at hq; exact hq
        rw [q1] at e2 e2'
        rw [hq2] at e3
        simp only [f_X5_hash_b156, f_X5_hash_b154, f_X5_hash_b68, f_X5_hash_b44, f_X5_hash_b35, f_X5_hash_b21, f_X5_hash_b16, f_X5_hash, h.1.fs, beq_self_eq_true, gck_t, Option.bind_some, b2i_1, e20, e30, e40, e50, if_true, if_false, r_fails h.1.1, fcd, gb2_s, h0.1.fs, e2, e2', e3, b2i_f, b2i_t, r_slot1 S hs12, key, Bool.false_eq_true]
      · rw [q1] at e2 e2'
        simp only [f_X5_hash_b156, f_X5_hash_b154, f_X5_hash_b68, f_X5_hash_b44, f_X5_hash_b35, f_X5_hash_b21, f_X5_hash_b16, f_X5_hash, h.1.fs, beq_self_eq_true, gck_t, Option.bind_some, b2i_1, e20, e30, e40, e50, if_true, if_false, r_fails h.1.1, fcd, gb2_s, h0.1.fs, e2, e2', b2i_f, b2i_t, r_slot1 S hs12, key]

theorem r_often (h : Rq r dq cap S hs A) (hw : WF A) (x k m : Int32) : rAns [1, 2] S r (f_X5_often S r x k m) (q_often A x k m) := by
  have h0 := h.thr 0
  unfold q_often
  rcases c3 (A := A) x (fun k => kLs k || k == 118) with e | ⟨s, hs12, rfl, e⟩ | ⟨s, hs12, rfl, e45, e⟩
  · rw [nd_no e]
    refine ⟨0, 0, rfl, ?_⟩
    simp only [f_X5_often, h.1.fs, beq_self_eq_true, gck_t, Option.bind_some, b2i_1, e20, e30, e40, e50, if_true, if_false, r_fails h.1.1, fcd, gb2_s, r_isRow_no h e]
    show f_X5_often_L13 S r (4999 + 1) _ _ _ _ _ _ = _
    rw [f_X5_often_L13]
    simp only [f_X5_often_b56, f_X5_often_b69, f_X5_often_b79, h.1.fs, beq_self_eq_true, gck_t, Option.bind_some, b2i_1, e20, e30, e40, e50, if_true, if_false, r_fails h.1.1, fcd, gb2_s, r_slot0 S e]
    rfl
  · rw [nd_bad hs12 e]
    have e := or_bad (q := (fun k => kLs k || k == 118)) e (by decide)
    have e2 := r_isRow h hs12
    rw [e] at e2
    refine ⟨1, 0, rfl, ?_⟩
    simp only [f_X5_often, h.1.fs, beq_self_eq_true, gck_t, Option.bind_some, b2i_1, e20, e30, e40, e50, if_true, if_false, r_fails h.1.1, fcd, gb2_s, e2, b2i_f]
    show f_X5_often_L13 S r (4999 + 1) _ _ _ _ _ _ = _
    rw [f_X5_often_L13]
    simp only [f_X5_often_b56, f_X5_often_b69, f_X5_often_b79, h.1.fs, beq_self_eq_true, gck_t, Option.bind_some, b2i_1, e20, e30, e40, e50, if_true, if_false, r_fails h.1.1, fcd, gb2_s, r_slot1 S hs12]
    rfl
  · rw [nd_ok hs12 e45 e]
    have e2 := r_isRow h hs12
    rw [e] at e2
    have hv := h.see hw hs12 e45
    have h24 := hv.2.2.1
    show _ = _
    have key := lpF (F := fun n (c : Nat) i => f_X5_often_L13 S r n (nI s) k m 1 (nI c) i) (vw A s) (fun c t => c + (if isT k m t = true then 1 else 0)) (fun c => some (nI c, gsI S r 19 0)) (by omega) (fun n c => by
        simp only [f_X5_often_L13, f_X5_often_b56, f_X5_often_b69, f_X5_often_b79, h.1.fs, beq_self_eq_true, gck_t, Option.bind_some, b2i_1, e20, e30, e40, e50, if_true, if_false, r_fails h.1.1, fcd, gb2_s, hv.2.1, Int32.le_refl, r_slot1 S hs12]) (fun n c i hi => by
        have q : ((vw A s).length ≤ i) = False := eq_false (by omega)
        have m1 : nI c + 0 = nI c := Int32.add_zero _
        simp (disch := omega) only [f_X5_often_L13, f_X5_often_b47, h.1.fs, beq_self_eq_true, gck_t, Option.bind_some, b2i_1, e20, e30, e40, e50, if_true, if_false, r_fails h.1.1, fcd, gb2_s, hv.2.1, nI_leI, q, r_alike hv hi, b2i_0, nI_1]
        cases isT k m ((vw A s).getD i tz)
        · simp only [if_true, Bool.false_eq_true, if_false, m1, Nat.add_zero]
        · simp only [Bool.true_eq_false, if_true, if_false]) 0
    rw [foldl_cnt, Nat.zero_add, nI_0] at key
    simp only [f_X5_often, h.1.fs, beq_self_eq_true, gck_t, Option.bind_some, b2i_1, e20, e30, e40, e50, if_true, if_false, r_fails h.1.1, fcd, gb2_s, e2, b2i_t]
    exact key
theorem r_end (h : Rq r dq cap S hs A) (hw : WF A) (x w : Int32) : rAns [1, 2, 5] S r (f_X5_end S r x w) (q_end A x w) := by
  have h0 := h.thr 0
  unfold q_end
  rcases c3 (A := A) x (fun k => kLs k || k == 118) with e | ⟨s, hs12, rfl, e⟩ | ⟨s, hs12, rfl, e45, e⟩
  · rw [nd_no e]
    exact ⟨0, _, rfl, by simp only [f_X5_end_b107, f_X5_end_b45, f_X5_end_b44, f_X5_end_b28, f_X5_end_b19, f_X5_end, h.1.fs, beq_self_eq_true, gck_t, Option.bind_some, b2i_1, e20, e30, e40, e50, if_true, if_false, r_fails h.1.1, fcd, gb2_s, r_isRow_no h e, r_slot0 S e]; rfl⟩
  · rw [nd_bad hs12 e]
    have e := or_bad (q := (fun k => kLs k || k == 118)) e (by decide)
    have e2 := r_isRow h hs12
    rw [e] at e2
    exact ⟨1, _, rfl, by simp only [f_X5_end_b107, f_X5_end_b45, f_X5_end_b44, f_X5_end_b28, f_X5_end_b19, f_X5_end, h.1.fs, beq_self_eq_true, gck_t, Option.bind_some, b2i_1, e20, e30, e40, e50, if_true, if_false, r_fails h.1.1, fcd, gb2_s, e2, b2i_f, r_slot1 S hs12]; rfl⟩
  · rw [nd_ok hs12 e45 e]
    have e2 := r_isRow h hs12
    rw [e] at e2
    have hv := h.see hw hs12 e45
    have hv0 := h0.see hw hs12 e45
    have h24 := hv.2.2.1
    cases hV : vw A s with
    | nil =>
      have z : f_X5_many S r (nI s) = some 0 := by rw [hv.2.1, hV]; rfl
      exact ⟨2, _, rfl, by simp only [f_X5_end_b107, f_X5_end_b45, f_X5_end_b44, f_X5_end_b28, f_X5_end_b19, f_X5_end, h.1.fs, beq_self_eq_true, gck_t, Option.bind_some, b2i_1, e20, e30, e40, e50, if_true, if_false, r_fails h.1.1, fcd, gb2_s, e2, b2i_t, r_slot1 S hs12, z]; rfl⟩
    | cons t l =>
      rw [hV] at hv hv0 h24
      show _ = _
      have hl : l.length + 1 ≤ 24 := by simpa using h24
      obtain ⟨b1, b2⟩ := hv0.2.2.2 0 (by simp)
      rw [nI_0] at b1
      have b1 : f_X5_key (gsI S r 19 0) r (nI s) 0 = some t.2.1 := b1
      have z0 : (nI (t :: l).length = 0) = False := eq_false (nI_ne0 (by simp) (by omega))
      have key := lpF (F := fun n c i => f_X5_end_L66 r n (gsI S r 19 0) (nI s) w c (i + 1)) l (ends w) (fun c => some (c, gsI S r 19 0)) (by omega) (fun n c => by
          simp only [f_X5_end_L66, h0.1.fs, beq_self_eq_true, gck_t, hv0.2.1, Option.bind_some, nI_1, List.length_cons, Int32.le_refl, if_true]) (fun n c i hi => by
          have q : ((t :: l).length ≤ i + 1) = False := eq_false (by simp; omega)
          obtain ⟨g1, -⟩ := hv0.2.2.2 (i + 1) (by simp; omega)
          have g1 : f_X5_key (gsI S r 19 0) r (nI s) (nI (i + 1)) = some (l.getD i tz).2.1 := g1
          simp (disch := omega) only [f_X5_end_L66, f_X5_end_b107, h0.1.fs, beq_self_eq_true, gck_t, hv0.2.1, Option.bind_some, nI_1, nI_leI, q, if_false, g1]
          unfold ends
          by_cases a : w = 0
          · rw [if_pos a, if_pos a]
          · rw [if_neg a, if_neg a]) t.2.1
      have n1 : (0 : Int32) + 1 = 1 := by decide
      rw [n1] at key
      simp only [f_X5_end_b107, f_X5_end_b45, f_X5_end_b44, f_X5_end_b28, f_X5_end_b19, f_X5_end, h.1.fs, beq_self_eq_true, gck_t, Option.bind_some, b2i_1, e20, e30, e40, e50, if_true, if_false, r_fails h.1.1, fcd, gb2_s, h0.1.fs, e2, b2i_t, r_slot1 S hs12, hv.2.1, z0, b1, key]
end RAsk2
