/-! the checker's test of two neighbours in a sorted copy -/
theorem vw_B {A : AS} {s : Nat} (hw : WF A) (hs : s < 12) (hk : sK (slA A s) ≠ 45) {t : Tr} (ht : t ∈ vw A s) : inB t := by
  have hsl := hw.2.1 s hs hk
  unfold vw vwA at ht
  by_cases hc : isC (slA A s) = true
  · rw [if_pos hc] at ht
    obtain ⟨q1, q2⟩ := List.mem_replicate.mp ht
    by_cases h1 : sK (slA A s) = 101
    · have h2 := (hsl.1 hc).2.2 h1
      have h3 : cpy (slA A s) = 0 := by
        unfold cpy
        rw [if_neg (by rw [h1]; decide), h2]
      exact absurd h3 q1
    · rw [q2]
      exact hw.2.2.1 s hs hc h1
  · rw [if_neg hc] at ht
    have hf : isC (slA A s) = false := by
      cases h : isC (slA A s)
      · rfl
      · exact absurd h hc
    unfold viw at ht
    exact (hw.1 _ (hsl.2.1 hf).1).2 t (List.mem_of_mem_drop (List.mem_of_mem_take ht))
theorem neg_s {x : Int32} (h1 : -1000 ≤ x.toInt) (h2 : x.toInt ≤ 1000) : (-x).toInt = -x.toInt := by
  rw [Int32.toInt_neg]
  simp [Int.bmod]
  omega
/-- what the test answers: here, ahead (the key or mark), their numbers, whether it falls -/
def beh (w here ahead n2 n1 : Int32) : Option Int32 :=
  if here = ahead then (if n2 ≤ n1 then some 0 else some 1)
  else if w = 75 ∨ w = 77 then (if ahead ≤ here then some 0 else some 1) else (if ahead ≤ here then some 1 else some 0)
theorem beh_lx {w : Int32} {x y : Tr} (hx : inB x) (hy : inB y) (h : lx (rkw w) y x) :
    beh w (if w = 107 ∨ w = 75 then x.2.1 else x.2.2) (if w = 107 ∨ w = 75 then y.2.1 else y.2.2) x.1 y.1 = some 1 := by
  unfold lx rkw at h
  unfold inB at hx hy
  have hp : -1000 ≤ (if w = 107 ∨ w = 75 then x.2.1 else x.2.2).toInt ∧ (if w = 107 ∨ w = 75 then x.2.1 else x.2.2).toInt ≤ 1000 := by
    by_cases g : w = 107 ∨ w = 75
    · rw [if_pos g]; omega
    · rw [if_neg g]; omega
  have hq : -1000 ≤ (if w = 107 ∨ w = 75 then y.2.1 else y.2.2).toInt ∧ (if w = 107 ∨ w = 75 then y.2.1 else y.2.2).toInt ≤ 1000 := by
    by_cases g : w = 107 ∨ w = 75
    · rw [if_pos g]; omega
    · rw [if_neg g]; omega
  generalize (if w = 107 ∨ w = 75 then x.2.1 else x.2.2) = p at h hp ⊢
  generalize (if w = 107 ∨ w = 75 then y.2.1 else y.2.2) = q at h hq ⊢
  unfold beh
  by_cases e : p = q
  · subst e
    rw [if_pos rfl, if_neg (fun z => by rw [Int32.le_iff_toInt_le] at z; omega)]
  · have e2 : ¬ p.toInt = q.toInt := fun z => e (Int32.toInt_inj.mp z)
    rw [if_neg e]
    by_cases g : w = 75 ∨ w = 77
    · rw [if_pos g, if_pos g, neg_s hp.1 hp.2, neg_s hq.1 hq.2] at h
      rw [if_pos g, if_neg (fun z => by rw [Int32.le_iff_toInt_le] at z; omega)]
    · rw [if_neg g, if_neg g] at h
      rw [if_neg g, if_pos (Int32.le_iff_toInt_le.mpr (by omega))]
theorem f_behind {T : GS} {o st i : Nat} {L : List Tr} {w : Int32} (h1 : gT T o = 1) (h2 : gR T o 0 = some st) (h : cSt T st L) (h0 : 0 < i) (hi : i < L.length) (h24 : L.length ≤ 24) :
    f_X0_isBehind T o (nI i) w = beh w (if w = 107 ∨ w = 75 then (L.getD i tz).2.1 else (L.getD i tz).2.2) (if w = 107 ∨ w = 75 then (L.getD (i - 1) tz).2.1 else (L.getD (i - 1) tz).2.2) (L.getD i tz).1 (L.getD (i - 1) tz).1 := by
  have k1 := f_keyIn h hi
  have k2 := f_keyIn h (show i - 1 < L.length by omega)
  have m1 := f_markIn h hi
  have m2 := f_markIn h (show i - 1 < L.length by omega)
  have p1 := f_numberIn h (show i - 1 < L.length by omega)
  have p2 := f_numberIn h hi
  have g4 : gT T st = 4 := h.1.1
  have em : nI i - 1 = nI (i - 1) := by
    obtain ⟨i, rfl⟩ : ∃ q, i = q + 1 := ⟨i - 1, by omega⟩
    rw [nI_pred]; rfl
  have e10 : ((1 : Int32) = 0) = False := eq_false (by decide)
  have e01 : ((0 : Int32) = 1) = False := eq_false (by decide)
  simp only [f_X0_isBehind, f_X0_isBehind_b12, f_X0_isBehind_b17, f_X0_isBehind_b41, f_X0_isBehind_b70, f_X0_isBehind_b118, f_X0_isBehind_b123, f_X0_isBehind_b139, gfR_at h1, h2, Option.bind_some, gtk_at g4, em, k1, k2, m1, m2, p1, p2, e10, e01, if_false, if_true, beh]
  by_cases a : w = 107
  · subst a; simp
  · by_cases b : w = 75
    · subst b; simp
    · by_cases c : w = 77
      · subst c; simp
      · simp [a, b, c]
