/-! quotients of whole numbers are no NaN -/
section FPq
def okNF (n : Nat) : Prop := n < 2 ^ 32 ∧ n % 2 ^ 31 ≤ 2139095040
theorem ok_asF {s : Bool} {e t : Nat} (he : e ≤ 254) (ht : t < 8388608) : okNF (Jvm.FP.Core.assemble Jvm.FP.Core.b32 s e t) := by
  have h1 : Jvm.FP.Core.b32.exps = 256 := by decide
  have h2 : Jvm.FP.Core.b32.tails = 8388608 := by decide
  unfold okNF Jvm.FP.Core.assemble
  rw [h1, h2]
  cases s
  · simp only [Bool.toNat_false]; omega
  · simp only [Bool.toNat_true]; omega
theorem ok_infF {s : Bool} : okNF (Jvm.FP.Core.encode Jvm.FP.Core.b32 (.inf s)) := by
  have h1 : Jvm.FP.Core.b32.exps = 256 := by decide
  have h2 : Jvm.FP.Core.b32.tails = 8388608 := by decide
  unfold okNF Jvm.FP.Core.encode Jvm.FP.Core.assemble
  simp only [h1, h2]
  cases s
  · simp only [Bool.toNat_false]; omega
  · simp only [Bool.toNat_true]; omega
theorem ok_finF {s : Bool} {c : Nat} {q : Int} (hc : c < 2 ^ 24) (h1 : -149 ≤ q) (h2 : q ≤ 104) : okNF (Jvm.FP.Core.encode Jvm.FP.Core.b32 (.fin s c q)) := by
  have h3 : Jvm.FP.Core.b32.tails = 8388608 := by decide
  have h4 : Jvm.FP.Core.b32.qmin = -149 := by decide
  unfold Jvm.FP.Core.encode
  simp only [h3, h4]
  by_cases e : c < 8388608
  · rw [if_pos e]; exact ok_asF (by omega) e
  · rw [if_neg e]; exact ok_asF (by omega) (by omega)
theorem ok_boundF {s : Bool} {c : Nat} {q : Int} (hc : c < 2 ^ 24) (h1 : -149 ≤ q) : okNF (Jvm.FP.Core.encode Jvm.FP.Core.b32 (Jvm.FP.Core.bound Jvm.FP.Core.b32 s c q)) := by
  have h4 : Jvm.FP.Core.b32.qmax = 104 := by decide
  unfold Jvm.FP.Core.bound
  rw [h4]
  by_cases e : q ≤ 104
  · rw [if_pos e]; exact ok_finF hc h1 e
  · rw [if_neg e]; exact ok_infF
theorem ok_ratioF {s : Bool} {a b : Nat} {e : Int} : okNF (Jvm.FP.Core.encode Jvm.FP.Core.b32 (Jvm.FP.Core.roundRatio Jvm.FP.Core.b32 s a b e)) := by
  have h4 : Jvm.FP.Core.b32.qmin = -149 := by decide
  have h5 : Jvm.FP.Core.b32.p = 24 := by decide
  have h3 : Jvm.FP.Core.b32.tails = 8388608 := by decide
  unfold Jvm.FP.Core.roundRatio
  by_cases z : a = 0
  · rw [if_pos z, h4]; exact ok_finF (by omega) (by omega) (by omega)
  · rw [if_neg z]
    unfold Jvm.FP.Core.roundAt
    have hq : -149 ≤ Jvm.FP.Core.quantum Jvm.FP.Core.b32 a b e := by unfold Jvm.FP.Core.quantum; rw [h4]; exact Int.le_max_left ..
    generalize Jvm.FP.Core.quantum Jvm.FP.Core.b32 a b e = q at *
    generalize Jvm.FP.Core.nearest _ _ = c
    unfold Jvm.FP.Core.settle
    rw [h5]
    by_cases hc : c < 2 ^ 24
    · rw [if_pos hc]; exact ok_boundF hc hq
    · rw [if_neg hc, h3]; exact ok_boundF (by omega) (by omega)
theorem nn_decF {n : Nat} (h : okNF n) : Jvm.FP.Core.decode Jvm.FP.Core.b32 n ≠ .nan := by
  obtain ⟨h1, h2⟩ := h
  have e1 : Jvm.FP.Core.b32.exps = 256 := by decide
  have e2 : Jvm.FP.Core.b32.tails = 8388608 := by decide
  unfold Jvm.FP.Core.decode Jvm.FP.Core.fieldE Jvm.FP.Core.fieldT Jvm.FP.Core.fieldS
  rw [e1, e2]
  by_cases c : n / 8388608 % 256 = 256 - 1
  · rw [if_pos c, if_pos (by omega)]; exact fun z => by cases z
  · rw [if_neg c]
    by_cases c2 : n / 8388608 % 256 = 0
    · rw [if_pos c2]; exact fun z => by cases z
    · rw [if_neg c2]; exact fun z => by cases z
theorem ok_toF {n : Nat} (h : okNF n) : (UInt32.ofNat n).toNat = n := by
  rw [UInt32.toNat_ofNat']
  exact Nat.mod_eq_of_lt h.1
theorem gn_toF {n : Nat} (h : okNF n) : gn32 (UInt32.ofNat n) = true := by
  unfold gn32
  refine decide_eq_true ?_
  rw [UInt32.le_iff_toNat_le, UInt32.toNat_and, ok_toF h]
  have e1 : (0x7fffffff : UInt32).toNat = 2 ^ 31 - 1 := by decide
  have e2 : (0x7f800000 : UInt32).toNat = 2139095040 := by decide
  rw [e1, e2, Nat.and_two_pow_sub_one_eq_mod]
  exact h.2
theorem ok_iF (a : Int32) : okNF (Jvm.FP.Core.fromInt Jvm.FP.Core.b32 a.toInt) := by
  unfold Jvm.FP.Core.fromInt Jvm.FP.Core.round Jvm.FP.Core.ofInt
  exact ok_ratioF
def finF (n : Nat) : Bool := match Jvm.FP.Core.decode Jvm.FP.Core.b32 n with
  | .fin _ d _ => d != 0
  | _ => false
theorem fin_cF : ∀ b, b < 24 → finF (FP.i2f (Int32.ofNat (b + 1))).toNat = true := by decide
/-- the Jvm.FP.Core.quotient is no NaN -/
theorem gn_divF (a : Int32) {b : Nat} (h1 : 1 ≤ b) (h2 : b ≤ 24) : gn32 (FP.fdiv (FP.i2f a) (FP.i2f (nI b))) = true := by
  have hb := fin_cF (b - 1) (by omega)
  have eb : b - 1 + 1 = b := by omega
  rw [eb] at hb
  have hb : finF (FP.i2f (nI b)).toNat = true := hb
  refine gn_toF ?_
  unfold Jvm.FP.Core.div
  have ha : Jvm.FP.Core.decode Jvm.FP.Core.b32 (FP.i2f a).toNat ≠ .nan := by
    have : (FP.i2f a).toNat = Jvm.FP.Core.fromInt Jvm.FP.Core.b32 a.toInt := ok_toF (ok_iF a)
    rw [this]
    exact nn_decF (ok_iF a)
  unfold finF at hb
  cases hx : Jvm.FP.Core.decode Jvm.FP.Core.b32 (FP.i2f a).toNat with
  | nan => exact absurd hx ha
  | inf s =>
    cases hy : Jvm.FP.Core.decode Jvm.FP.Core.b32 (FP.i2f (nI b)).toNat with
    | nan => rw [hy] at hb; cases hb
    | inf t => rw [hy] at hb; cases hb
    | fin t d r => exact ok_infF
  | fin s c q =>
    cases hy : Jvm.FP.Core.decode Jvm.FP.Core.b32 (FP.i2f (nI b)).toNat with
    | nan => rw [hy] at hb; cases hb
    | inf t => rw [hy] at hb; cases hb
    | fin t d r =>
      rw [hy] at hb
      have hd : d ≠ 0 := bne_iff_ne.mp hb
      unfold Jvm.FP.Core.quotient
      simp only
      rw [if_neg hd]
      exact ok_ratioF
def okND (n : Nat) : Prop := n < 2 ^ 64 ∧ n % 2 ^ 63 ≤ 9218868437227405312
theorem ok_asD {s : Bool} {e t : Nat} (he : e ≤ 2046) (ht : t < 4503599627370496) : okND (Jvm.FP.Core.assemble Jvm.FP.Core.b64 s e t) := by
  have h1 : Jvm.FP.Core.b64.exps = 2048 := by decide
  have h2 : Jvm.FP.Core.b64.tails = 4503599627370496 := by decide
  unfold okND Jvm.FP.Core.assemble
  rw [h1, h2]
  cases s
  · simp only [Bool.toNat_false]; omega
  · simp only [Bool.toNat_true]; omega
theorem ok_infD {s : Bool} : okND (Jvm.FP.Core.encode Jvm.FP.Core.b64 (.inf s)) := by
  have h1 : Jvm.FP.Core.b64.exps = 2048 := by decide
  have h2 : Jvm.FP.Core.b64.tails = 4503599627370496 := by decide
  unfold okND Jvm.FP.Core.encode Jvm.FP.Core.assemble
  simp only [h1, h2]
  cases s
  · simp only [Bool.toNat_false]; omega
  · simp only [Bool.toNat_true]; omega
theorem ok_finD {s : Bool} {c : Nat} {q : Int} (hc : c < 2 ^ 53) (h1 : -1074 ≤ q) (h2 : q ≤ 971) : okND (Jvm.FP.Core.encode Jvm.FP.Core.b64 (.fin s c q)) := by
  have h3 : Jvm.FP.Core.b64.tails = 4503599627370496 := by decide
  have h4 : Jvm.FP.Core.b64.qmin = -1074 := by decide
  unfold Jvm.FP.Core.encode
  simp only [h3, h4]
  by_cases e : c < 4503599627370496
  · rw [if_pos e]; exact ok_asD (by omega) e
  · rw [if_neg e]; exact ok_asD (by omega) (by omega)
theorem ok_boundD {s : Bool} {c : Nat} {q : Int} (hc : c < 2 ^ 53) (h1 : -1074 ≤ q) : okND (Jvm.FP.Core.encode Jvm.FP.Core.b64 (Jvm.FP.Core.bound Jvm.FP.Core.b64 s c q)) := by
  have h4 : Jvm.FP.Core.b64.qmax = 971 := by decide
  unfold Jvm.FP.Core.bound
  rw [h4]
  by_cases e : q ≤ 971
  · rw [if_pos e]; exact ok_finD hc h1 e
  · rw [if_neg e]; exact ok_infD
theorem ok_ratioD {s : Bool} {a b : Nat} {e : Int} : okND (Jvm.FP.Core.encode Jvm.FP.Core.b64 (Jvm.FP.Core.roundRatio Jvm.FP.Core.b64 s a b e)) := by
  have h4 : Jvm.FP.Core.b64.qmin = -1074 := by decide
  have h5 : Jvm.FP.Core.b64.p = 53 := by decide
  have h3 : Jvm.FP.Core.b64.tails = 4503599627370496 := by decide
  unfold Jvm.FP.Core.roundRatio
  by_cases z : a = 0
  · rw [if_pos z, h4]; exact ok_finD (by omega) (by omega) (by omega)
  · rw [if_neg z]
    unfold Jvm.FP.Core.roundAt
    have hq : -1074 ≤ Jvm.FP.Core.quantum Jvm.FP.Core.b64 a b e := by unfold Jvm.FP.Core.quantum; rw [h4]; exact Int.le_max_left ..
    generalize Jvm.FP.Core.quantum Jvm.FP.Core.b64 a b e = q at *
    generalize Jvm.FP.Core.nearest _ _ = c
    unfold Jvm.FP.Core.settle
    rw [h5]
    by_cases hc : c < 2 ^ 53
    · rw [if_pos hc]; exact ok_boundD hc hq
    · rw [if_neg hc, h3]; exact ok_boundD (by omega) (by omega)
theorem nn_decD {n : Nat} (h : okND n) : Jvm.FP.Core.decode Jvm.FP.Core.b64 n ≠ .nan := by
  obtain ⟨h1, h2⟩ := h
  have e1 : Jvm.FP.Core.b64.exps = 2048 := by decide
  have e2 : Jvm.FP.Core.b64.tails = 4503599627370496 := by decide
  unfold Jvm.FP.Core.decode Jvm.FP.Core.fieldE Jvm.FP.Core.fieldT Jvm.FP.Core.fieldS
  rw [e1, e2]
  by_cases c : n / 4503599627370496 % 2048 = 2048 - 1
  · rw [if_pos c, if_pos (by omega)]; exact fun z => by cases z
  · rw [if_neg c]
    by_cases c2 : n / 4503599627370496 % 2048 = 0
    · rw [if_pos c2]; exact fun z => by cases z
    · rw [if_neg c2]; exact fun z => by cases z
theorem ok_toD {n : Nat} (h : okND n) : (UInt64.ofNat n).toNat = n := by
  rw [UInt64.toNat_ofNat']
  exact Nat.mod_eq_of_lt h.1
theorem gn_toD {n : Nat} (h : okND n) : gn64 (UInt64.ofNat n) = true := by
  unfold gn64
  refine decide_eq_true ?_
  rw [UInt64.le_iff_toNat_le, UInt64.toNat_and, ok_toD h]
  have e1 : (0x7fffffffffffffff : UInt64).toNat = 2 ^ 63 - 1 := by decide
  have e2 : (0x7ff0000000000000 : UInt64).toNat = 9218868437227405312 := by decide
  rw [e1, e2, Nat.and_two_pow_sub_one_eq_mod]
  exact h.2
theorem ok_iD (a : Int32) : okND (Jvm.FP.Core.fromInt Jvm.FP.Core.b64 a.toInt) := by
  unfold Jvm.FP.Core.fromInt Jvm.FP.Core.round Jvm.FP.Core.ofInt
  exact ok_ratioD
def finD (n : Nat) : Bool := match Jvm.FP.Core.decode Jvm.FP.Core.b64 n with
  | .fin _ d _ => d != 0
  | _ => false
theorem fin_cD : ∀ b, b < 24 → finD (FP.i2d (Int32.ofNat (b + 1))).toNat = true := by decide
/-- the Jvm.FP.Core.quotient is no NaN -/
theorem gn_divD (a : Int32) {b : Nat} (h1 : 1 ≤ b) (h2 : b ≤ 24) : gn64 (FP.ddiv (FP.i2d a) (FP.i2d (nI b))) = true := by
  have hb := fin_cD (b - 1) (by omega)
  have eb : b - 1 + 1 = b := by omega
  rw [eb] at hb
  have hb : finD (FP.i2d (nI b)).toNat = true := hb
  refine gn_toD ?_
  unfold Jvm.FP.Core.div
  have ha : Jvm.FP.Core.decode Jvm.FP.Core.b64 (FP.i2d a).toNat ≠ .nan := by
    have : (FP.i2d a).toNat = Jvm.FP.Core.fromInt Jvm.FP.Core.b64 a.toInt := ok_toD (ok_iD a)
    rw [this]
    exact nn_decD (ok_iD a)
  unfold finD at hb
  cases hx : Jvm.FP.Core.decode Jvm.FP.Core.b64 (FP.i2d a).toNat with
  | nan => exact absurd hx ha
  | inf s =>
    cases hy : Jvm.FP.Core.decode Jvm.FP.Core.b64 (FP.i2d (nI b)).toNat with
    | nan => rw [hy] at hb; cases hb
    | inf t => rw [hy] at hb; cases hb
    | fin t d r => exact ok_infD
  | fin s c q =>
    cases hy : Jvm.FP.Core.decode Jvm.FP.Core.b64 (FP.i2d (nI b)).toNat with
    | nan => rw [hy] at hb; cases hb
    | inf t => rw [hy] at hb; cases hb
    | fin t d r =>
      rw [hy] at hb
      have hd : d ≠ 0 := bne_iff_ne.mp hb
      unfold Jvm.FP.Core.quotient
      simp only
      rw [if_neg hd]
      exact ok_ratioD
end FPq
