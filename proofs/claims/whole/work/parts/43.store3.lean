/-! a stretch of a row, and another one in its place -/
def viw (L : List Tr) (f z : Nat) : List Tr := (L.drop f).take z
def spl (L : List Tr) (f z : Nat) (M : List Tr) : List Tr := L.take f ++ M ++ L.drop (f + z)
theorem viw_len {L : List Tr} {f z : Nat} (h : f + z ≤ L.length) : (viw L f z).length = z := by simp [viw]; omega
theorem gd_viw {L : List Tr} {f z k : Nat} (h : k < z) : (viw L f z).getD k tz = L.getD (f + k) tz := by unfold viw; rw [gd_take h, gd_drop]
theorem spl_len {L M : List Tr} {f z : Nat} (h : f + z ≤ L.length) : (spl L f z M).length = L.length - z + M.length := by simp [spl]; omega
theorem gd_spl {L M : List Tr} {f z k : Nat} (h : f + z ≤ L.length) : (spl L f z M).getD k tz = if k < f then L.getD k tz else if k < f + M.length then M.getD (k - f) tz else L.getD (k - M.length + z) tz := by
  have e1 : (L.take f).length = f := by rw [List.length_take]; omega
  unfold spl
  rw [List.append_assoc, gd_app, e1]
  by_cases a : k < f
  · rw [if_pos a, if_pos a, gd_take a]
  · rw [if_neg a, if_neg a, gd_app]
    by_cases b : k - f < M.length
    · rw [if_pos b, if_pos (by omega)]
    · rw [if_neg b, if_neg (by omega), gd_drop]
      exact congrArg (fun q => L.getD q tz) (by omega)
theorem spl_viw {L M : List Tr} {f z : Nat} (h : f + z ≤ L.length) : viw (spl L f z M) f M.length = M := by
  have e : f + M.length ≤ (spl L f z M).length := by rw [spl_len h]; omega
  refine tl_ext (viw_len e) fun k hk => ?_
  rw [viw_len e] at hk
  rw [gd_viw hk, gd_spl h, if_neg (by omega), if_pos (by omega)]
  exact congrArg (fun q => M.getD q tz) (by omega)
theorem spl_all {L M : List Tr} : spl L 0 L.length M = M := by simp [spl]
theorem viw_all {L : List Tr} : viw L 0 L.length = L := by simp [viw]
/-- Math.floorMod -/
def fmd (x0 x1 : Int32) : Option Int32 := if x1 = 0 then none else if 0 ≤ (x0 ^^^ x1) then some (x0 - x0 / x1 * x1) else if (x0 - x0 / x1 * x1) = 0 then some (x0 - x0 / x1 * x1) else some ((x0 - x0 / x1 * x1) + x1)
theorem f_fmd (S : GS) (x0 x1 : Int32) : f_J9_floorMod_7cf53 S x0 x1 = fmd x0 x1 := by
  unfold f_J9_floorMod_7cf53 fmd f_J9_floorMod_7cf53_b18 gck
  by_cases h : x1 = 0
  · simp [h]
  · simp [h]
set_option maxRecDepth 100000 in
theorem fmd_all : ∀ b, b < 101 → ∀ z, z < 24 → fmd (nI b) (nI (z + 1)) = some (nI (b % (z + 1))) ∧ fmd (-(nI b)) (nI (z + 1)) = some (nI (((z + 1) - b % (z + 1)) % (z + 1))) := by decide +kernel
/-- as many places as a rotation by x goes on, of z -/
def rot (x : Int32) (z : Nat) : Nat := (x.toInt % (z : Int)).toNat
theorem rot_lt {x : Int32} {z : Nat} (h : 0 < z) : rot x z < z := by
  have h1 := Int.emod_nonneg x.toInt (show (z : Int) ≠ 0 by omega)
  have h2 := Int.emod_lt_of_pos x.toInt (show (0 : Int) < z by omega)
  unfold rot
  omega
theorem i32_small {x : Int32} (h1 : ¬ x < -100) (h2 : ¬ 100 < x) : ∃ b, b < 101 ∧ (x = nI b ∨ x = -(nI b)) := by
  rw [Int32.lt_iff_toInt_lt] at h1 h2
  have e1 : (-100 : Int32).toInt = -100 := by decide
  have e2 : (100 : Int32).toInt = 100 := by decide
  rw [e1] at h1
  rw [e2] at h2
  rcases Int.le_total 0 x.toInt with h | h
  · refine ⟨x.toInt.toNat, by omega, Or.inl (Int32.toInt_inj.mp ?_)⟩
    rw [nI_toInt (by omega)]; omega
  · refine ⟨(-x.toInt).toNat, by omega, Or.inr (Int32.toInt_inj.mp ?_)⟩
    rw [Int32.toInt_neg, nI_toInt (by omega)]
    have : (((-x.toInt).toNat : Nat) : Int) = -x.toInt := by omega
    rw [this]
    simp [Int.bmod]
    omega
theorem f_floor (S : GS) {x : Int32} {z : Nat} (h1 : ¬ x < -100) (h2 : ¬ 100 < x) (hz : 0 < z) (h24 : z ≤ 24) : f_J9_floorMod_7cf53 S x (nI z) = some (nI (rot x z)) := by
  obtain ⟨b, hb, h⟩ := i32_small h1 h2
  obtain ⟨z, rfl⟩ : ∃ k, z = k + 1 := ⟨z - 1, by omega⟩
  obtain ⟨g1, g2⟩ := fmd_all b hb z (by omega)
  rw [f_fmd]
  rcases h with rfl | rfl
  · rw [g1]
    unfold rot
    rw [nI_toInt (by omega)]
    exact congrArg (fun q => some (nI q)) (by omega)
  · rw [g2]
    unfold rot
    have e : (-(nI b)).toInt = -(b : Int) := by
      rw [Int32.toInt_neg, nI_toInt (by omega)]
      simp [Int.bmod]
      omega
    rw [e]
    refine congrArg (fun q => some (nI q)) ?_
    by_cases q : b % (z + 1) = 0
    · rw [q]
      have : (-(b : Int)) % ((z + 1 : Nat) : Int) = 0 := Int.emod_eq_zero_of_dvd (Int.dvd_neg.mpr (Int.natCast_dvd_natCast.mpr (Nat.dvd_of_mod_eq_zero q)))
      rw [this]
      simp
    · have h3 : b % (z + 1) < z + 1 := Nat.mod_lt _ (by omega)
      rw [Nat.mod_eq_of_lt (by omega)]
      have : (-(b : Int)) % ((z + 1 : Nat) : Int) = ((z + 1 - b % (z + 1) : Nat) : Int) := by
        have h5 : (b : Int) = ((z + 1 : Nat) : Int) * ((b / (z + 1) : Nat) : Int) + ((b % (z + 1) : Nat) : Int) := by exact_mod_cast (Nat.div_add_mod b (z + 1)).symm
        rw [show -(b : Int) = ((z + 1 - b % (z + 1) : Nat) : Int) + ((z + 1 : Nat) : Int) * (-((b / (z + 1) : Nat) : Int) - 1) by
          have h6 : ((z + 1 - b % (z + 1) : Nat) : Int) = ((z + 1 : Nat) : Int) - ((b % (z + 1) : Nat) : Int) := by omega
          rw [h6, Int.mul_sub, Int.mul_neg]; omega]
        rw [Int.add_mul_emod_self_left]
        exact Int.emod_eq_of_lt (by omega) (by omega)
      rw [this]
      omega
/-- the things moved on by p places, the last ones to the front -/
def roL (V : List Tr) (p : Nat) : List Tr := V.drop (V.length - p) ++ V.take (V.length - p)
theorem roL_len {V : List Tr} {p : Nat} (h : p ≤ V.length) : (roL V p).length = V.length := by simp [roL]
theorem gd_roL {V : List Tr} {p k : Nat} (h : p ≤ V.length) (hk : k < V.length) : (roL V p).getD k tz = if k < p then V.getD (V.length - p + k) tz else V.getD (k - p) tz := by
  unfold roL
  rw [gd_app, List.length_drop]
  by_cases a : k < p
  · rw [if_pos (by omega), if_pos a, gd_drop]
  · rw [if_neg (by omega), if_neg a, gd_take (by omega)]
    refine congrArg (fun q => V.getD q tz) ?_
    omega
theorem rvS_spl {L : List Tr} {f z : Nat} (h : f + z ≤ L.length) : rvS L f z = spl L f z (viw L f z).reverse := rfl
theorem rv3 {L : List Tr} {f z p : Nat} (h : f + z ≤ L.length) (hp : p ≤ z) : rvS (rvS (rvS L f z) f p) (f + p) (z - p) = spl L f z (roL (viw L f z) p) := by
  have hV := viw_len h
  have l1 := rvS_len h
  have l2 := rvS_len (L := rvS L f z) (f := f) (z := p) (by omega)
  have hR : (roL (viw L f z) p).length = z := by rw [roL_len (by omega)]; exact hV
  refine tl_ext ?_ fun k hk => ?_
  · rw [rvS_len (by omega), l2, l1, spl_len h, hR]; omega
  · have g1 := fun k => gd_rvS (L := L) (f := f) (z := z) (k := k) h
    have g2 := fun k => gd_rvS (L := rvS L f z) (f := f) (z := p) (k := k) (by omega)
    rw [gd_rvS (by omega), gd_spl h, hR]
    simp only [g2, g1]
    by_cases a : k < f
    · rw [if_neg (by omega), if_neg (by omega), if_neg (by omega), if_pos a]
    · rw [if_neg a]
      by_cases b : k < f + z
      · rw [if_pos b, gd_roL (by omega) (by omega), hV]
        by_cases c : k - f < p
        · rw [if_neg (by omega), if_pos (by omega), if_pos (by omega), if_pos c, gd_viw (by omega)]
          exact congrArg (fun q => L.getD q tz) (by omega)
        · rw [if_pos (by omega), if_neg (by omega), if_pos (by omega), if_neg c, gd_viw (by omega)]
          exact congrArg (fun q => L.getD q tz) (by omega)
      · rw [if_neg (by omega), if_neg (by omega), if_neg (by omega), if_neg b]
        exact congrArg (fun q => L.getD q tz) (by omega)
theorem f_round {S : GS} {st f z : Nat} {L : List Tr} {x : Int32} (h : cSt S st L) (hz : f + z ≤ L.length) (h1 : ¬ x < -100) (h2 : ¬ 100 < x) : ∃ S', f_X3_moveRound S st (nI f) (nI z) x = some S' ∧ cSt S' st (spl L f z (roL (viw L f z) (rot x z))) ∧ cFr st S S' := by
  have g3 := h.2.2.1
  by_cases q : z = 0
  · subst q
    refine ⟨S, ?_, ?_, cFr.rf⟩
    · have e : ((0 : Int32) < nI 0) = False := by decide
      simp only [f_X3_moveRound, e, if_false]
    · have : spl L f 0 (roL (viw L f 0) (rot x 0)) = L := by simp [spl, roL, viw]
      rw [this]
      exact h
  · have hp := rot_lt (x := x) (z := z) (by omega)
    obtain ⟨S1, a1, a2, a3⟩ := f_rev h hz
    have l1 := rvS_len hz
    obtain ⟨S2, b1, b2, b3⟩ := f_rev (f := f) (z := rot x z) a2 (by omega)
    have l2 := rvS_len (L := rvS L f z) (f := f) (z := rot x z) (by omega)
    obtain ⟨S3, c1, c2, c3⟩ := f_rev (f := f + rot x z) (z := z - rot x z) b2 (by omega)
    rw [rv3 hz (by omega)] at c2
    refine ⟨S3, ?_, c2, (a3.tr b3).tr c3⟩
    have e : ((0 : Int32) < nI z) = True := eq_true (by rw [n_0]; exact nI_lt (by omega) (by omega))
    unfold f_X3_moveRound
    simp only [e, if_true]
    rw [f_floor S h1 h2 (by omega) (by omega)]
    simp only [Option.bind_some, h.1.1, beq_self_eq_true, gck_t, a1, a2.1.1, b1, b2.1.1, nI_add]
    rw [pk_sub (by omega), c1]
    rfl
