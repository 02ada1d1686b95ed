def f_J0_isLatin1_aae02 (S : GS) (a0 : Nat) : Option (Int32) := (if (1 : Int32) = 0 then some 0 else gck (decide (a0 < 8)) ((if (0 : Int32) = 0 then some 1 else some 0)))
def f_J0_coder_7d493 (S : GS) (a0 : Nat) : Option (Int32) := (if (1 : Int32) = 0 then some 1 else gck (decide (a0 < 8)) (some 0))
def f_J0_length_8abf5 (S : GS) (a0 : Nat) : Option (Int32) := gck (decide (a0 < 8)) (gck (decide (a0 < 8)) (gck (decide (a0 < 8)) ((f_J0_coder_7d493 S a0).bind fun v5 => some ((gLen a0) >>> (v5 &&& 31)))))
def f_J1_canEncode_9a6ad (S : GS) (x0 : Int32) : Option (Int32) := (if x0 < 0 then some 0 else (if 255 < x0 then some 0 else some 1))
def f_J1_indexOfChar_4cfef_L7  (S : GS) : Nat → Nat → Int32 → Int32 → Int32 → Option (Int32)
  | 0, _, _, _, _ => none
  | n + 1, x0, x3, x4, x5 => (if x3 ≤ x5 then some (-1) else gck (decide (x0 < 8 ∧ 0 ≤ (x5).toInt ∧ (x5).toInt < (gLn.getD x0 0 : Int))) ((if (gByt x0 x5) = x4 then some x5 else (f_J1_indexOfChar_4cfef_L7 S n) x0 x3 x4 (x5 + 1))))
def f_J1_indexOfChar_4cfef (S : GS) (x0 : Nat) (x1 : Int32) (x2 : Int32) (x3 : Int32) : Option (Int32) := f_J1_indexOfChar_4cfef_L7 S gN x0 x3 ((x1).toInt8.toInt32) x2
def f_J1_indexOf_4cfef (S : GS) (x0 : Nat) (x1 : Int32) (x2 : Int32) (x3 : Int32) : Option (Int32) := (f_J1_canEncode_9a6ad S x1).bind fun v2 => (if v2 = 0 then some (-1) else gck (decide (x0 < 8)) ((if (gmax x2 0) < (gmin x3 (gLen x0)) then (f_J1_indexOfChar_4cfef S x0 x1 (gmax x2 0) (gmin x3 (gLen x0))).bind fun v7 => some v7 else some (-1))))
def f_J0_indexOf_7cf53 (S : GS) (a0 : Nat) (x1 : Int32) (x2 : Int32) : Option (Int32) := gck (decide (a0 < 8)) ((f_J0_isLatin1_aae02 S a0).bind fun v3 => (if v3 = 0 then gck (decide (a0 < 8)) (gck (decide (a0 < 8)) ((f_J0_length_8abf5 S a0).bind fun v8 => none)) else gck (decide (a0 < 8)) (gck (decide (a0 < 8)) ((f_J0_length_8abf5 S a0).bind fun v12 => (f_J1_indexOf_4cfef S a0 x1 x2 v12).bind fun v14 => some v14))))
def f_J0_indexOf_0f7a4 (S : GS) (a0 : Nat) (x1 : Int32) : Option (Int32) := gck (decide (a0 < 8)) ((f_J0_indexOf_7cf53 S a0 x1 0).bind fun v3 => some v3)
