/-! 49: bits -/
theorem kb_and (a b : Nat) : nI a &&& nI b = nI (a &&& b) := Int32.toBitVec_inj.mp (BitVec.ofNat_and (w := 32) (x := a) (y := b)).symm
theorem kb_or (a b : Nat) : nI a ||| nI b = nI (a ||| b) := Int32.toBitVec_inj.mp (BitVec.ofNat_or (w := 32) (x := a) (y := b)).symm
def sd (a b : Nat) : Nat := a &&& (b ^^^ 255)
theorem kb_xor (a b : Nat) : nI a ^^^ nI b = nI (a ^^^ b) := Int32.toBitVec_inj.mp (BitVec.ofNat_xor (w := 32) (x := a) (y := b)).symm
theorem kb_255 : ∀ c, c < 8 → Nat.testBit 255 c = true := by decide
theorem kb_dif (a : Nat) (ha : a < 256) (b : Nat) (_ : b < 256) : nI a &&& (nI b ^^^ (-1 : Int32)) = nI (sd a b) := by
  have e : (-1 : Int32) = nI (2 ^ 32 - 1) := by decide
  rw [e, kb_xor, kb_and]
  refine congrArg nI (Nat.eq_of_testBit_eq fun i => ?_)
  unfold sd
  rw [Nat.testBit_and, Nat.testBit_and, Nat.testBit_xor, Nat.testBit_xor, Nat.testBit_two_pow_sub_one]
  by_cases hi : i < 8
  · rw [decide_eq_true (show i < 32 by omega), kb_255 i hi]
  · have h : a.testBit i = false := Nat.testBit_lt_two_pow (Nat.lt_of_lt_of_le (show a < 2 ^ 8 from ha) (Nat.pow_le_pow_right (by omega) (by omega)))
    rw [h, Bool.false_and, Bool.false_and]
theorem kb_h6 : ∀ a, a < 256 → ∀ c, c < 8 → (f_X6_has (nI a) (nI c) = if Nat.testBit a c then 1 else 0) := by decide +kernel
theorem kb_h7 : ∀ a, a < 256 → ∀ c, c < 8 → (f_X7_has (nI a) (nI c) = if Nat.testBit a c then 1 else 0) := by decide +kernel
theorem kb_h7' : ∀ a, a < 256 → ∀ c, c < 8 → ((nI a >>> (nI c &&& (31 : Int32))) &&& (1 : Int32) = if Nat.testBit a c then 1 else 0) := by decide +kernel
theorem kb_bt : ∀ c, c < 31 → (1 : Int32) <<< (nI c &&& 31) = nI (2 ^ c) := by decide +kernel
