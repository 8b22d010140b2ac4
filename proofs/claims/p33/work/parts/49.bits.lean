/-! 49: bits -/
theorem kb_and (a b : Nat) : nI a &&& nI b = nI (a &&& b) := Int32.toBitVec_inj.mp (BitVec.ofNat_and (w := 32) (x := a) (y := b)).symm
theorem kb_or (a b : Nat) : nI a ||| nI b = nI (a ||| b) := Int32.toBitVec_inj.mp (BitVec.ofNat_or (w := 32) (x := a) (y := b)).symm
def sd (a b : Nat) : Nat := a &&& (b ^^^ 255)
theorem kb_dif : ∀ a, a < 256 → ∀ b, b < 256 → nI a &&& (nI b ^^^ (-1 : Int32)) = nI (sd a b) := by decide +kernel
theorem kb_h6 : ∀ a, a < 256 → ∀ c, c < 8 → (f_X6_has (nI a) (nI c) = if Nat.testBit a c then 1 else 0) := by decide +kernel
theorem kb_h7 : ∀ a, a < 256 → ∀ c, c < 8 → (f_X7_has (nI a) (nI c) = if Nat.testBit a c then 1 else 0) := by decide +kernel
theorem kb_h7' : ∀ a, a < 256 → ∀ c, c < 8 → ((nI a >>> (nI c &&& (31 : Int32))) &&& (1 : Int32) = if Nat.testBit a c then 1 else 0) := by decide +kernel
theorem kb_bt : ∀ c, c < 31 → (1 : Int32) <<< (nI c &&& 31) = nI (2 ^ c) := by decide +kernel
