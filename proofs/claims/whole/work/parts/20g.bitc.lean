/-! ===== phase 2: Long.bitCount ===== -/
def nnL (x : Int64) : Nat := x.toBitVec.toNat
theorem nn_lt {x : Int64} : nnL x < 18446744073709551616 := x.toBitVec.isLt
theorem nn_add {a b : Int64} : nnL (a + b) = (nnL a + nnL b) % 18446744073709551616 := by
  unfold nnL
  rw [Int64.toBitVec_add, BitVec.toNat_add]
theorem nn_sub {a b : Int64} : nnL (a - b) = (18446744073709551616 - nnL b + nnL a) % 18446744073709551616 := by
  unfold nnL
  rw [Int64.toBitVec_sub, BitVec.toNat_sub]
theorem nn_and {a b : Int64} : nnL (a &&& b) = nnL a &&& nnL b := by
  unfold nnL
  rw [Int64.toBitVec_and, BitVec.toNat_and]
theorem nn_sh {a : Int64} {u : UInt64} {k : Nat} (hk : u.toNat % 64 = k) : nnL ((a.toUInt64 >>> u).toInt64) = nnL a / 2 ^ k := by
  show (a.toUInt64 >>> u).toNat = a.toUInt64.toNat / 2 ^ k
  rw [UInt64.toNat_shiftRight, hk, Nat.shiftRight_eq_div_pow]
