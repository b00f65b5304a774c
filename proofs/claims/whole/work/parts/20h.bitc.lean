/-! ===== phase 2: Long.bitCount, all of it ===== -/
theorem k_mask : nnL 6148914691236517205 = mkB 85 8 ∧ nnL 3689348814741910323 = mkB 51 8 ∧ nnL 1085102592571150095 = mkB 15 8 ∧ mkB 51 8 = 3689348814741910323 := by decide +kernel
theorem k_shs : ((1 : Int32).toInt64.toUInt64 &&& Int64.toUInt64 63).toNat % 64 = 1 ∧ ((2 : Int32).toInt64.toUInt64 &&& Int64.toUInt64 63).toNat % 64 = 2 ∧ ((4 : Int32).toInt64.toUInt64 &&& Int64.toUInt64 63).toNat % 64 = 4 ∧ ((8 : Int32).toInt64.toUInt64 &&& Int64.toUInt64 63).toNat % 64 = 8 ∧ ((16 : Int32).toInt64.toUInt64 &&& Int64.toUInt64 63).toNat % 64 = 16 ∧ ((32 : Int32).toInt64.toUInt64 &&& Int64.toUInt64 63).toNat % 64 = 32 := by decide +kernel
theorem k_pws : (2 : Nat) ^ 1 = 2 ∧ (2 : Nat) ^ 2 = 4 ∧ (2 : Nat) ^ 4 = 16 ∧ (2 : Nat) ^ 8 = 256 ∧ (2 : Nat) ^ 16 = 65536 ∧ (2 : Nat) ^ 32 = 4294967296 ∧ (256 : Nat) ^ 8 = 18446744073709551616 := by decide +kernel
theorem end127 {x : Int64} : (x.toInt32 &&& 127) = iN (nnL x % 128) := by
  apply Int32.toBitVec_inj.mp
  apply BitVec.eq_of_toNat_eq
  rw [Int32.toBitVec_and, BitVec.toNat_and]
  show (x.toBitVec.signExtend 32).toNat &&& 127 = (BitVec.ofNat 32 (nnL x % 128)).toNat
  rw [BitVec.signExtend_eq_setWidth_of_le _ (by omega), BitVec.toNat_setWidth, BitVec.toNat_ofNat]
  have e := Nat.and_two_pow_sub_one_eq_mod (x.toBitVec.toNat % 2 ^ 32) 7
  rw [show (2 : Nat) ^ 7 - 1 = 127 from rfl, show (2 : Nat) ^ 7 = 128 from rfl] at e
  rw [e]
  unfold nnL
  rw [k_pws.2.2.2.2.2.1]
  omega
theorem bitC {N : Nat} {x : Int64} {S : PS} : fJ13_bitCount_95d88 N x S = some (iN (sumN (cB (nnL x)) 64), S) := by
  have h0 : nnL x < 18446744073709551616 := nn_lt
  unfold fJ13_bitCount_95d88
  simp only [lt_b]
  generalize e1 : x - (((x.toUInt64 >>> ((1 : Int32).toInt64.toUInt64 &&& Int64.toUInt64 63)).toInt64) &&& 6148914691236517205) = x1
  have n1 : nnL x1 = byS g1B 8 (nnL x) := by
    rw [← e1, nn_sub, nn_and, nn_sh k_shs.1, k_mask.1, k_pws.1]
    have a : nnL x / 2 &&& mkB 85 8 ≤ nnL x / 2 := Nat.and_le_left
    have b := by_1 (k := 8) (x := nnL x) (by rw [k_pws.2.2.2.2.2.2]; exact h0)
    generalize nnL x / 2 &&& mkB 85 8 = y at *
    rw [← b]
    omega
  generalize e2 : (x1 &&& 3689348814741910323) + (((x1.toUInt64 >>> ((2 : Int32).toInt64.toUInt64 &&& Int64.toUInt64 63)).toInt64) &&& 3689348814741910323) = x2
  have n2 : nnL x2 = byS g2B 8 (nnL x) ∧ nnL x2 ≤ 7378697629483820646 := by
    rw [← e2, nn_add, nn_and, nn_and, nn_sh k_shs.2.1, k_mask.2.1, k_pws.2.1, n1]
    have a : byS g1B 8 (nnL x) &&& mkB 51 8 ≤ mkB 51 8 := Nat.and_le_right
    have a' : byS g1B 8 (nnL x) / 4 &&& mkB 51 8 ≤ mkB 51 8 := Nat.and_le_right
    have b := by_2 (k := 8) (x := nnL x)
    have k := k_mask.2.2.2
    rw [b]
    rw [← b]
    generalize byS g1B 8 (nnL x) &&& mkB 51 8 = y at *
    generalize byS g1B 8 (nnL x) / 4 &&& mkB 51 8 = z at *
    generalize mkB 51 8 = w at *
    constructor <;> omega
  generalize e3 : (x2 + ((x2.toUInt64 >>> ((4 : Int32).toInt64.toUInt64 &&& Int64.toUInt64 63)).toInt64)) &&& 1085102592571150095 = x3
  have n3 : nnL x3 = byS g3B 8 (nnL x) := by
    rw [← e3, nn_and, nn_add, nn_sh k_shs.2.2.1, k_mask.2.2.1, k_pws.2.2.1]
    have b := by_3 8 (nnL x)
    rw [← n2.1] at b
    rw [Nat.mod_eq_of_lt (by have := n2.2; omega)]
    exact b
  have h4 := by_4 n3
  generalize e4 : x3 + ((x3.toUInt64 >>> ((8 : Int32).toInt64.toUInt64 &&& Int64.toUInt64 63)).toInt64) = x4
  have n4 : nnL x4 = nnL x3 + nnL x3 / 256 := by
    rw [← e4, nn_add, nn_sh k_shs.2.2.2.1, k_pws.2.2.2.1]
    have := h4.1
    clear h4
    omega
  generalize e5 : x4 + ((x4.toUInt64 >>> ((16 : Int32).toInt64.toUInt64 &&& Int64.toUInt64 63)).toInt64) = x5
  have n5 : nnL x5 = nnL x4 + nnL x4 / 65536 := by
    rw [← e5, nn_add, nn_sh k_shs.2.2.2.2.1, k_pws.2.2.2.2.1]
    have := h4.1
    clear h4
    omega
  generalize e6 : x5 + ((x5.toUInt64 >>> ((32 : Int32).toInt64.toUInt64 &&& Int64.toUInt64 63)).toInt64) = x6
  have n6 : nnL x6 = nnL x5 + nnL x5 / 4294967296 := by
    rw [← e6, nn_add, nn_sh k_shs.2.2.2.2.2, k_pws.2.2.2.2.2.1]
    have := h4.1
    clear h4
    omega
  rw [end127, n6, n5, n4, h4.2]
