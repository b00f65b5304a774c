/-! ===== phase 2: words, in the model ===== -/
/-- the class's number of the model's k-th word -/
def m2c (k : Nat) : Nat := [4, 5, 6, 7, 8, 0, 1, 2, 11, 9, 10, 3].getD k 0
theorem k_m2c : ∀ k : Fin 12, m2c k.val < 12 := by decide
theorem k_dist : ∀ j k : Fin 12, lLen (m2c j.val) = lLen (m2c k.val) → (∀ i : Fin 6, i.val < lLen (m2c k.val) → sch (m2c j.val) i.val = sch (m2c k.val) i.val) → j = k := by decide +kernel
def ltK (k : Nat) : Int64 := pkL (sch (m2c k)) 0 (lLen (m2c k))
section LET
variable {N : Nat} {S : PS}
theorem M_lt0 : fX12_letters N (iN 0) S = some (ltK 0, S) := by
  rw [show ltK 0 = (((((102 : Int32).toInt64 - 96) <<< ((5 : Int32).toInt64 &&& 63)) ||| ((105 - 96 : Int32).toInt64)) <<< ((5 : Int32).toInt64 &&& 63) ||| ((108 - 96 : Int32).toInt64)) <<< ((5 : Int32).toInt64 &&& 63) ||| ((108 - 96 : Int32).toInt64) from by decide +kernel]
  rfl
end LET
