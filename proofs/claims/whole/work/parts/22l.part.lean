/-! ===== phase 2: rules: numbers, names, brackets ===== -/
section PTX
variable {N : Nat} {b : Nat → Int32} {L : Nat} {w p : Nat}
theorem vD_r {fr : Nat} : ∀ k, k ≤ 4 → (∀ i, i < k → 48 ≤ (b (fr + i)).toInt ∧ (b (fr + i)).toInt ≤ 57) → 0 ≤ (vD b fr k).toInt ∧ (vD b fr k).toInt ≤ 10 ^ k - 1
  | 0, _, _ => by rw [vD, z_ti]; decide
  | k + 1, hk, h => by
    have ih := vD_r (fr := fr) k (by omega) (fun i hi => h i (by omega))
    have hb := h k (by omega)
    have p4 : (10 : Int) ^ k ≤ 1000 := by
      have : k = 0 ∨ k = 1 ∨ k = 2 ∨ k = 3 := by omega
      rcases this with rfl | rfl | rfl | rfl <;> decide
    have ps : (10 : Int) ^ (k + 1) = 10 ^ k * 10 := Int.pow_succ 10 k
    rw [vD_s, if_pos (by omega)]
    have t10 : (10 : Int32).toInt = 10 := by decide
    have t48 : (48 : Int32).toInt = 48 := by decide
    have e1 : (vD b fr k * 10).toInt = (vD b fr k).toInt * 10 := by rw [ti_mul (by rw [t10]; omega) (by rw [t10]; omega), t10]
    have e2 : (vD b fr k * 10 + b (fr + k)).toInt = (vD b fr k).toInt * 10 + (b (fr + k)).toInt := by rw [ti_add (by rw [e1]; omega) (by rw [e1]; omega), e1]
    rw [ti_sub (by rw [e2, t48]; omega) (by rw [e2, t48]; omega), e2, t48, ps]
    omega
theorem tvl_r (hp : p ≤ L) (h2 : tkd b L p = 2) (h4 : tto b L p - tfr b L p ≤ 4) : 0 ≤ (tvl b L p).toInt ∧ (tvl b L p).toInt ≤ 9999 := by
  have to : tto b L p = rU isD b L (tfr b L p) := by unfold tto; rw [h2, if_neg (by decide), if_neg (by decide), if_pos rfl]
  have t := tto_le (b := b) hp
  have := vD_r (b := b) (fr := tfr b L p) (tto b L p - tfr b L p) h4 (fun i hi => by
    have := of_decide_eq_true (rU_all (P := isD) (b := b) (L := L) (L - tfr b L p) (tfr b L p) (Nat.le_refl _) (tfr b L p + i) (by omega) (by rw [← to]; omega))
    rw [le_ti, le_ti, show (48 : Int32).toInt = 48 from by decide, show (57 : Int32).toInt = 57 from by decide] at this
    exact this)
  unfold tvl
  refine ⟨this.1, Int.le_trans this.2 ?_⟩
  generalize tto b L p - tfr b L p = k at h4 ⊢
  have : k = 0 ∨ k = 1 ∨ k = 2 ∨ k = 3 ∨ k = 4 := by omega
  rcases this with rfl | rfl | rfl | rfl | rfl <;> decide
theorem C_long {o : Nat} {K : List Int32} {S : PS} (h : XC b L o p K S) : fX10_isTooLong N S = some ((if tto b L p - tfr b L p ≤ 4 then 0 else 1), S) := by
  have hp := h.1.2.1
  have hL := h.1.1.1
  have t := tto_le (b := b) hp
  unfold fX10_isTooLong
  rw [h.1.2.2.2.1, h.1.2.2.1, iN_sub t.1, lt_b]
  by_cases e : tto b L p - tfr b L p ≤ 4
  · rw [if_pos e, if_pos (by rw [show (4 : Int32) = iN 4 from rfl, iN_le (by omega) (by omega)]; exact e)]
    exact gd_t (Or.inl rfl)
  · rw [if_neg e, if_neg (by rw [show (4 : Int32) = iN 4 from rfl, iN_le (by omega) (by omega)]; exact e)]
    exact gd_t (Or.inr rfl)
/-- the value that a name stands for: the class's number of it -/
def vsG (b : Nat → Int32) (L p : Nat) : Int32 := if wdP b L p 4 then -1 else if wdP b L p 5 then -2 else if wdP b L p 6 then -3 else if wdP b L p 7 then -4 else if wdP b L p 0 then -5 else if wdP b L p 8 then -6 else 0
theorem C_vsg {o : Nat} {K : List Int32} {S : PS} (hN : 30000 ≤ N) (h : XC b L o p K S) : fX7_valueSign N S = some (vsG b L p, S) := by
  have wd : ∀ k, k < 12 → fX10_isWord N k S = some ((if wdP b L p k then 1 else 0), S) := fun k hk => C_isWd hN hk h.1
  unfold fX7_valueSign vsG
  rw [wd 4 (by omega), bI_s]
  by_cases a4 : wdP b L p 4
  · rw [if_pos a4, if_pos a4, if_neg (by decide)]
  rw [if_neg a4, if_neg a4, if_pos rfl, wd 5 (by omega), bI_s]
  by_cases a5 : wdP b L p 5
  · rw [if_pos a5, if_pos a5, if_neg (by decide)]
  rw [if_neg a5, if_neg a5, if_pos rfl, wd 6 (by omega), bI_s]
  by_cases a6 : wdP b L p 6
  · rw [if_pos a6, if_pos a6, if_neg (by decide)]
  rw [if_neg a6, if_neg a6, if_pos rfl, wd 7 (by omega), bI_s]
  by_cases a7 : wdP b L p 7
  · rw [if_pos a7, if_pos a7, if_neg (by decide)]
  rw [if_neg a7, if_neg a7, if_pos rfl, wd 0 (by omega), bI_s]
  by_cases a0 : wdP b L p 0
  · rw [if_pos a0, if_pos a0, if_neg (by decide)]
  rw [if_neg a0, if_neg a0, if_pos rfl, wd 8 (by omega), bI_s]
  by_cases a8 : wdP b L p 8
  · rw [if_pos a8, if_pos a8, if_neg (by decide), lt_b]
  · rw [if_neg a8, if_neg a8, if_pos rfl, lt_b]
theorem vs_w : (vsG b L p = 0 ∧ ¬ (0 ≤ wI b L p ∧ wI b L p ≤ 5)) ∨ (vsG b L p < 0 ∧ ¬ vsG b L p ≤ -7 ∧ mv (vsG b L p) = wI b L p ∧ 0 ≤ wI b L p ∧ wI b L p ≤ 5) := by
  have key : ∀ j, j < 12 → wdP b L p (m2c j) → vsG b L p = (if j = 0 then -1 else if j = 1 then -2 else if j = 2 then -3 else if j = 3 then -4 else if j = 5 then -5 else if j = 4 then -6 else 0) := by
    intro j hj h
    have e : ∀ k, k < 12 → (wdP b L p (m2c k) ↔ j = k) := fun k hk => ⟨fun q => wd_u hj hk h q, fun q => by rw [← q]; exact h⟩
    have e4 : wdP b L p 4 ↔ j = 0 := e 0 (by omega)
    have e5 : wdP b L p 5 ↔ j = 1 := e 1 (by omega)
    have e6 : wdP b L p 6 ↔ j = 2 := e 2 (by omega)
    have e7 : wdP b L p 7 ↔ j = 3 := e 3 (by omega)
    have e0 : wdP b L p 0 ↔ j = 5 := e 5 (by omega)
    have e8 : wdP b L p 8 ↔ j = 4 := e 4 (by omega)
    unfold vsG
    simp only [e4, e5, e6, e7, e0, e8]
  rcases wI_r (b := b) (L := L) (p := p) with e | ⟨k, hk, e⟩
  · refine Or.inl ⟨?_, by rw [e]; decide⟩
    have nw : ∀ j, j < 12 → ¬ wdP b L p (m2c j) := fun j hj q => by
      have := (wI_k hj).mpr q
      rw [e] at this
      exact iN_n1 (by omega) this.symm
    unfold vsG
    rw [if_neg (show ¬ wdP b L p 4 from nw 0 (by omega)), if_neg (show ¬ wdP b L p 5 from nw 1 (by omega)), if_neg (show ¬ wdP b L p 6 from nw 2 (by omega)), if_neg (show ¬ wdP b L p 7 from nw 3 (by omega)), if_neg (show ¬ wdP b L p 0 from nw 5 (by omega)), if_neg (show ¬ wdP b L p 8 from nw 4 (by omega))]
  · have v := key k hk ((wI_k hk).mp e)
    rw [v, e]
    have : k = 0 ∨ k = 1 ∨ k = 2 ∨ k = 3 ∨ k = 4 ∨ k = 5 ∨ k = 6 ∨ k = 7 ∨ k = 8 ∨ k = 9 ∨ k = 10 ∨ k = 11 := by omega
    rcases this with rfl | rfl | rfl | rfl | rfl | rfl | rfl | rfl | rfl | rfl | rfl | rfl <;> decide
end PTX
