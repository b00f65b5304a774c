/-! ===== phase 2: where the next drops go; the plugged ===== -/
def intoS (A : Rw) (c : Nat) (j : Int32) : Int32 := if A 3 c = -1 then A 2 c else if A 6 c = j then A 2 c else A 3 c
theorem par_j {q a j : Int32} (h : q &&& 1 = a) (hj : j = 0 ∨ j = 1) : ((q + j) &&& 1 = 0) ↔ a = j := by
  obtain ⟨k, hk⟩ : ∃ k, q = iN k := ⟨_, iN_self q⟩
  subst hk
  subst h
  rw [iN_and1]
  rcases hj with rfl | rfl
  · have e : iN k + 0 = iN k := by
      rw [show (0 : Int32) = iN 0 from rfl, iN_add, Nat.add_zero]
    rw [e, iN_and1]
  · rw [iN_1, iN_and1, show (0 : Int32) = iN 0 from rfl, show (1 : Int32) = iN 1 from rfl, iN_eq (by omega) (by omega), iN_eq (by omega) (by omega)]
    omega
section INTO
variable {N n c : Nat} {A : Rw} {S : PS} {j : Int32}
theorem C_intoD (hc : c < 9) (h : CU 18 A S) (hj : j = 0 ∨ j = 1) : fX2_intoOfDrop N 18 (iN c) j S = some (intoS A c j, S) := by
  have i9 : inr (iN c) 9 := inr_iN hc (by omega)
  have xd : ix (iN c) = c := ix_iN (by omega)
  have e2 : S.1 (sr 18 2) c = A 2 c := h.1 2 (by omega) c hc
  have e3 : S.1 (sr 18 3) c = A 3 c := h.1 3 (by omega) c hc
  have e8 := par_j (bt_has h.2.2.2 hc) hj
  simp only [fX2_intoOfDrop, gd_t is18.ob, gd_t (is18.ar (k := 2) (by omega)), gd_t (is18.ar (k := 3) (by omega)), gd_t i9, xd, e2, e3, lt_b]
  unfold intoS
  by_cases h3 : A 3 c = -1
  · rw [if_pos h3, if_pos h3]
  · rw [if_neg h3, if_neg h3]
    by_cases h6 : A 6 c = j
    · rw [if_pos (e8.mpr h6), if_pos h6]
    · rw [if_neg (fun e => h6 (e8.mp e)), if_neg h6]
theorem M_intoD (hn : n ≤ 9) (hc : c < n) (h : MR 0 n A S) (h6 : A 6 c = 0 ∨ A 6 c = 1) (hj : j = 0 ∨ j = 1) : fX12_into N (iN c) j S = some (intoS A c j, S) := by
  have o1 : (19 : Int32) + iN c = iN (0 + 19 + c) := by rw [show (19 : Int32) = iN 19 from rfl, iN_add]
  have i1 : inr (iN (0 + 19 + c)) 128 := inr_iN (by omega) (by omega)
  have x1 : ix (iN (0 + 19 + c)) = 0 + 19 + c := ix_iN (by omega)
  have o2 : (28 : Int32) + iN c = iN (0 + 28 + c) := by rw [show (28 : Int32) = iN 28 from rfl, iN_add]
  have i2 : inr (iN (0 + 28 + c)) 128 := inr_iN (by omega) (by omega)
  have x2 : ix (iN (0 + 28 + c)) = 0 + 28 + c := ix_iN (by omega)
  have o3 : (37 : Int32) + iN c = iN (0 + 37 + c) := by rw [show (37 : Int32) = iN 37 from rfl, iN_add]
  have i3 : inr (iN (0 + 37 + c)) 128 := inr_iN (by omega) (by omega)
  have x3 : ix (iN (0 + 37 + c)) = 0 + 37 + c := ix_iN (by omega)
  have r1 : S.1 91 (0 + 19 + c) = A 2 c := (h.2 c hc).2.2.1
  have r2 : S.1 91 (0 + 28 + c) = A 3 c := (h.2 c hc).2.2.2.1
  have r3 : S.1 91 (0 + 37 + c) = A 6 c := (h.2 c hc).2.2.2.2.2.2
  have e8 : ((A 6 c + j) - (A 6 c + j) / 2 * 2 = 0) ↔ A 6 c = j := by
    rcases h6 with e | e <;> rcases hj with f | f <;> rw [e, f] <;> decide
  simp only [fX12_into, o1, o2, o3, gd_t i1, gd_t i2, gd_t i3, x1, x2, x3, r1, r2, r3]
  unfold intoS
  by_cases h3 : A 3 c = -1
  · rw [if_pos h3, if_pos h3]
  · rw [if_neg h3, if_neg h3]
    by_cases h6 : A 6 c = j
    · rw [if_pos (e8.mpr h6), if_pos h6]
    · rw [if_neg (fun e => h6 (e8.mp e)), if_neg h6]
theorem M_plugd (hN : 30000 ≤ N) (hw : WF n A) (hm : S.1 80 1 = iN n) (h : MR 0 n A S) : ∃ x, bt x (fun c => if c < n then A 5 c else 0) ∧ fX12_plugged N S = some (x, S) := by
  have hn := hw.1
  have key : ∀ k c x m, c + k = n → bt x (fun i => if i < c then A 5 i else 0) → k < m → ∃ y, bt y (fun i => if i < n then A 5 i else 0) ∧ fX12_plugged_4 N m x (iN c) S = some (y, iN n, S) := by
    intro k
    induction k with
    | zero =>
      intro c x m hc hx hm'
      obtain ⟨m', rfl⟩ : ∃ m', m = m' + 1 := ⟨m - 1, by omega⟩
      have e : c = n := by omega
      subst e
      refine ⟨x, hx, ?_⟩
      rw [fX12_plugged_4, hm, if_pos (Int32.le_refl _)]
    | succ k ih =>
      intro c x m hc hx hm'
      obtain ⟨m', rfl⟩ : ∃ m', m = m' + 1 := ⟨m - 1, by omega⟩
      have hii : ¬ iN n ≤ iN c := by rw [iN_le (by omega) (by omega)]; omega
      have o1 : (55 : Int32) + iN c = iN (0 + 55 + c) := by rw [show (55 : Int32) = iN 55 from rfl, iN_add]
      have i1 : inr (iN (0 + 55 + c)) 128 := inr_iN (by omega) (by omega)
      have x1 : ix (iN (0 + 55 + c)) = 0 + 55 + c := ix_iN (by omega)
      have r1 : S.1 91 (0 + 55 + c) = A 5 c := (h.2 c (by omega)).2.2.2.2.2.1
      rw [fX12_plugged_4, hm, if_neg hii, o1, gd_t i1, x1, r1, lt_b, lt_b, iN_1]
      refine ih (c + 1) _ m' (by omega) ?_ (by omega)
      rcases (hw.2 c (by omega)).2.2.2.2.2.1 with e | e
      · rw [e]
        have z : ((0 : Int32) <<< (iN c &&& 31)) = 0 := by simp
        have z2 : x ||| (0 : Int32) = x := by simp
        rw [z, z2]
        refine bt_congr hx (fun i hi => ?_)
        by_cases ei : i = c
        · rw [ei, if_pos (by omega), if_neg (by omega), e]
        · by_cases el : i < c
          · rw [if_pos (by omega), if_pos el]
          · rw [if_neg (by omega), if_neg el]
      · rw [e]
        refine bt_congr (bt_or hx (show c < 9 by omega)) (fun i hi => ?_)
        by_cases ei : i = c
        · rw [ei, if_pos (by omega), upd_at, e]
        · rw [upd_o ei]
          by_cases el : i < c
          · rw [if_pos (by omega), if_pos el]
          · rw [if_neg (by omega), if_neg el]
  have hb : bt 0 (fun i => if i < 0 then A 5 i else 0) := bt_congr bt_0 (fun i _ => if_neg (by omega))
  obtain ⟨y, hy, e⟩ := key n 0 0 N (by omega) hb (by omega)
  refine ⟨y, hy, ?_⟩
  unfold fX12_plugged
  rw [show fX12_plugged_4 N N 0 0 S = fX12_plugged_4 N N 0 (iN 0) S from rfl, e]
  rfl
end INTO
