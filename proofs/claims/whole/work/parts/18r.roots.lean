/-! ===== phase 2: roots, in the class ===== -/
def orS (A : Rw) : Nat → Nat → Int32
  | 0, _ => 0
  | k + 1, d => if orS A k d = 0 then blS A k d else 1
theorem orS_s {A : Rw} {k d : Nat} : orS A (k + 1) d = if orS A k d = 0 then blS A k d else 1 := by rw [orS]
theorem C_roots {N n : Nat} {A : Rw} {S : PS} (hN : 30000 ≤ N) (hw : WF n A) (h : CU 18 A S) : ∃ x, fX2_roots N 18 (iN n) S = some (x, S) ∧ bt x (fun c => if orS A 9 c = 0 then (if c < n then 1 else 0) else 0) := by
  have key : ∀ k c x m, c + k = 9 → bt x (orS A c) → k < m → ∃ y, bt y (orS A 9) ∧ fX2_roots_4 N 18 (iN n) m x (iN c) S = some (y, iN 9, S) := by
    intro k
    induction k with
    | zero =>
      intro c x m hc hx hm'
      obtain ⟨m', rfl⟩ : ∃ m', m = m' + 1 := ⟨m - 1, by omega⟩
      have e : c = 9 := by omega
      subst e
      refine ⟨x, hx, ?_⟩
      rw [fX2_roots_4, if_pos (show (9 : Int32) ≤ iN 9 from Int32.le_refl _)]
    | succ k ih =>
      intro c x m hc hx hm'
      obtain ⟨m', rfl⟩ : ∃ m', m = m' + 1 := ⟨m - 1, by omega⟩
      obtain ⟨z, hz, bz⟩ := C_below (N := N) is18 (show c < 9 by omega) hw h
      rw [fX2_roots_4, if_neg (by rw [i9l (by omega)]; omega), gd_t is18.ob, hz, bI_s, lt_b, lt_b, iN_1]
      exact ih (c + 1) _ m' (by omega) (bt_congr (bt_orr hx bz) (fun i _ => orS_s)) (by omega)
  obtain ⟨y, hy, e⟩ := key 9 0 0 N (by omega) (bt_congr bt_0 (fun i _ => by rw [orS])) (by omega)
  refine ⟨_, ?_, bt_andn (bt_low hw.1) hy⟩
  unfold fX2_roots
  rw [show fX2_roots_4 N 18 (iN n) N 0 0 S = fX2_roots_4 N 18 (iN n) N 0 (iN 0) S from rfl, e]
  rfl
