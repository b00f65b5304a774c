/-! ===== phase 2: givers, in the model ===== -/
theorem M_givers {N n d : Nat} {A : Rw} {S : PS} (hN : 30000 ≤ N) (hn : n ≤ 9) (hm : S.1 80 1 = iN n) (h : MR 0 n A S) : ∃ x, bt x (fun c => if c < n then blS A c d else 0) ∧ fX12_giversOf N (iN d) S = some (x, S) := by
  have key : ∀ k c x m, c + k = n → bt x (fun i => if i < c then blS A i d else 0) → k < m → ∃ y, bt y (fun i => if i < n then blS A i d else 0) ∧ fX12_giversOf_4 N (iN d) m x (iN c) S = some (y, iN n, S) := by
    intro k
    induction k with
    | zero =>
      intro c x m hc hx hm'
      obtain ⟨m', rfl⟩ : ∃ m', m = m' + 1 := ⟨m - 1, by omega⟩
      have e : c = n := by omega
      subst e
      refine ⟨x, hx, ?_⟩
      rw [fX12_giversOf_4, hm, if_pos (Int32.le_refl _)]
    | succ k ih =>
      intro c x m hc hx hm'
      obtain ⟨m', rfl⟩ : ∃ m', m = m' + 1 := ⟨m - 1, by omega⟩
      have hii : ¬ iN n ≤ iN c := by rw [iN_le (by omega) (by omega)]; omega
      rw [fX12_giversOf_4, hm, if_neg hii, M_below hn (show c < n by omega) h, bI_s, lt_b, lt_b, lt_b, iN_1]
      refine ih (c + 1) _ m' (by omega) ?_ (by omega)
      by_cases e : blS A c d = 0
      · have z2 : x ||| (0 : Int32) = x := by simp
        rw [if_pos e, z2]
        refine bt_congr hx (fun i hi => ?_)
        by_cases ei : i = c
        · rw [ei, if_pos (by omega), if_neg (by omega), e]
        · by_cases el : i < c
          · rw [if_pos (by omega), if_pos el]
          · rw [if_neg (by omega), if_neg el]
      · have e1 : blS A c d = 1 := by
          unfold blS at e ⊢
          by_cases q : A 2 c = iN d ∨ A 3 c = iN d
          · exact if_pos q
          · exact absurd (if_neg q) e
        rw [if_neg e]
        refine bt_congr (bt_or hx (show c < 9 by omega)) (fun i hi => ?_)
        by_cases ei : i = c
        · rw [ei, if_pos (by omega), upd_at, e1]
        · rw [upd_o ei]
          by_cases el : i < c
          · rw [if_pos (by omega), if_pos el]
          · rw [if_neg (by omega), if_neg el]
  have hb : bt 0 (fun i => if i < 0 then blS A i d else 0) := bt_congr bt_0 (fun i _ => if_neg (by omega))
  obtain ⟨y, hy, e⟩ := key n 0 0 N (by omega) hb (by omega)
  refine ⟨y, hy, ?_⟩
  unfold fX12_giversOf
  rw [show fX12_giversOf_4 N (iN d) N 0 0 S = fX12_giversOf_4 N (iN d) N 0 (iN 0) S from rfl, e]
  rfl
