/-! ===== phase 2: how deep, in the model ===== -/
section DEEPM
variable {N n c : Nat} {A : Rw} {S : PS} {v1 : Int32}
theorem MR_97 {T : PS} (h : MR 0 n A S) (F : FM (fun a => a = 97) (fun _ => False) S T) : MR 0 n A T := by
  rw [MF_MR, F.1 91 (by decide) (by decide)]
  exact h
theorem M_dp22 (hN : 30000 ≤ N) (hn : n ≤ 9) (hc : c < n) (hm : S.1 80 1 = iN n) (h : MR 0 n A S) (h0 : S.1 97 c = 0) : rn (fX12_deep_22 N v1 (iN c) N (iN (c + 1)) S) (fun q => q.2.1 97 c = mxS (S.1 97) A c (n - 1 - c) ∧ (∀ d, d ≠ c → q.2.1 97 d = S.1 97 d) ∧ FM (fun a => a = 97) (fun _ => False) S q.2) := by
  refine forG (f := fun m j s => fX12_deep_22 N v1 (iN c) m (iN j) s) n (J := fun j U => c + 1 ≤ j ∧ U.1 97 c = mxS (S.1 97) A c (j - (c + 1)) ∧ (∀ d, d ≠ c → U.1 97 d = S.1 97 d) ∧ FM (fun a => a = 97) (fun _ => False) S U) ?_ ?_ N (c + 1) S (by omega) ⟨Nat.le_refl _, by rw [Nat.sub_self, mxS]; exact h0, fun _ _ => rfl, FM.rfl⟩ (by omega)
  · rintro m U ⟨-, g1, g2, g3⟩
    simp only [fX12_deep_22]
    rw [if_pos (show U.1 80 1 ≤ iN n by rw [g3.2.1 1 id, hm]; exact Int32.le_refl _), rn_some]
    exact ⟨by rw [g1, show n - (c + 1) = n - 1 - c from by omega], g2, g3⟩
  · rintro m j U hj ⟨g0, g1, g2, g3⟩ ih
    have hii : ¬ U.1 80 1 ≤ iN j := by rw [g3.2.1 1 id, hm, iN_le (by omega) (by omega)]; omega
    have cU : MR 0 n A U := MR_97 h g3
    have ic : inr (iN c) 9 := inr_iN (by omega) (by omega)
    have ij : inr (iN j) 9 := inr_iN (by omega) (by omega)
    have xc : ix (iN c) = c := ix_iN (by omega)
    have xj : ix (iN j) = j := ix_iN (by omega)
    have ej : j = c + 1 + (j - (c + 1)) := by omega
    have ms : mxS (S.1 97) A c (j + 1 - (c + 1)) = if blS A c j = 0 then mxS (S.1 97) A c (j - (c + 1)) else if mxS (S.1 97) A c (j - (c + 1)) < S.1 97 j + 1 then S.1 97 j + 1 else mxS (S.1 97) A c (j - (c + 1)) := by
      rw [show j + 1 - (c + 1) = (j - (c + 1)) + 1 from by omega, mxS_s, ← ej]
    simp only [fX12_deep_22]
    rw [if_neg hii, M_below hn hc cU, bI_s]
    by_cases e : blS A c j = 0
    · rw [if_pos e, rn_lt, iN_1]
      refine ih U ⟨by omega, ?_, g2, g3⟩
      rw [ms, if_pos e]; exact g1
    · rw [if_neg e, gd_t ic, gd_t ij, xc, xj]
      unfold fX12_greater
      rw [lt_b, bI_s, gd_t ic]
      refine rn_u (fun U2 u2 => ?_)
      rw [rn_lt, iN_1]
      refine ih U2 ⟨by omega, ?_, fun d hd => ?_, ⟨fun a ha hb => (u2.2.1 a hb).trans (g3.1 a ha hb), fun q hq => (congrFun (u2.2.1 80 (by decide)) q).trans (g3.2.1 q hq), u2.2.2.trans g3.2.2⟩⟩
      · rw [u2.1, upd_at, ms, if_neg e, g1, g2 j (by omega), Int32.add_comm 1 (S.1 97 j)]
        by_cases q : mxS (S.1 97) A c (j - (c + 1)) < S.1 97 j + 1
        · rw [if_pos q, if_pos (by rw [lt_ti] at q; rw [le_ti]; omega)]
        · rw [if_neg q]
          by_cases q2 : mxS (S.1 97) A c (j - (c + 1)) ≤ S.1 97 j + 1
          · rw [if_pos q2]
            rw [lt_ti] at q
            rw [le_ti] at q2
            exact Int32.toInt_inj.mp (by omega)
          · rw [if_neg q2]
      · rw [u2.1, upd_o hd]; exact g2 d hd
theorem M_dp7 (hN : 30000 ≤ N) (hn : n ≤ 9) : ∀ k m S, k ≤ n → k < m → S.1 80 1 = iN n → MR 0 n A S → DPm n A (S.1 97) k → rn (fX12_deep_7 N v1 m (iN k - 1) S) (fun q => DPm n A (q.2.1 97) 0 ∧ FM (fun a => a = 97) (fun _ => False) S q.2)
  | 0, m, S, hc, hm, h1, h, hD => by
    obtain ⟨m', rfl⟩ : ∃ m', m = m' + 1 := ⟨m - 1, by omega⟩
    rw [fX12_deep_7, if_pos (by decide), rn_some]
    exact ⟨hD, FM.rfl⟩
  | k + 1, m, S, hc, hm, h1, h, hD => by
    obtain ⟨m', rfl⟩ : ∃ m', m = m' + 1 := ⟨m - 1, by omega⟩
    have ic : inr (iN k) 9 := inr_iN (by omega) (by omega)
    have xc : ix (iN k) = k := ix_iN (by omega)
    rw [iN_s1, fX12_deep_7, if_neg (iN_pos (by omega)), gd_t ic, xc]
    refine rn_u (fun T u => ?_)
    have F1 : FM (fun a => a = 97) (fun _ => False) S T := ⟨fun a ha hb => u.2.1 a hb, fun q hq => by rw [u.2.1 80 (by decide)], u.2.2⟩
    rw [lt_b, iN_1, rn_bT]
    refine rn_mono (M_dp22 hN hn (show k < n by omega) (by rw [F1.2.1 1 id]; exact h1) (MR_97 h F1) (by rw [u.1, upd_at])) (fun q hq => ?_)
    rw [rn_lt, rn_lt, rn_lt, show iN k + (-1) = iN k - 1 from (Int32.sub_eq_add_neg _ _).symm]
    obtain ⟨q1, q2, q3⟩ := hq
    have F2 := F1.tr q3
    have old : ∀ d, d ≠ k → q.2.1 97 d = S.1 97 d := fun d hd => by rw [q2 d hd, u.1, upd_o hd]
    refine rn_mono (M_dp7 hN hn k m' q.2 (by omega) (by omega) (by rw [F2.2.1 1 id]; exact h1) (MR_97 h F2) (fun d h1 h2 => ?_)) (fun r hr => ⟨hr.1, F2.tr hr.2⟩)
    by_cases ed : d = k
    · subst ed
      rw [q1]
      exact mxS_cg _ (fun f h3 h4 => (q2 f (by omega)).symm)
    · rw [old d ed, hD d (by omega) h2]
      exact mxS_cg _ (fun f h3 h4 => (old f (by omega)).symm)
theorem M_deep (hN : 30000 ≤ N) (hn : n ≤ 9) (hc : c < n) (hm : S.1 80 1 = iN n) (h : MR 0 n A S) : rn (fX12_deep N (iN c) S) (fun q => (∃ V, DPm n A V 0 ∧ q.1 = V c) ∧ FM (fun a => a = 97) (fun _ => False) S q.2) := by
  have ic : inr (iN c) 9 := inr_iN (by omega) (by omega)
  have xc : ix (iN c) = c := ix_iN (by omega)
  unfold fX12_deep
  rw [hm, lt_b, rn_bT]
  refine rn_mono (M_dp7 hN hn n N S (by omega) (by omega) hm h (fun d h1 h2 => by omega)) (fun q hq => ?_)
  rw [rn_lt, rn_lt, gd_t ic, xc, rn_some]
  exact ⟨⟨_, hq.1, rfl⟩, hq.2⟩
end DEEPM
