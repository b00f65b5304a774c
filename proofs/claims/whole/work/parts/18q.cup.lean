/-! ===== phase 2: cup, in the model ===== -/
section CUPM
variable {N : Nat} {V : Cv} {A : Rw} {S : PS}
theorem M_cup {c k : Int32} (q : QM N V A S) : rn (fX12_cup N c k S) (fun r => MA k1 (aCup V A c k) r.1 (r.2.1 80 0) ∧ FP S r.2) := by
  have hF : FP S (u2 S.1 80 0 0, S.2) := zFP
  have q0 := q.fp hF
  have hz := z0 (S := S)
  unfold aCup fX12_cup
  refine rn_l (fun T eT => ?_)
  rw [← eT] at q0 hF hz
  clear eT
  obtain ⟨hN, hs, hw, hmr, hme⟩ := q0
  have hn := hw.1
  have h80 : T.1 80 1 = iN V.1 := hme.1
  have bad : MA k1 (.inr nNSE : Int32 ⊕ String) 0 (u2 T.1 80 0 1 80 0) := by
    show u2 T.1 80 0 1 80 0 = 1
    rw [u2_at, upd_at]
  by_cases h1 : inr c V.1
  · obtain ⟨d, hd, rfl⟩ := inr_c h1
    have xd : ix (iN d) = d := ix_iN (by omega)
    have i9 : inr (iN d) 9 := inr_iN (by omega) (by omega)
    have d9 : d < 9 := by omega
    have o : ∀ b : Nat, b ≤ 60 → iN b + iN d = iN (0 + b + d) ∧ inr (iN (0 + b + d)) 128 ∧ ix (iN (0 + b + d)) = 0 + b + d := fun b hb => ⟨by rw [iN_add, Nat.zero_add], inr_iN (by omega) (by omega), ix_iN (by omega)⟩
    have o1 := o 1 (by omega)
    have o10 := o 10 (by omega)
    have o46 := o 46 (by omega)
    have o55 := o 55 (by omega)
    have r := hmr.2 d hd
    rw [ic_t hz hn h80 hd, bI_s, if_neg (by decide), if_pos h1]
    by_cases h2 : btw k 0 8
    · rw [iw_t hz h2, bI_s, if_neg (by decide), if_pos h2]
      unfold cupV
      rw [xd]
      by_cases k0 : k = 0
      · rw [if_pos k0, if_pos k0, show (1 : Int32) + iN d = iN (0 + 1 + d) from o1.1, gd_t o1.2.1, o1.2.2, rn_some, r.1]; exact ⟨⟨hz, rfl⟩, hF⟩
      rw [if_neg k0, if_neg k0]
      by_cases k1 : k = 1
      · rw [if_pos k1, if_pos k1, show (10 : Int32) + iN d = iN (0 + 10 + d) from o10.1, gd_t o10.2.1, o10.2.2, rn_some, r.2.1]; exact ⟨⟨hz, rfl⟩, hF⟩
      rw [if_neg k1, if_neg k1]
      by_cases k2 : k = 2
      · rw [if_pos k2, if_pos k2, gd_t i9, rn_some, hme.2.1 d hd]; exact ⟨⟨hz, rfl⟩, hF⟩
      rw [if_neg k2, if_neg k2]
      have h6 := (hw.2 d d9).2.2.2.2.2.2.1
      by_cases k3 : k = 3
      · rw [if_pos k3, if_pos k3, M_intoD hn hd hmr h6 (Or.inl rfl), bI_s, rn_some]; exact ⟨⟨hz, rfl⟩, hF⟩
      rw [if_neg k3, if_neg k3]
      by_cases k4 : k = 4
      · rw [if_pos k4, if_pos k4, M_intoD hn hd hmr h6 (Or.inr rfl), bI_s, rn_some]; exact ⟨⟨hz, rfl⟩, hF⟩
      rw [if_neg k4, if_neg k4]
      by_cases k5 : k = 5
      · rw [if_pos k5, if_pos k5, show (46 : Int32) + iN d = iN (0 + 46 + d) from o46.1, gd_t o46.2.1, o46.2.2, rn_some, r.2.2.2.2.1]; exact ⟨⟨hz, rfl⟩, hF⟩
      rw [if_neg k5, if_neg k5]
      by_cases k6 : k = 6
      · rw [if_pos k6, if_pos k6, show (55 : Int32) + iN d = iN (0 + 55 + d) from o55.1, gd_t o55.2.1, o55.2.2, rn_some, r.2.2.2.2.2.1]; exact ⟨⟨hz, rfl⟩, hF⟩
      rw [if_neg k6, if_neg k6]
      by_cases k7 : k = 7
      · rw [if_pos k7, if_pos k7, rn_bI]
        refine rn_mono (M_deepS hN hn hd h80 hmr) (fun u hu => ?_)
        rw [rn_some]
        exact ⟨⟨(hu.2.2.1 0 id).trans hz, hu.1⟩, hF.tr (FP.fm hu.2 (fun a ha => by unfold pm; omega) (fun _ e => e.elim))⟩
      rw [if_neg k7, if_neg k7, show (1 : Int32) + iN d = iN (0 + 1 + d) from o1.1, show (10 : Int32) + iN d = iN (0 + 10 + d) from o10.1, gd_t o1.2.1, gd_t o10.2.1, o1.2.2, o10.2.2, rn_some, r.1, r.2.1]
      exact ⟨⟨hz, rfl⟩, hF⟩
    · rw [iw_f hz h2, bI_s, if_pos rfl, if_neg h2, rn_some]
      exact ⟨bad, hF.tr zFP⟩
  · rw [ic_f hz hn h80 h1, bI_s, if_pos rfl, if_neg h1, rn_some]
    exact ⟨bad, hF.tr zFP⟩
end CUPM
