/-! ===== phase 2: image, restore, in the model ===== -/
section IMM
variable {N : Nat} {G : Gs} {M : Mi} {S : PS}
theorem M_copies {v1 v2 L : Nat} (hN : 30000 ≤ N) (k1 : (ck v1).2 = L) (k2 : (ck v2).2 = L) (a1 : arr v1 1 (ck v1).2) (a2 : arr v2 1 (ck v2).2) (hL : L ≤ 20000) (h1 : v1 ≠ 80) (h2 : v2 ≠ 80) (hne : v1 ≠ v2) : rn (fX12_copies N v1 v2 S) (fun T => (∀ i, i < L → T.1 v2 i = S.1 v1 i) ∧ FM (fun a => a = v2) (fun _ => False) S T) := by
  simp only [fX12_copies, rn_bT, rn_lt, rn_some]
  have eL : Int32.ofNat (ck v1).2 = iN L := by rw [k1]; rfl
  refine forG (f := fun m j s => fX12_copies_2 N v1 v2 m (iN j) s) L (J := fun j U => (∀ i, i < j → U.1 v2 i = S.1 v1 i) ∧ FM (fun a => a = v2) (fun _ => False) S U) ?_ ?_ N 0 S (Nat.zero_le _) ⟨fun i hi => by omega, FM.rfl⟩ (by omega)
  · rintro m U ⟨g1, g3⟩
    simp only [fX12_copies_2, gd_t a1, eL]
    rw [if_pos (Int32.le_refl _), rn_some]
    exact ⟨g1, g3⟩
  · rintro m j U hj ⟨g1, g3⟩ ih
    have hii : ¬ iN L ≤ iN j := by rw [iN_le (by omega) (by omega)]; omega
    have i1 : inr (iN j) (ck v1).2 := inr_iN (by omega) (by omega)
    have i2 : inr (iN j) (ck v2).2 := inr_iN (by omega) (by omega)
    have x1 : ix (iN j) = j := ix_iN (by omega)
    simp only [fX12_copies_2, gd_t a1, gd_t a2, eL, if_neg hii, gd_t i1, gd_t i2, x1, iN_1]
    refine rn_u (fun U2 e2 => ?_)
    rw [rn_lt]
    refine ih U2 ⟨fun i hi => ?_, ⟨fun a ha hb => (e2.2.1 a hb).trans (g3.1 a ha hb), fun q hq => (congrFun (e2.2.1 80 (Ne.symm h2)) q).trans (g3.2.1 q hq), e2.2.2.trans g3.2.2⟩⟩
    rw [e2.1]
    by_cases ei : i = j
    · subst ei; rw [upd_at, g3.1 v1 h1 hne]
    · rw [upd_o (by omega)]; exact g1 i (by omega)
theorem M_im28 {T : PS} (hN : 30000 ≤ N) : rn (fX12_image_28 N N 0 T) (fun q => (∀ i, i < 64 → q.2.1 108 i = T.1 91 i) ∧ FM (fun a => a = 108) (fun _ => False) T q.2) := by
  refine forG (f := fun m j s => fX12_image_28 N m (iN j) s) 64 (J := fun j U => (∀ i, i < j → U.1 108 i = T.1 91 i) ∧ FM (fun a => a = 108) (fun _ => False) T U) ?_ ?_ N 0 T (Nat.zero_le _) ⟨fun i hi => by omega, FM.rfl⟩ (by omega)
  · rintro m U ⟨g1, g3⟩
    simp only [fX12_image_28]
    rw [if_pos (show (64 : Int32) ≤ iN 64 from Int32.le_refl _), rn_some]
    exact ⟨g1, g3⟩
  · rintro m j U hj ⟨g1, g3⟩ ih
    have hii : ¬ (64 : Int32) ≤ iN j := by rw [show (64 : Int32) = iN 64 from rfl, iN_le (by omega) (by omega)]; omega
    have i1 : inr (iN j) 128 := inr_iN (by omega) (by omega)
    have i2 : inr (iN j) 64 := inr_iN (by omega) (by omega)
    have x1 : ix (iN j) = j := ix_iN (by omega)
    simp only [fX12_image_28, if_neg hii, gd_t i1, gd_t i2, x1, iN_1]
    refine rn_u (fun U2 e2 => ?_)
    rw [rn_lt]
    refine ih U2 ⟨fun i hi => ?_, ⟨fun a ha hb => (e2.2.1 a hb).trans (g3.1 a ha hb), fun q hq => (congrFun (e2.2.1 80 (by decide)) q).trans (g3.2.1 q hq), e2.2.2.trans g3.2.2⟩⟩
    rw [e2.1]
    by_cases ei : i = j
    · subst ei; rw [upd_at, g3.1 91 (by decide) (by decide)]
    · rw [upd_o (by omega)]; exact g1 i (by omega)
theorem M_re32 {T : PS} (hN : 30000 ≤ N) : rn (fX12_restore_32 N N 0 T) (fun q => (∀ i, i < 64 → q.2.1 91 i = T.1 108 i) ∧ FM (fun a => a = 91) (fun _ => False) T q.2) := by
  refine forG (f := fun m j s => fX12_restore_32 N m (iN j) s) 64 (J := fun j U => (∀ i, i < j → U.1 91 i = T.1 108 i) ∧ FM (fun a => a = 91) (fun _ => False) T U) ?_ ?_ N 0 T (Nat.zero_le _) ⟨fun i hi => by omega, FM.rfl⟩ (by omega)
  · rintro m U ⟨g1, g3⟩
    simp only [fX12_restore_32]
    rw [if_pos (show (64 : Int32) ≤ iN 64 from Int32.le_refl _), rn_some]
    exact ⟨g1, g3⟩
  · rintro m j U hj ⟨g1, g3⟩ ih
    have hii : ¬ (64 : Int32) ≤ iN j := by rw [show (64 : Int32) = iN 64 from rfl, iN_le (by omega) (by omega)]; omega
    have i1 : inr (iN j) 128 := inr_iN (by omega) (by omega)
    have i2 : inr (iN j) 64 := inr_iN (by omega) (by omega)
    have x1 : ix (iN j) = j := ix_iN (by omega)
    simp only [fX12_restore_32, if_neg hii, gd_t i1, gd_t i2, x1, iN_1]
    refine rn_u (fun U2 e2 => ?_)
    rw [rn_lt]
    refine ih U2 ⟨fun i hi => ?_, ⟨fun a ha hb => (e2.2.1 a hb).trans (g3.1 a ha hb), fun q hq => (congrFun (e2.2.1 80 (by decide)) q).trans (g3.2.1 q hq), e2.2.2.trans g3.2.2⟩⟩
    rw [e2.1]
    by_cases ei : i = j
    · subst ei; rw [upd_at, g3.1 108 (by decide) (by decide)]
    · rw [upd_o (by omega)]; exact g1 i (by omega)
/-- minutes read from other rows that agree -/
theorem MMi.cp {n : Nat} {f g h f' g' h' : Nat → Int32} {K H K' H' : Int32} (hn : n ≤ 9) (hw : M.2.1.1 ≤ 40 ∧ M.2.2.1 ≤ 8) (hm : MMi n f g h K H M) (e1 : ∀ i, i < 64 → f' i = f i) (e2 : ∀ i, i < 2560 → g' i = g i) (e3 : ∀ i, i < 24 → h' i = h i) (e4 : K' = K) (e5 : H' = H) : MMi n f' g' h' K' H' M := by
  obtain ⟨h1, ⟨h2, h3⟩, h4, h5⟩ := hm
  refine ⟨h1.cg hn (fun k hk => by rw [Nat.zero_add]; exact e1 k hk), ⟨e4.trans h2, fun j hj => (h3 j hj).cg hn (fun k hk => e2 _ (by omega))⟩, e5.trans h4, fun i hi => ?_⟩
  rw [e3 _ (by omega), e3 _ (by omega), e3 _ (by omega)]
  exact h5 i hi
theorem M_image (hN : 30000 ≤ N) (hg : GW G) (hi : IM G S) : rn (fX12_image N S) (fun q => IM (nImg G) q ∧ CS S q) := by
  have w := hg.2.1
  have hn := hg.2.1.1.1
  unfold fX12_image
  refine rn_u (fun T1 u1 => ?_)
  refine rn_u (fun T2 u2 => ?_)
  refine rn_u (fun T3 u3 => ?_)
  refine rn_u (fun T4 u4 => ?_)
  have F4 : FM (fun a => a = 108 ∨ a = 109 ∨ a = 110) (fun k => k = 0 ∨ k = 54 ∨ k = 55 ∨ k = 56) S T4 := (((FM.rfl.ur u1 (Or.inl rfl)).ur u2 (Or.inr (Or.inl rfl))).ur u3 (Or.inr (Or.inr (Or.inl rfl)))).ur u4 (Or.inr (Or.inr (Or.inr rfl)))
  have v54 : T4.1 80 54 = 1 := by rw [(UR80 u4).2 54 (by decide), (UR80 u3).2 54 (by decide), (UR80 u2).1]
  have v55 : T4.1 80 55 = S.1 80 33 := by rw [(UR80 u4).2 55 (by decide), (UR80 u3).1, (UR80 u2).2 33 (by decide), (UR80 u1).2 33 (by decide)]
  have v56 : T4.1 80 56 = S.1 80 49 := by rw [(UR80 u4).1, (UR80 u3).2 49 (by decide), (UR80 u2).2 49 (by decide), (UR80 u1).2 49 (by decide)]
  rw [rn_bT]
  refine rn_mono (M_im28 hN) (fun q hq => ?_)
  rw [rn_lt, rn_lt, rn_bV]
  obtain ⟨g1, g2⟩ := hq
  refine rn_mono (M_copies (L := 2560) hN rfl rfl ⟨rfl, by decide⟩ ⟨rfl, by decide⟩ (by omega) (by decide) (by decide) (by decide)) (fun T5 hT5 => ?_)
  rw [rn_bV]
  refine rn_mono (M_copies (L := 24) hN rfl rfl ⟨rfl, by decide⟩ ⟨rfl, by decide⟩ (by omega) (by decide) (by decide) (by decide)) (fun T6 hT6 => ?_)
  rw [rn_some]
  obtain ⟨p1, p2⟩ := hT5
  obtain ⟨q1, q2⟩ := hT6
  have F5 := F4.tr (g2.mono (gs := fun k => k = 0 ∨ k = 54 ∨ k = 55 ∨ k = 56) (fun a ha => Or.inl ha) (fun _ h => h.elim))
  have F6 := F5.tr (p2.mono (gs := fun k => k = 0 ∨ k = 54 ∨ k = 55 ∨ k = 56) (fun a ha => Or.inr (Or.inl ha)) (fun _ h => h.elim))
  have F := F6.tr (q2.mono (gs := fun k => k = 0 ∨ k = 54 ∨ k = 55 ∨ k = 56) (fun a ha => Or.inr (Or.inr ha)) (fun _ h => h.elim))
  have k80 : ∀ k, T6.1 80 k = T4.1 80 k := fun k => by rw [q2.2.1 k id, p2.2.1 k id, g2.2.1 k id]
  refine ⟨?_, CS_fm F (fun a ha => by omega)⟩
  obtain ⟨h1, h2, h3, h4, h5, h6, h7⟩ := hi
  refine ⟨?_, ?_, ⟨(k80 54).trans v54, ?_⟩, ?_, ?_, ?_, ?_⟩
  · unfold ME
    rw [F.2.1 1 (by decide), F.2.1 2 (by decide), F.2.1 3 (by decide), F.2.1 40 (by decide), F.1 81 (by decide) (by decide), F.1 82 (by decide) (by decide)]
    exact h1
  · rw [F.1 91 (by decide) (by decide), F.1 92 (by decide) (by decide), F.1 105 (by decide) (by decide), F.2.1 33 (by decide), F.2.1 49 (by decide)]
    exact h2
  · refine h2.cp hn ⟨w.2.1.1, w.2.2.1⟩ (fun i hi => ?_) (fun i hi => ?_) (fun i hi => ?_) ((k80 55).trans v55) ((k80 56).trans v56)
    · rw [q2.1 108 (by decide) (by decide), p2.1 108 (by decide) (by decide), g1 i hi, F4.1 91 (by decide) (by decide)]
    · rw [q2.1 109 (by decide) (by decide), p1 i hi, F5.1 92 (by decide) (by decide)]
    · rw [q1 i hi, F6.1 105 (by decide) (by decide)]
  · rw [F.1 84 (by decide) (by decide)]; exact h4
  · rw [F.2.1 9 (by decide)]; exact h5
  · rw [F.2.1 7 (by decide)]; exact h6
  · rw [F.1 83 (by decide) (by decide)]; exact h7
theorem M_restore (hN : 30000 ≤ N) (hg : GW G) (hi : IM G S) : rn (fX12_restore N S) (fun q => q.1 = aRest G ∧ IM (nRest G) q.2 ∧ CS S q.2) := by
  have hn := hg.2.1.1.1
  have hw := hg.2.2.1
  have h3 := hi.2.2.1
  unfold aRest nRest fX12_restore
  refine rn_u (fun T1 u1 => ?_)
  have F1 : FM (fun a => a = 91 ∨ a = 92 ∨ a = 105) (fun k => k = 0 ∨ k = 33 ∨ k = 49) S T1 := FM.rfl.ur u1 (Or.inl rfl)
  have i1 : IM G T1 := by
    refine IM_pm hg hi ⟨fun a ha => u1.2.1 a (by unfold pm at ha; omega), fun k _ => by rw [u1.2.1 91 (by decide)], fun k hk => (UR80 u1).2 k (by unfold pf at hk; omega)⟩
  revert h3 hw
  cases G.2.2.1 with
  | none =>
    intro _ h3
    rw [if_pos (by rw [(UR80 u1).2 54 (by decide)]; exact h3), rn_some]
    exact ⟨rfl, i1, CS_fm F1 (fun a ha => by omega)⟩
  | some M =>
    intro hw h3
    have w := hw M rfl
    rw [if_neg (by rw [(UR80 u1).2 54 (by decide), h3.1]; decide)]
    refine rn_u (fun T2 u2 => ?_)
    refine rn_u (fun T3 u3 => ?_)
    have F3 := (F1.ur u2 (Or.inr (Or.inl rfl))).ur u3 (Or.inr (Or.inr rfl))
    have v33 : T3.1 80 33 = S.1 80 55 := by rw [(UR80 u3).2 33 (by decide), (UR80 u2).1, (UR80 u1).2 55 (by decide)]
    have v49 : T3.1 80 49 = S.1 80 56 := by rw [(UR80 u3).1, (UR80 u2).2 56 (by decide), (UR80 u1).2 56 (by decide)]
    rw [rn_bT]
    refine rn_mono (M_re32 hN) (fun q hq => ?_)
    rw [rn_lt, rn_lt, rn_bV]
    obtain ⟨g1, g2⟩ := hq
    refine rn_mono (M_copies (L := 2560) hN rfl rfl ⟨rfl, by decide⟩ ⟨rfl, by decide⟩ (by omega) (by decide) (by decide) (by decide)) (fun T5 hT5 => ?_)
    rw [rn_bV]
    refine rn_mono (M_copies (L := 24) hN rfl rfl ⟨rfl, by decide⟩ ⟨rfl, by decide⟩ (by omega) (by decide) (by decide) (by decide)) (fun T6 hT6 => ?_)
    rw [rn_some]
    obtain ⟨p1, p2⟩ := hT5
    obtain ⟨q1, q2⟩ := hT6
    have F5 := F3.tr (g2.mono (gs := fun k => k = 0 ∨ k = 33 ∨ k = 49) (fun a ha => Or.inl ha) (fun _ h => h.elim))
    have F6 := F5.tr (p2.mono (gs := fun k => k = 0 ∨ k = 33 ∨ k = 49) (fun a ha => Or.inr (Or.inl ha)) (fun _ h => h.elim))
    have F := F6.tr (q2.mono (gs := fun k => k = 0 ∨ k = 33 ∨ k = 49) (fun a ha => Or.inr (Or.inr ha)) (fun _ h => h.elim))
    have k80 : ∀ k, T6.1 80 k = T3.1 80 k := fun k => by rw [q2.2.1 k id, p2.2.1 k id, g2.2.1 k id]
    refine ⟨rfl, ?_, CS_fm F (fun a ha => by omega)⟩
    have hPM : PMn S T6 := ⟨fun a ha h92 h105 => F.1 a (by unfold pm at ha; omega) (by unfold pm at ha; omega), fun k hk h33 h49 => F.2.1 k (by unfold pf at hk; omega)⟩
    refine IM_now hi hPM ?_
    refine h3.2.cp hn ⟨w.2.1.1, w.2.2.1⟩ (fun i hi => ?_) (fun i hi => ?_) (fun i hi => ?_) ((k80 33).trans v33) ((k80 49).trans v49)
    · rw [q2.1 91 (by decide) (by decide), p2.1 91 (by decide) (by decide), g1 i hi, F3.1 108 (by decide) (by decide)]
    · rw [q2.1 92 (by decide) (by decide), p1 i hi, F5.1 109 (by decide) (by decide)]
    · rw [q1 i hi, F6.1 110 (by decide) (by decide)]
end IMM
