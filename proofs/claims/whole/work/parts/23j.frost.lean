/-! ===== phase 2: the line of the frost, both ===== -/
section RLD
variable {N : Nat} {b : Nat → Int32} {L : Nat} {p : Nat} {V : Cv} {A : Rw}
theorem frost_line (hN : 30000 ≤ N) (hL : L ≤ 700) (hp : p ≤ L) (hw : WV V A) (w8 : wI b L p = 8) (k1 : tkd b L p = 1) : ∃ out, LineOK N b L p V A (fun c S => fX7_readRule N (sr c 3) S) out := by
  have t := tto_le (b := b) hp
  have tf := tfr_le (b := b) hp
  have tl := t.2.2 (by omega)
  have n5 : ¬ wI b L p = 5 := by rw [w8]; decide
  have n6 : ¬ wI b L p = 6 := by rw [w8]; decide
  have n7 : ¬ wI b L p = 7 := by rw [w8]; decide
  by_cases e : V.2.2.2 = none
  · obtain ⟨R, s1, c1, m1⟩ := exp_both (N := N) (b := b) hN hL t.2.1
    refine ⟨rlO V A false (rsR b L R), ?_, fun c S h hv => ?_, fun X S hX h hv => ?_⟩
    · cases R with
      | inr q => exact s1
      | inl q =>
        obtain ⟨a1, a2, a3, a4, a5⟩ := s1
        show outOK L p (rlO V A false (if sgP b L q.1 59 then .inl (tto b L q.1, q.2) else .inr (1, iN (tfr b L q.1))))
        by_cases g : sgP b L q.1 59
        · rw [if_pos g]
          obtain ⟨z1, z2⟩ := sg_tk a2 g
          obtain ⟨w1, w2, w3, w4, w5, w6⟩ := hw
          exact ⟨⟨w1, w2, w3, w4, w5, fun C hC => by cases hC; exact ⟨ok_of a4, by show q.2.length ≤ 700; omega⟩⟩, by dsimp only; omega, z2⟩
        · rw [if_neg g]
          show (1 : Int32) ≠ 0
          decide
    · obtain ⟨-, -, -, -, r4, -⟩ := cvR hv.1
      have h6 := hv.2.2.2.2.2.2
      refine rn_mono (C_ruleX hN r4 h k1 ((RU_n h6).mpr e) (h6.2 e) c1) (fun T hT => ?_)
      obtain ⟨f1, f2, f3, f4⟩ := hT
      have fr : FRd c S T := ⟨fun a ha => f1 a (fun g => ha (by rcases g with g | g | g | g; exact Or.inl g; exact Or.inr (Or.inl g); rw [g]; exact (rd_in hv.1).2.2.2.2.2.2.2.2.2.1; rw [g]; exact (rd_in hv.1).2.2.2.2.2.2.2.2.2.2.2)), f2, f3⟩
      cases R with
      | inr q => exact ⟨f4, fr⟩
      | inl q =>
        obtain ⟨a1, a2, a3, a4, a5⟩ := s1
        revert f4
        show ruP b L (sr c 3) S (if sgP b L q.1 59 then .inl (tto b L q.1, q.2) else .inr (1, iN (tfr b L q.1))) T → lnC b L c S (rlO V A false (if sgP b L q.1 59 then .inl (tto b L q.1, q.2) else .inr (1, iN (tfr b L q.1)))) T
        by_cases g : sgP b L q.1 59
        · rw [if_pos g]
          intro f4
          exact ⟨f4.1, CV_frost hv ⟨ok_of a4, by show q.2.length ≤ 700; omega⟩ f1 f3 f4.2.1 f4.2.2.1 f4.2.2.2, fr⟩
        · rw [if_neg g]
          intro f4
          exact ⟨f4, fr⟩
    · obtain ⟨g1, g2, g3, g4, g5, g6, g7⟩ := hv
      have hv' : MVs V A X S := ⟨g1, g2, g3, g4, g5, g6, g7⟩
      have e20 : S.1 80 21 = -1 := (RMx_n (by omega) g7).mpr e
      unfold fX12_line
      rw [M_known hN h.1, bI_s, if_neg n5, if_neg n6, if_neg n7, if_pos w8, e20, lt_b, if_pos rfl, rn_bI]
      refine rn_mono (M_beg0 hN h) (fun r hr => ?_)
      rw [hr.1, if_neg (by decide)]
      have hv1 := hv'.f89 hr.2.2
      rw [hv1.2.2.2.1]
      refine rn_u (fun U u => ?_)
      have eu : ∀ j, j ≠ 21 → U.1 80 j = r.2.1 80 j := fun j hj => by rw [u.1, upd_o hj]
      have tU : MT0 b L (tto b L p) U := ⟨hr.2.1.1.fr (fun j hj => eu j (by omega)) (u.2.1 83 (by decide)) (by rw [u.2.2]), by rw [eu 8 (by omega)]; exact hr.2.1.2.1, by rw [eu 9 (by omega)]; exact hr.2.1.2.2⟩
      refine rn_mono (M_ruleX (X := X) hN tU (by rw [eu 22 (by omega)]; exact hv1.2.2.2.1) (by rw [u.2.1 87 (by decide)]; exact hv1.2.2.2.2.1) (by omega) m1) (fun T hT => ?_)
      have FT : FMd S T := ((FMd.f89 hr.2.2).tr (FMd.u0 u (by omega))).tr (FMd.fx hT.1)
      have f4 := hT.2
      cases R with
      | inr q => exact ⟨f4, FT⟩
      | inl q =>
        obtain ⟨a1, a2, a3, a4, a5⟩ := s1
        revert f4
        show rmP b L X U (if sgP b L q.1 59 then .inl (tto b L q.1, q.2) else .inr (1, iN (tfr b L q.1))) T → lnM b L S (rlO V A false (if sgP b L q.1 59 then .inl (tto b L q.1, q.2) else .inr (1, iN (tfr b L q.1)))) T
        by_cases g : sgP b L q.1 59
        · rw [if_pos g]
          intro f4
          obtain ⟨z1, z2⟩ := sg_tk a2 g
          have ml := mcL_len q.2
          refine ⟨f4.1, ⟨X ++ (mcL q.2 ++ [0]), ?_, ?_⟩, FT⟩
          · dsimp only
            rw [List.length_append, List.length_append, List.length_singleton]
            omega
          · obtain ⟨y1, y2, y3, y4, y5, y6, y7⟩ := hv1
            have c0 : ∀ j, 19 ≤ j ∧ j ≤ 21 → T.1 80 j = U.1 80 j := fun j hj => hT.1.2.1 j (by omega)
            refine ⟨?_, ?_, ?_, f4.2.1, f4.2.2, ?_, ?_⟩
            · rw [c0 19 (by omega), eu 19 (by omega)]; exact y1
            · rw [hT.1.1 85 (by decide), hT.1.1 86 (by decide), hT.1.1 90 (by decide), u.2.1 85 (by decide), u.2.1 86 (by decide), u.2.1 90 (by decide)]; exact y2
            · rw [hT.1.1 86 (by decide), u.2.1 86 (by decide)]; exact y3
            · rw [c0 20 (by omega), eu 20 (by omega)]
              exact y6.more
            · rw [c0 21 (by omega), u.1, upd_at]
              refine ⟨⟨X, [], by simp, rfl⟩, ok_of a4, by show q.2.length ≤ 700; omega⟩
        · rw [if_neg g]
          intro f4
          exact ⟨f4, FT⟩
  · refine ⟨.inr (5, iN (tfr b L p)), by show (5 : Int32) ≠ 0; decide, fun c S h hv => ?_, fun X S hX h hv => ?_⟩
    · obtain ⟨-, -, -, -, r4, -⟩ := cvR hv.1
      have h6 := hv.2.2.2.2.2.2
      show rn (fX7_readRule N (sr c 3) S) _
      unfold fX7_readRule
      rw [gd_t (ru_ob r4).1, if_neg (fun g => e ((RU_n h6).mp g)), rn_bI]
      exact rn_mono (h.fail (by decide)) (fun r hr => by rw [rn_some]; exact ⟨hr.2.1, FRd.f12 hr.2.2.2⟩)
    · have e20 : ¬ S.1 80 21 = -1 := fun g => e ((RMx_n (by omega) hv.2.2.2.2.2.2).mp g)
      unfold fX12_line
      rw [M_known hN h.1, bI_s, if_neg n5, if_neg n6, if_neg n7, if_pos w8, if_neg e20, lt_b, rn_bI]
      refine rn_mono (M_beg5 h) (fun r hr => ?_)
      rw [hr.1, if_pos rfl]
      exact rn_mono hr.2.1.need (fun T hT => ⟨by rw [hT]; exact hr.2.1, by rw [hT]; exact FMd.f89 hr.2.2⟩)
end RLD
