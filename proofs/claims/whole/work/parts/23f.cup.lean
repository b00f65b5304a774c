/-! ===== phase 2: the line of a cup, both ===== -/
section CPB
variable {N : Nat} {b : Nat → Int32} {L : Nat} {p : Nat} {V : Cv} {A : Rw} {X : List Int32} {S : PS}
theorem M_beg0 (hN : 30000 ≤ N) (h : MT0 b L p S) : rn (fX12_begins N 0 0 S) (fun r => r.1 = 1 ∧ MT0 b L (tto b L p) r.2 ∧ F89 S r.2) := by
  unfold fX12_begins
  rw [if_pos rfl, if_pos rfl, h.good, bI_s, if_neg (by decide), rn_bV]
  exact rn_mono (h.go hN) (fun T hT => by rw [rn_some]; exact ⟨rfl, hT.1, hT.2⟩)
theorem M_beg1 (h : MT0 b L p S) : rn (fX12_begins N 1 0 S) (fun r => r.1 = 0 ∧ MF0 b L 2 (iN (tfr b L p)) r.2 ∧ F89 S r.2) := by
  unfold fX12_begins
  rw [if_neg (by decide), rn_bV]
  refine rn_mono (h.wrong (by decide)) (fun T hT => ?_)
  rw [if_pos rfl, hT.1.bad, bI_s, if_pos rfl, rn_some]
  exact ⟨rfl, hT.1, hT.2⟩
theorem M_beg5 (h : MT0 b L p S) : rn (fX12_begins N 0 1 S) (fun r => r.1 = 0 ∧ MF0 b L 5 (iN (tfr b L p)) r.2 ∧ F89 S r.2) := by
  unfold fX12_begins
  rw [if_pos rfl, if_neg (by decide), rn_bV]
  refine rn_mono (h.wrong (by decide)) (fun T hT => ?_)
  rw [hT.1.bad, bI_s, if_pos rfl, rn_some]
  exact ⟨rfl, hT.1, hT.2⟩
theorem M_cupL (hN : 30000 ≤ N) (hw : WV V A) (hX : X.length ≤ 2 * p) (h : MT0 b L p S) (hv : MVs V A X S) (w5 : wI b L p = 5) : rn (fX12_line N S) (lnM b L S (cupR b L p V A)) := by
  have hn := hw.1.1
  have hp := h.1.2.1
  unfold fX12_line cupR
  rw [M_known hN h.1, bI_s, if_pos w5, hv.1, lt_b]
  by_cases e9 : V.1 < 9
  · rw [if_neg (by rw [show (9 : Int32) = iN 9 from rfl, iN_eq (by omega) (by omega)]; omega), if_pos e9, rn_bI]
    refine rn_mono (M_beg0 hN h) (fun r hr => ?_)
    rw [hr.1, if_neg (by decide), rn_bV]
    have wz := (hw.1.2 V.1 e9).2.2.2.2.2.2.2 (Nat.le_refl _)
    have tp := tto_le (b := b) hp
    have tf := tfr_le (b := b) hp
    refine rn_mono (M_cupR (X := X) hN e9 (by omega) hr.2.1 (hv.f89 hr.2.2) ⟨wz.2.2.1, wz.2.2.2.1⟩) (fun U hU => ?_)
    obtain ⟨u0, u1, u2, u3, u4⟩ := hU
    have FU := (FMd.f89 hr.2.2).tr u0
    have bad : ∀ f pl, MF0 b L f pl U → rn (bI (fX12_isSign N 59 U) fun x95 S96 => bV (fX12_need N x95 S96) fun S99 => some S99) (lnM b L S (.inr (f, pl))) := fun f pl hf => rn_mono hf.need (fun T hT => ⟨by rw [hT]; exact hf, by rw [hT]; exact FU⟩)
    by_cases o1 : numOK b L (tto b L p) 1 30
    · rw [if_pos o1]
      by_cases o2 : numOK b L (tto b L (tto b L p)) 0 (tvl b L (tto b L p) - 1)
      · rw [if_pos o2]
        by_cases o3 : numOK b L (tto b L (tto b L (tto b L p))) 0 20
        · rw [if_pos o3]
          obtain ⟨t4, v4⟩ := u4 o1 o2 o3
          refine rn_mono (t4.need hN) (fun T hT => ?_)
          by_cases o4 : sgP b L (tto b L (tto b L (tto b L (tto b L p)))) 59
          · rw [if_pos o4]
            have a1 := tto_le (b := b) tp.2.1
            have b1 := tfr_le (b := b) tp.2.1
            have a2 := tto_le (b := b) a1.2.1
            have b2 := tfr_le (b := b) a1.2.1
            have a3 := tto_le (b := b) a2.2.1
            have b3 := tfr_le (b := b) a2.2.1
            have a4 := tto_le (b := b) a3.2.1
            have b4 := tfr_le (b := b) a3.2.1
            exact ⟨hT.2.1 o4, ⟨X, by dsimp only; omega, v4.f89 hT.1⟩, FU.tr (FMd.f89 hT.1)⟩
          · rw [if_neg o4]
            exact ⟨hT.2.2 o4, FU.tr (FMd.f89 hT.1)⟩
        · rw [if_neg o3]; exact bad _ _ (u3 o1 o2 o3)
      · rw [if_neg o2]; exact bad _ _ (u2 o1 o2)
    · rw [if_neg o1]; exact bad _ _ (u1 o1)
  · rw [if_pos (by rw [show (9 : Int32) = iN 9 from rfl, iN_eq (by omega) (by omega)]; omega), if_neg e9, rn_bI]
    refine rn_mono (M_beg1 h) (fun r hr => ?_)
    rw [hr.1, if_pos rfl]
    exact rn_mono hr.2.1.need (fun T hT => ⟨by rw [hT]; exact hr.2.1, by rw [hT]; exact FMd.f89 hr.2.2⟩)
/-- a cave with one more cup can be -/
theorem cup_WV {q : Nat} {V' : Cv} {A' : Rw} (hp : p ≤ L) (hw : WV V A) (k1 : tkd b L p = 1) (e : cupR b L p V A = .inl (q, V', A')) : WV V' A' ∧ p < q ∧ q ≤ L := by
  unfold cupR at e
  by_cases e9 : V.1 < 9
  · rw [if_pos e9] at e
    by_cases o1 : numOK b L (tto b L p) 1 30
    · rw [if_pos o1] at e
      by_cases o2 : numOK b L (tto b L (tto b L p)) 0 (tvl b L (tto b L p) - 1)
      · rw [if_pos o2] at e
        by_cases o3 : numOK b L (tto b L (tto b L (tto b L p))) 0 20
        · rw [if_pos o3] at e
          by_cases o4 : sgP b L (tto b L (tto b L (tto b L (tto b L p)))) 59
          · rw [if_pos o4] at e
            have tp := tto_le (b := b) hp
            have tf := tfr_le (b := b) hp
            have a1 := tto_le (b := b) tp.2.1
            have b1 := tfr_le (b := b) tp.2.1
            have a2 := tto_le (b := b) a1.2.1
            have b2 := tfr_le (b := b) a1.2.1
            have a3 := tto_le (b := b) a2.2.1
            have b3 := tfr_le (b := b) a2.2.1
            have a4 := tto_le (b := b) a3.2.1
            have b4 := tfr_le (b := b) a3.2.1
            have tl := tp.2.2 (by omega)
            injection e with e
            injection e with eq e
            injection e with eV eA
            subst eq eV eA
            refine ⟨?_, by omega, a4.2.1⟩
            obtain ⟨w1, w2, w3, w4, w5, w6⟩ := hw
            have r1 : 1 ≤ (tvl b L (tto b L p)).toInt ∧ (tvl b L (tto b L p)).toInt ≤ 30 := by
              have x1 := o1.2.2.1
              have x2 := o1.2.2.2
              rw [le_ti, o_ti] at x1
              rw [le_ti, show (30 : Int32).toInt = 30 from by decide] at x2
              exact ⟨x1, x2⟩
            have r2 : 0 ≤ (tvl b L (tto b L (tto b L p))).toInt ∧ (tvl b L (tto b L (tto b L p))).toInt < (tvl b L (tto b L p)).toInt := by
              have x1 := o2.2.2.1
              have x2 := o2.2.2.2
              rw [le_ti, z_ti] at x1
              rw [le_ti, ti_sub (by rw [o_ti]; omega) (by rw [o_ti]; omega), o_ti] at x2
              exact ⟨x1, by omega⟩
            have r3 : 0 ≤ (tvl b L (tto b L (tto b L (tto b L p)))).toInt ∧ (tvl b L (tto b L (tto b L (tto b L p)))).toInt ≤ 20 := by
              have x1 := o3.2.2.1
              have x2 := o3.2.2.2
              rw [le_ti, z_ti] at x1
              rw [le_ti, show (20 : Int32).toInt = 20 from by decide] at x2
              exact ⟨x1, x2⟩
            generalize tvl b L (tto b L p) = x at r1 r2 ⊢
            generalize tvl b L (tto b L (tto b L p)) = y at r2 ⊢
            generalize tvl b L (tto b L (tto b L (tto b L p))) = z at r3 ⊢
            have eA : ∀ k, 2 ≤ k → (u2 (u2 A 0 V.1 x) 1 V.1 y) k = A k := fun k hk => by rw [u2_o (by omega), u2_o (by omega)]
            refine ⟨⟨by show V.1 + 1 ≤ 9; omega, fun k hk => ?_⟩, fun k hk => ?_, by rw [eA 7 (by omega)]; exact w3, fun k hk => by rw [eA 4 (by omega), eA 5 (by omega), eA 6 (by omega)]; exact w4 k hk, w5, w6⟩
            · obtain ⟨h0, h1, h2, h3, h4, h5, h6, h7⟩ := w1.2 k hk
              show WR (V.1 + 1) _ k
              unfold WR
              rw [eA 2 (by omega), eA 3 (by omega), eA 4 (by omega), eA 5 (by omega), eA 6 (by omega)]
              have up2 : A 2 k = -1 ∨ ∃ d, A 2 k = iN d ∧ k < d ∧ d < V.1 + 1 := by
                rcases h2 with g | ⟨d, g, g1, g2⟩
                · exact Or.inl g
                · exact Or.inr ⟨d, g, g1, by omega⟩
              have up3 : A 3 k = -1 ∨ ∃ d, A 3 k = iN d ∧ k < d ∧ d < V.1 + 1 ∧ A 2 k ≠ A 3 k ∧ A 2 k ≠ -1 := by
                rcases h3 with g | ⟨d, g, g1, g2, g3⟩
                · exact Or.inl g
                · exact Or.inr ⟨d, g, g1, by omega, g3⟩
              by_cases ek : k = V.1
              · rw [ek, u2_a2, if_neg (by omega), u2_a2, if_pos ⟨rfl, rfl⟩, u2_a2, if_pos ⟨rfl, rfl⟩]
                rw [ek] at up2 up3 h4 h5 h6
                exact ⟨r1, r2, up2, up3, h4, h5, h6, fun g => by omega⟩
              · rw [u2_a2, if_neg (by omega), u2_a2, if_neg (by omega), u2_a2, if_neg (by omega), u2_a2, if_neg (by omega)]
                exact ⟨h0, h1, up2, up3, h4, h5, h6, fun g => h7 (by omega)⟩
            · show 0 ≤ (upd V.2.1 V.1 z k).toInt ∧ (upd V.2.1 V.1 z k).toInt ≤ 20
              by_cases ek : k = V.1
              · rw [ek, upd_at]; exact r3
              · rw [upd_o ek]; exact w2 k hk
          · rw [if_neg o4] at e; cases e
        · rw [if_neg o3] at e; cases e
      · rw [if_neg o2] at e; cases e
    · rw [if_neg o1] at e; cases e
  · rw [if_neg e9] at e; cases e
end CPB
