/-! ===== phase 2: the line of a pipe, in the model, all of it ===== -/
section PIN
variable {N : Nat} {b : Nat → Int32} {L : Nat} {q d : Nat} {V : Cv} {A : Rw} {X : List Int32} {S S0 : PS}
theorem M_tailF {f pl : Int32} (h : MF0 b L f pl S) (f0 : FMd S0 S) : rn (bI (fX12_isSign N 59 S) fun x95 S96 => bV (fX12_need N x95 S96) fun S99 => some S99) (lnM b L S0 (.inr (f, pl))) :=
  rn_mono h.need (fun T hT => ⟨by rw [hT]; exact h, by rw [hT]; exact f0⟩)
theorem M_tailE (hN : 30000 ≤ N) (hq : q ≤ L) (h : MT0 b L q S) (hX : X.length ≤ 2 * q) (hv : MVs V A X S) (f0 : FMd S0 S) : rn (bI (fX12_isSign N 59 S) fun x95 S96 => bV (fX12_need N x95 S96) fun S99 => some S99) (lnM b L S0 (if sgP b L q 59 then .inl (tto b L q, V, A) else .inr (1, iN (tfr b L q)))) := by
  refine rn_mono (h.need hN) (fun T hT => ?_)
  by_cases e : sgP b L q 59
  · rw [if_pos e]
    obtain ⟨t1, t2⟩ := sg_tk hq e
    exact ⟨hT.2.1 e, ⟨X, by dsimp only; omega, hv.f89 hT.1⟩, f0.tr (FMd.f89 hT.1)⟩
  · rw [if_neg e]
    exact ⟨hT.2.2 e, f0.tr (FMd.f89 hT.1)⟩
theorem MV_pipe {x y : Int32} {T : PS} (hn : V.1 ≤ 9) (hd : d < V.1) (hx : x ≠ -1) (hv : MVs V A X S) (h80 : ∀ j, 19 ≤ j ∧ j ≤ 22 → T.1 80 j = S.1 80 j) (h85 : T.1 85 = S.1 85) (h87 : T.1 87 = S.1 87) (h90 : T.1 90 = upd (S.1 90) d 1) (h86 : ∀ j, T.1 86 j = if j = 28 + d then y else if j = 19 + d then x else S.1 86 j) : MVs V (u2 (u2 A 2 d x) 3 d y) X T := by
  obtain ⟨g1, g2, g3, g4, g5, g6, g7⟩ := hv
  refine ⟨by rw [h80 19 (by omega)]; exact g1, fun k hk => ?_, ⟨by rw [h86, if_neg (by omega), if_neg (by omega)]; exact g3.1, fun k hk => ?_⟩, by rw [h80 22 (by omega)]; exact g4, by rw [h87]; exact g5, by rw [h80 20 (by omega)]; exact g6, by rw [h80 21 (by omega)]; exact g7⟩
  · obtain ⟨p1, p2, p3, p4, p5, p6⟩ := g2 k hk
    have e0 : (u2 (u2 A 2 d x) 3 d y) 0 = A 0 := by rw [u2_o (by decide), u2_o (by decide)]
    have e1 : (u2 (u2 A 2 d x) 3 d y) 1 = A 1 := by rw [u2_o (by decide), u2_o (by decide)]
    have e2 : (u2 (u2 A 2 d x) 3 d y) 2 = upd (A 2) d x := by rw [u2_o (by decide), u2_at]
    have e3 : (u2 (u2 A 2 d x) 3 d y) 3 = upd (A 3) d y := by rw [u2_at, u2_o (by decide)]
    rw [e0, e1, e2, e3, h85, h90]
    refine ⟨p1, by rw [h86, if_neg (by omega), if_neg (by omega)]; exact p2, by rw [h86, if_neg (by omega), if_neg (by omega)]; exact p3, ?_, ?_, ?_⟩
    · by_cases ek : k = d
      · rw [ek, upd_at, h86, if_neg (by omega), if_pos rfl]
      · rw [upd_o ek, h86, if_neg (by omega), if_neg (by omega)]; exact p4
    · by_cases ek : k = d
      · rw [ek, upd_at, h86, if_pos rfl]
      · rw [upd_o ek, h86, if_neg (by omega), if_neg (by omega)]; exact p5
    · by_cases ek : k = d
      · rw [ek, upd_at, upd_at]
        exact ⟨fun g => absurd g (by decide), fun g => absurd g hx⟩
      · rw [upd_o ek, upd_o ek]; exact p6
  · obtain ⟨p1, p2, p3⟩ := g3.2 k hk
    rw [h86, if_neg (by omega), if_neg (by omega), h86, if_neg (by omega), if_neg (by omega), h86, if_neg (by omega), if_neg (by omega)]
    exact ⟨p1, p2, p3⟩
/-- behind the cup that the pipe is of, S at the next token -/
theorem M_pip1 {F : PS → Option PS} (hN : 30000 ≤ N) (hw : WV V A) (hd : d < V.1) (a2 : A 2 d = -1) (hq : q ≤ L) (hX : X.length ≤ 2 * q) (h : MT0 b L q S) (hv : MVs V A X S) (f0 : FMd S0 S) :
    rn (bI (fX12_isCupHere N S) fun x15 S16 => (if x15 = 0 then some S16 else (if iN d < (S16.1 80 16) then bI (fX12_isGood N S16) fun x20 S21 => (if x20 = 0 then some S21 else gd (inr (iN d) 9) <| lt ((u2 S21.1 90 (ix (iN d)) 1, S21.2) : PS) fun S25 => gd (inr (19 + iN d) 64) <| lt ((u2 S25.1 86 (ix (19 + iN d)) (S25.1 80 16), S25.2) : PS) fun S27 => bV (fX12_goes N S27) fun S29 => mpg2 N (iN d) S29) else bV (fX12_wrong N 4 S16) fun S73 => bI (fX12_isGood N S73) fun x75 S76 => (if x75 = 0 then some S76 else F S76)))) (fun T => rn (bI (fX12_isSign N 59 T) fun x95 S96 => bV (fX12_need N x95 S96) fun S99 => some S99) (lnM b L S0 (pip1 b L q d V A))) := by
  have hn := hw.1.1
  have t := tto_le (b := b) hq
  have tf := tfr_le (b := b) hq
  unfold pip1
  rw [rn_bI]
  refine rn_mono (M_here (V := V) h hv.1) (fun r hr => ?_)
  by_cases k1 : cuOK b L q V.1
  · obtain ⟨e1, e2⟩ := hr.2.1 k1
    obtain ⟨d1, hd1, ed1⟩ := cu_n hq hn k1
    rw [if_pos k1, e1, e2, if_neg (by decide), h.1.2.2.2.2.2.1 k1.1]
    by_cases c1 : tvl b L q ≤ iN d
    · rw [if_pos c1, if_neg (Int32.not_lt.mpr c1), rn_bV]
      refine rn_mono (h.wrong (by decide)) (fun T hT => ?_)
      rw [hT.1.bad, bI_s, if_pos rfl, rn_some]
      exact M_tailF hT.1 (f0.tr (FMd.f89 hT.2))
    · have o19 : (19 : Int32) + iN d = iN (19 + d) := by rw [show (19 : Int32) = iN 19 from rfl, iN_add]
      rw [if_neg c1, if_pos (Int32.not_le.mp c1), h.good, bI_s, if_neg (by decide), gd_t (inr_iN (by omega) (by omega)), ix_iN (by omega)]
      refine rn_u (fun U u => ?_)
      rw [o19, gd_t (inr_iN (by omega) (by omega)), ix_iN (by omega), show U.1 80 16 = tvl b L q from by rw [u.2.1 80 (by decide)]; exact h.1.2.2.2.2.2.1 k1.1]
      refine rn_u (fun W w => ?_)
      have fw := (FRw.ua u (by omega)).tr (FRw.ua w (by omega))
      rw [rn_bV]
      refine rn_mono ((h.rw fw).go hN) (fun Y hY => ?_)
      have y86 : Y.1 86 = upd (S.1 86) (19 + d) (tvl b L q) := by rw [hY.2.1 86 (by decide), w.1, u.2.1 86 (by decide)]
      have y90 : Y.1 90 = upd (S.1 90) d 1 := by rw [hY.2.1 90 (by decide), w.2.1 90 (by decide), u.1]
      have y80 : ∀ j, 19 ≤ j ∧ j ≤ 22 → Y.1 80 j = S.1 80 j := fun j hj => by rw [hY.2.2.1 j (by omega), w.2.1 80 (by decide), u.2.1 80 (by decide)]
      have y85 : Y.1 85 = S.1 85 := by rw [hY.2.1 85 (by decide), w.2.1 85 (by decide), u.2.1 85 (by decide)]
      have y87 : Y.1 87 = S.1 87 := by rw [hY.2.1 87 (by decide), w.2.1 87 (by decide), u.2.1 87 (by decide)]
      have fY : FMd S0 Y := (f0.tr fw.md).tr (FMd.f89 hY.2)
      have xn : tvl b L q ≠ -1 := by rw [ed1]; exact iN_n1 (by omega)
      have e86 : Y.1 86 (19 + d) = tvl b L q := by rw [y86, upd_at]
      refine rn_mono (M_pip2 (V := V) (x1 := tvl b L q) hN (show d < 9 by omega) hY.1 (by rw [y80 19 (by omega)]; exact hv.1) e86) (fun T hT => ?_)
      obtain ⟨z0, z1, z2, z3, z4⟩ := hT
      have fT := fY.tr z0
      unfold pip2
      by_cases k2 : tkd b L (tto b L q) = 2
      · rw [if_pos k2]
        by_cases j1 : cuOK b L (tto b L q) V.1
        · rw [if_pos j1]
          by_cases c2 : tvl b L (tto b L q) ≤ iN d ∨ tvl b L (tto b L q) = tvl b L q
          · rw [if_pos c2]
            exact M_tailF (z3 k2 j1 c2) fT
          · rw [if_neg c2]
            obtain ⟨y1, y2, y3, y4⟩ := z4 k2 j1 c2
            have t2 := tto_le (b := b) t.2.1
            have tf2 := tfr_le (b := b) t.2.1
            unfold pipE
            refine M_tailE hN t2.2.1 y1 (X := X) (by omega) ?_ fT
            refine MV_pipe hn hd xn hv (fun j hj => (y4 j (by omega)).trans (y80 j hj)) ((y3 85 (by decide) (by decide)).trans y85) ((y3 87 (by decide) (by decide)).trans y87) ((y3 90 (by decide) (by decide)).trans y90) (fun j => ?_)
            rw [y2, y86]
            unfold upd
            rfl
        · rw [if_neg j1]
          exact M_tailF (z2 k2 j1) fT
      · rw [if_neg k2]
        have e := z1 k2
        rw [e]
        unfold pipE
        refine M_tailE hN t.2.1 hY.1 (X := X) (by omega) ?_ fY
        refine MV_pipe hn hd xn hv y80 y85 y87 y90 (fun j => ?_)
        have a3 : A 3 d = -1 := by
          rcases (hw.1.2 d (by omega)).2.2.2.1 with g | ⟨_, _, _, _, _, g⟩
          · exact g
          · exact absurd a2 g
        rw [y86]
        unfold upd
        by_cases ej : j = 28 + d
        · rw [if_pos ej, if_neg (by omega), ej, (hv.2.1 d hd).2.2.2.2.1, a3]
        · rw [if_neg ej]
  · obtain ⟨e1, e2⟩ := hr.2.2 k1
    rw [if_neg k1, e1, if_pos rfl, rn_some]
    exact M_tailF e2 (f0.tr (FMd.f89 hr.1))
end PIN
