/-! ===== phase 2: a game, the rest ===== -/
theorem sub_sum (a b c d : Int32) : (a - b) + (c - d) = (a + c) - (b + d) := by
  simp only [Int32.sub_eq_add_neg, Int32.neg_add]
  ac_rfl
section Q9
variable {N : Nat} {V : Cv} {A : Rw} {S : PS}
theorem gmS_s {c o k : Nat} : gmS V A c o (k + 1) = if gnS V A c o (k / 2) (k % 2) < gnS V A c o (1 - k / 2) (k % 2) ∨ gnS V A o c (k % 2) (k / 2) < gnS V A o c (1 - k % 2) (k / 2) then gmS V A c o k
    else ((gmS V A c o k).1 + 1, if (gmS V A c o k).2 = -1 then iN (10 * (k / 2) + k % 2) else (gmS V A c o k).2) := by rw [gmS]
theorem k4 {k : Nat} (h : k < 4) : (iN k ^^^ 2 = iN (k ^^^ 2) ∧ iN k ^^^ 1 = iN (k ^^^ 1)) ∧ (k ^^^ 2 < 4 ∧ k ^^^ 1 < 4) ∧ ((k ^^^ 2) / 2 = 1 - k / 2 ∧ (k ^^^ 2) % 2 = k % 2) ∧ ((k ^^^ 1) / 2 = k / 2 ∧ (k ^^^ 1) % 2 = 1 - k % 2) ∧ ((iN k >>> ((1 : Int32) &&& 31)) * 10) + (iN k &&& 1) = iN (10 * (k / 2) + k % 2) ∧ (iN k / 2 = iN (k / 2) ∧ iN k - iN k / 2 * 2 = iN (k % 2)) ∧ ((1 : Int32) - iN (k / 2) = iN (1 - k / 2) ∧ (1 : Int32) - iN (k % 2) = iN (1 - k % 2)) ∧ (10 * iN (k / 2)) + iN (k % 2) = iN (10 * (k / 2) + k % 2) := by
  have : k = 0 ∨ k = 1 ∨ k = 2 ∨ k = 3 := by omega
  rcases this with rfl | rfl | rfl | rfl <;> decide
def aGame (V : Cv) (A : Rw) (c o w : Int32) : Int32 ⊕ String :=
  if inr c V.1 then (if inr o V.1 then (if btw w 0 1 then (if c ≠ o then (.inl (if w = 0 then (gmS V A (ix c) (ix o) 4).1 else (gmS V A (ix c) (ix o) 4).2)) else .inr nIAE) else .inr nNSE) else .inr nNSE) else .inr nNSE
theorem C_game {c o w : Int32} (q : QC N V A S) : rn (fX11_game N c o w S) (fun r => r.1 = aGame V A c o w ∧ FQ S r.2) := by
  obtain ⟨p, hp⟩ := q.2.2.2.2
  have hn := q.2.2.1.1
  have hN := q.1
  unfold aGame
  by_cases h1 : inr c V.1
  · obtain ⟨d, hd, rfl⟩ := inr_c h1
    by_cases h2 : inr o V.1
    · obtain ⟨e, he, rfl⟩ := inr_c h2
      by_cases h3 : btw w 0 1
      · by_cases h4 : iN d = iN e
        · simp only [fX11_game, nc_t hp hn hd, nc_t hp hn he, nw_t h3, bU_l, if_pos h1, if_pos h2, if_pos h3, if_pos h4, rn_some, if_neg (show ¬ iN d ≠ iN e from fun hh => hh h4)]
          first | exact ⟨trivial, FQ.rfl⟩ | exact ⟨rfl, FQ.rfl⟩
        · have x1 : ix (iN d) = d := ix_iN (by omega)
          have x2 : ix (iN e) = e := ix_iN (by omega)
          simp only [fX11_game, nc_t hp hn hd, nc_t hp hn he, nw_t h3, bU_l, if_pos h1, if_pos h2, if_pos h3, if_neg h4, if_pos (show iN d ≠ iN e from h4), rn_bV, rn_bT, rn_lt, rn_some, x1, x2]
          refine rn_mono (C_play q hd he) (fun U hU => ?_)
          obtain ⟨u1, ua⟩ := hU
          refine for3 (f := fun n k a b s => fX11_game_46 N (iN d) (iN e) w n a b (iN k) s) 4 (J := fun k a b W => a = (gmS V A d e k).1 ∧ b = (gmS V A d e k).2 ∧ W = U) ?_ ?_ N 0 0 (-1) U (Nat.zero_le _) ⟨by rw [gmS], by rw [gmS], rfl⟩ (by omega)
          · rintro j a b W ⟨g1, g2, rfl⟩
            simp only [fX11_game_46]
            rw [if_pos (show (4 : Int32) ≤ iN 4 from Int32.le_refl _), rn_some]
            exact ⟨by rw [g1, g2], u1⟩
          · rintro j k a b W hk ⟨g1, g2, rfl⟩ ih
            obtain ⟨⟨t1, t2⟩, ⟨t3, t4⟩, ⟨t5, t6⟩, ⟨t7, t8⟩, t9, -⟩ := k4 hk
            have i1 : inr (iN k) 4 := inr_iN (by omega) (by omega)
            have i2 : inr (iN (k ^^^ 2)) 4 := inr_iN (by omega) (by omega)
            have i3 : inr (iN (k ^^^ 1)) 4 := inr_iN (by omega) (by omega)
            have y1 : ix (iN k) = k := ix_iN (by omega)
            have y2 : ix (iN (k ^^^ 2)) = k ^^^ 2 := ix_iN (by omega)
            have y3 : ix (iN (k ^^^ 1)) = k ^^^ 1 := ix_iN (by omega)
            have a1 := (ua k hk).1
            have a2 := (ua k hk).2
            have a3 := (ua (k ^^^ 2) t3).1
            have a4 := (ua (k ^^^ 1) t4).2
            rw [t5, t6] at a3
            rw [t7, t8] at a4
            simp only [fX11_game_46, if_neg (i4 hk), t1, t2, gd_t i1, gd_t i2, gd_t i3, y1, y2, y3, a1, a2, a3, a4, lt_b, iN_1, t9]
            have hs := gmS_s (V := V) (A := A) (c := d) (o := e) (k := k)
            rw [← g1, ← g2] at hs
            by_cases e1 : gnS V A d e (k / 2) (k % 2) < gnS V A d e (1 - k / 2) (k % 2)
            · rw [if_pos (Or.inl e1)] at hs
              rw [if_pos e1]
              exact ih _ _ _ ⟨by rw [hs]; exact g1, by rw [hs]; exact g2, rfl⟩
            · rw [if_neg e1]
              by_cases e2 : gnS V A e d (k % 2) (k / 2) < gnS V A e d (1 - k % 2) (k / 2)
              · rw [if_pos (Or.inr e2)] at hs
                rw [if_pos e2]
                exact ih _ _ _ ⟨by rw [hs]; exact g1, by rw [hs]; exact g2, rfl⟩
              · rw [if_neg (fun hh => hh.elim e1 e2)] at hs
                rw [if_neg e2]
                by_cases e3 : b = -1
                · rw [if_pos e3] at hs ⊢
                  exact ih _ _ _ ⟨by rw [hs], by rw [hs], rfl⟩
                · rw [if_neg e3] at hs ⊢
                  exact ih _ _ _ ⟨by rw [hs], by rw [hs], rfl⟩
      · simp only [fX11_game, nc_t hp hn hd, nc_t hp hn he, nw_f h3, bU_l, bU_r, if_pos h1, if_pos h2, if_neg h3, rn_some]
        first | exact ⟨trivial, FQ.rfl⟩ | exact ⟨rfl, FQ.rfl⟩
    · simp only [fX11_game, nc_t hp hn hd, nc_f hp hn h2, bU_l, bU_r, if_pos h1, if_neg h2, rn_some]
      first | exact ⟨trivial, FQ.rfl⟩ | exact ⟨rfl, FQ.rfl⟩
  · simp only [fX11_game, nc_f hp hn h1, bU_r, if_neg h1, rn_some]
    first | exact ⟨trivial, FQ.rfl⟩ | exact ⟨rfl, FQ.rfl⟩
theorem M_gl {B : Rw} {c o x y : Nat} {v3 v4 : Int32} {T U : PS} (hN : 30000 ≤ N) (hs : SPR V.2.1) (hw : WF V.1 B) (hn : V.1 ≤ 9) (hc : c < V.1) (ho : o < V.1) (hT : TM V B 0 U) (hF : FH 64 T U) : rn (fX12_gains_41 N (iN c) (iN o) v3 v4 N 0 0 U) (fun q => q.1 = smT V B (fun _ => 0) 12 c - smT V B (fun _ => 0) 12 o ∧ FH 64 T q.2.2) := by
  have i1 : inr (iN c) 9 := inr_iN (by omega) (by omega)
  have i2 : inr (iN o) 9 := inr_iN (by omega) (by omega)
  have x1 : ix (iN c) = c := ix_iN (by omega)
  have x2 : ix (iN o) = o := ix_iN (by omega)
  refine for2 (f := fun n k a s => fX12_gains_41 N (iN c) (iN o) v3 v4 n a (iN k) s) 12 (J := fun k a W => a = smT V B (fun _ => 0) k c - smT V B (fun _ => 0) k o ∧ TM V B k W ∧ FH 64 T W) ?_ ?_ N 0 0 U (Nat.zero_le _) ⟨by rw [smT, smT]; rfl, hT, hF⟩ (by omega)
  · rintro j a W ⟨g1, g2, g3⟩
    simp only [fX12_gains_41]
    rw [if_pos (show (12 : Int32) ≤ iN 12 from Int32.le_refl _), rn_some]
    exact ⟨g1, g3⟩
  · rintro j k a W hk ⟨g1, g2, g3⟩ ih
    have hii : ¬ (12 : Int32) ≤ iN k := by
      have : (12 : Int32) = iN 12 := rfl
      rw [this, iN_le (by omega) (by omega)]; omega
    simp only [fX12_gains_41, if_neg hii, rn_bV]
    refine rn_mono (M_step hN hs hw g2) (fun Y hY => ?_)
    simp only [gd_t i1, gd_t i2, rn_lt, x1, x2, iN_1]
    refine ih _ Y ⟨?_, hY.1, g3.tr hY.2.2⟩
    rw [smT_s, smT_s, (hY.2.1.2.1 c hc).2, (hY.2.1.2.1 o ho).2, g1, sub_sum]
theorem M_gains {c o x y : Nat} {T : PS} (q : QM N V A T) (hc : c < V.1) (ho : o < V.1) (hx : x ≤ 1) (hy : y ≤ 1) : rn (fX12_gains N (iN c) (iN o) (iN x) (iN y) T) (fun r => r.1 = gnS V A c o x y ∧ FH 64 T r.2) := by
  have hn := q.2.2.1.1
  have hN := q.1
  have o1 : (119 : Int32) + iN c = iN (64 + 55 + c) := iN_add 119 c
  have o2 : (119 : Int32) + iN o = iN (64 + 55 + o) := iN_add 119 o
  have i1 : inr (iN (64 + 55 + c)) 128 := inr_iN (by omega) (by omega)
  have i2 : inr (iN (64 + 55 + o)) 128 := inr_iN (by omega) (by omega)
  have x1 : ix (iN (64 + 55 + c)) = 64 + 55 + c := ix_iN (by omega)
  have x2 : ix (iN (64 + 55 + o)) = 64 + 55 + o := ix_iN (by omega)
  have hgw : WF V.1 (gR A c o x y) := gR_WF q.2.2.1 hc ho
  unfold fX12_gains
  rw [rn_bV]
  refine rn_mono q.tries (fun U hU => ?_)
  have fin : ∀ U2, MR 64 V.1 (gR A c o x y) U2 → FH 64 U U2 → rn (bT (fX12_gains_41 N (iN c) (iN o) (iN x) (iN y) N 0 0 U2) fun q39 => lt (q39.1 : Int32) fun x40 => lt (q39.2.1 : Int32) fun x41 => lt (q39.2.2 : PS) fun S42 => some (((x40 / 2) - iN x), S42)) (fun r => r.1 = gnS V A c o x y ∧ FH 64 T r.2) := by
    intro U2 h1 h2
    simp only [rn_bT, rn_lt, rn_some]
    refine rn_mono (M_gl (x := x) (y := y) hN q.2.1 hgw hn hc ho ⟨h1, hU.1.2.fh h2⟩ (hU.2.tr h2)) (fun r hr => ⟨?_, hr.2⟩)
    rw [hr.1]
    rfl
  have hx' : x = 0 ∨ x = 1 := by omega
  have hy' : y = 0 ∨ y = 1 := by omega
  rcases hx' with rfl | rfl <;> rcases hy' with rfl | rfl
  · rw [if_neg (by decide), if_neg (by decide)]
    exact fin U (by unfold gR; rw [if_neg (by decide), if_neg (by decide)]; exact hU.1.1) FH.rfl
  · rw [if_neg (by decide), if_pos (by decide), o2, gd_t i2, x2, lt_b]
    exact fin _ (by unfold gR; rw [if_pos rfl, if_neg (by decide)]; exact hU.1.1.u5 hn ho) (FH.rfl.r (by omega) (by omega))
  · rw [if_pos (by decide), o1, gd_t i1, x1, lt_b, if_neg (by decide)]
    exact fin _ (by unfold gR; rw [if_neg (by decide), if_pos rfl]; exact hU.1.1.u5 hn hc) (FH.rfl.r (by omega) (by omega))
  · rw [if_pos (by decide), o1, gd_t i1, x1, lt_b, if_pos (by decide), o2, gd_t i2, x2, lt_b]
    exact fin _ (by unfold gR; rw [if_pos rfl, if_pos rfl]; exact (hU.1.1.u5 hn hc).u5 hn ho) ((FH.rfl.r (by omega) (by omega)).r (by omega) (by omega))
theorem M_game {c o w : Int32} (q : QM N V A S) : rn (fX12_game N c o w S) (fun r => MA k2 (aGame V A c o w) r.1 (r.2.1 80 0) ∧ FP S r.2) := by
  have hn := q.2.2.1.1
  have hN := q.1
  have q0 := q.fp (zFP (k := 0))
  have hF := zFP (S := S) (k := 0)
  have h80 := q0.2.2.2.2.1
  have hz := z0 (S := S)
  unfold aGame
  by_cases h1 : inr c V.1
  · obtain ⟨d, hd, rfl⟩ := inr_c h1
    by_cases h2 : inr o V.1
    · obtain ⟨e, he, rfl⟩ := inr_c h2
      by_cases h3 : btw w 0 1
      · by_cases h4 : iN d = iN e
        · simp only [fX12_game, rn_lt, ic_t hz hn h80 hd, ic_t hz hn h80 he, iw_t hz h3, bI_s, if_pos h1, if_pos h2, if_pos h3, if_pos h4, if_neg (show ¬ iN d ≠ iN e from fun hh => hh h4), rt_f hz (show (2 : Int32) ≠ 0 by decide), rn_some, show ¬ ((1 : Int32) = 0) from by decide, if_false, if_true]
          exact ⟨by show u2 _ 80 0 _ 80 0 = _; rw [u2_at, upd_at]; decide, hF.tr zFP⟩
        · have x1 : ix (iN d) = d := ix_iN (by omega)
          have x2 : ix (iN e) = e := ix_iN (by omega)
          simp only [fX12_game, rn_lt, ic_t hz hn h80 hd, ic_t hz hn h80 he, iw_t hz h3, bI_s, if_pos h1, if_pos h2, if_pos h3, if_neg h4, if_pos (show iN d ≠ iN e from h4), rt_t hz (show (1 : Int32) ≠ 0 by decide), show ¬ ((1 : Int32) = 0) from by decide, if_false, rn_bT, rn_some, x1, x2]
          refine for3 (f := fun n k a b s => fX12_game_59 N (iN d) (iN e) w n a b (iN k) s) 4 (J := fun k a b W => a = (gmS V A d e k).1 ∧ b = (gmS V A d e k).2 ∧ W.1 80 0 = 0 ∧ FP (u2 S.1 80 0 0, S.2) W) ?_ ?_ N 0 0 (-1) _ (Nat.zero_le _) ⟨by rw [gmS], by rw [gmS], hz, FP.rfl⟩ (by omega)
          · rintro j a b W ⟨g1, g2, g3, g4⟩
            simp only [fX12_game_59]
            rw [if_pos (show (4 : Int32) ≤ iN 4 from Int32.le_refl _), rn_some]
            exact ⟨⟨g3, by rw [g1, g2]⟩, hF.tr g4⟩
          · rintro j k a b W hk ⟨g1, g2, g3, g4⟩ ih
            obtain ⟨-, -, -, -, -, ⟨t1, t2⟩, ⟨t3, t4⟩, t5⟩ := k4 hk
            have qW := q0.fp g4
            simp only [fX12_game_59, if_neg (i4 hk), lt_b, t1, t2, t3, t4, t5, iN_1]
            have t2' : iN k - iN (k / 2) * 2 = iN (k % 2) := by rw [← t1]; exact t2
            simp only [t2', t4, t5]
            have hs := gmS_s (V := V) (A := A) (c := d) (o := e) (k := k)
            rw [← g1, ← g2] at hs
            rw [rn_bI]
            refine rn_mono (M_gains qW hd he (by omega) (by omega)) (fun r1 hr1 => ?_)
            have q1 := qW.fp (FP.fh hr1.2)
            rw [hr1.1, rn_bI]
            refine rn_mono (M_gains q1 hd he (by omega) (by omega)) (fun r2 hr2 => ?_)
            have q2 := q1.fp (FP.fh hr2.2)
            have f2 := hr1.2.tr hr2.2
            rw [hr2.1]
            by_cases e1 : gnS V A d e (k / 2) (k % 2) < gnS V A d e (1 - k / 2) (k % 2)
            · rw [if_pos (Or.inl e1)] at hs
              rw [if_pos e1]
              exact ih _ _ _ ⟨by rw [hs]; exact g1, by rw [hs]; exact g2, f2.t0.trans g3, g4.tr (FP.fh f2)⟩
            · rw [if_neg e1, rn_bI]
              refine rn_mono (M_gains q2 he hd (by omega) (by omega)) (fun r3 hr3 => ?_)
              have q3 := q2.fp (FP.fh hr3.2)
              rw [hr3.1, rn_bI]
              refine rn_mono (M_gains q3 he hd (by omega) (by omega)) (fun r4 hr4 => ?_)
              have f4 := (f2.tr hr3.2).tr hr4.2
              rw [hr4.1]
              by_cases e2 : gnS V A e d (k % 2) (k / 2) < gnS V A e d (1 - k % 2) (k / 2)
              · rw [if_pos (Or.inr e2)] at hs
                rw [if_neg (Int32.not_le.mpr e2)]
                exact ih _ _ _ ⟨by rw [hs]; exact g1, by rw [hs]; exact g2, f4.t0.trans g3, g4.tr (FP.fh f4)⟩
              · rw [if_neg (fun hh => hh.elim e1 e2)] at hs
                rw [if_pos (Int32.not_lt.mp e2)]
                by_cases e3 : b = -1
                · rw [if_pos e3] at hs ⊢
                  exact ih _ _ _ ⟨by rw [hs], by rw [hs], f4.t0.trans g3, g4.tr (FP.fh f4)⟩
                · rw [if_neg e3] at hs ⊢
                  exact ih _ _ _ ⟨by rw [hs], by rw [hs], f4.t0.trans g3, g4.tr (FP.fh f4)⟩
      · simp only [fX12_game, rn_lt, ic_t hz hn h80 hd, ic_t hz hn h80 he, iw_f hz h3, bI_s, if_pos h1, if_pos h2, if_neg h3, rn_some, show ¬ ((1 : Int32) = 0) from by decide, if_false, if_true]
        exact ⟨by show u2 _ 80 0 _ 80 0 = _; rw [u2_at, upd_at]; decide, hF.tr zFP⟩
    · simp only [fX12_game, rn_lt, ic_t hz hn h80 hd, ic_f hz hn h80 h2, bI_s, if_pos h1, if_neg h2, rn_some, show ¬ ((1 : Int32) = 0) from by decide, if_false, if_true]
      exact ⟨by show u2 _ 80 0 _ 80 0 = _; rw [u2_at, upd_at]; decide, hF.tr zFP⟩
  · simp only [fX12_game, rn_lt, ic_f hz hn h80 h1, bI_s, if_neg h1, rn_some, if_true]
    exact ⟨by show u2 _ 80 0 _ 80 0 = _; rw [u2_at, upd_at]; decide, hF.tr zFP⟩
end Q9
