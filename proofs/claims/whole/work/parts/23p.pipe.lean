/-! ===== phase 2: the line of a pipe, both ===== -/
section PIB
variable {N : Nat} {b : Nat → Int32} {L : Nat} {p : Nat} {V : Cv} {A : Rw} {X : List Int32} {S : PS}
theorem M_pipL (hN : 30000 ≤ N) (hw : WV V A) (hp : p ≤ L) (hX : X.length ≤ 2 * p) (h : MT0 b L p S) (hv : MVs V A X S) (w6 : wI b L p = 6) : rn (fX12_line N S) (lnM b L S (pipR b L (tto b L p) V A)) := by
  have hn := hw.1.1
  have n5 : ¬ wI b L p = 5 := by rw [w6]; decide
  have t := tto_le (b := b) hp
  have tf := tfr_le (b := b) hp
  unfold fX12_line
  rw [M_known hN h.1, bI_s, if_neg n5, if_pos w6, rn_bI]
  refine rn_mono (M_beg0 hN h) (fun r hr => ?_)
  rw [hr.1, if_neg (by decide), rn_bV]
  have hv1 := hv.f89 hr.2.2
  have f1 : FMd S r.2 := FMd.f89 hr.2.2
  have t1 := hr.2.1
  have hX1 : X.length ≤ 2 * tto b L p := by omega
  have hq := t.2.1
  generalize tto b L p = q0 at t1 hX1 hq ⊢
  generalize r.2 = S1 at t1 hv1 f1 ⊢
  unfold fX12_readsPipe pipR
  rw [rn_bI]
  refine rn_mono (M_here (V := V) t1 hv1.1) (fun r2 hr2 => ?_)
  by_cases k0 : cuOK b L q0 V.1
  · obtain ⟨e1, e2⟩ := hr2.2.1 k0
    obtain ⟨d, hd, ed⟩ := cu_n hq hn k0
    have xd : ix (iN d) = d := ix_iN (by omega)
    have p6 := (hv1.2.1 d hd).2.2.2.2.2
    rw [if_pos k0, e1, e2, if_neg (by decide), t1.1.2.2.2.2.2.1 k0.1, ed, lt_b, gd_t (inr_iN (by omega) (by omega))]
    have e90 : S1.1 90 (ix (iN d)) = S1.1 90 d := by rw [xd]
    by_cases a2 : A 2 d = -1
    · have t2 := tto_le (b := b) hq
      have tf2 := tfr_le (b := b) hq
      rw [show A 2 (ix (iN d)) = A 2 d from by rw [xd], if_pos a2, e90, if_pos (p6.mpr a2), t1.good, bI_s, if_neg (by decide), rn_bV]
      refine rn_mono (t1.go hN) (fun Y hY => ?_)
      rw [show pip1 b L (tto b L q0) (ix (iN d)) V A = pip1 b L (tto b L q0) d V A from by rw [xd]]
      exact M_pip1 (X := X) hN hw hd a2 t2.2.1 (by omega) hY.1 (hv1.f89 hY.2) (f1.tr (FMd.f89 hY.2))
    · rw [show A 2 (ix (iN d)) = A 2 d from by rw [xd], if_neg a2, e90, if_neg (fun g => a2 (p6.mp g)), rn_bV]
      refine rn_mono (t1.wrong (by decide)) (fun T hT => ?_)
      rw [hT.1.bad, bI_s, if_pos rfl, rn_some]
      exact M_tailF hT.1 (f1.tr (FMd.f89 hT.2))
  · obtain ⟨e1, e2⟩ := hr2.2.2 k0
    rw [if_neg k0, e1, if_pos rfl, rn_some]
    exact M_tailF e2 (f1.tr (FMd.f89 hr2.1))
end PIB
