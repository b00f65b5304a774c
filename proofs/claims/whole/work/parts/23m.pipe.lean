/-! ===== phase 2: the line of a pipe, in the class, all of it ===== -/
section PID
variable {N : Nat} {b : Nat → Int32} {L : Nat} {q c d : Nat} {V : Cv} {A : Rw} {S : PS}
theorem lnC_f {T : PS} {out : Out} (f : F12 S T) : ∀ U, lnC b L c T out U → lnC b L c S out U := by
  intro U h
  cases out with
  | inl q => exact ⟨h.1, h.2.1, (FRd.f12 f).tr h.2.2⟩
  | inr q => exact ⟨h.1, (FRd.f12 f).tr h.2⟩
/-- the end of a line that has a fault already -/
theorem bad_lay {x y : Int32} {f pl : Int32} (tf : TF f pl S) : rn (bV (fX7_readSign N 59 S) fun S58 => (if (S58.1 1 3) = 0 then lt ((S58.2.2 1 1) : Nat) fun o61 => gd (obj o61 1) <| gd (obj (sr o61 1) 2) <| gd (arr (sr (sr o61 1) 2) 1 9) <| gd (inr (iN d) 9) <| lt ((u2 S58.1 (sr (sr o61 1) 2) (ix (iN d)) x, S58.2) : PS) fun S66 => lt ((S66.2.2 1 1) : Nat) fun o67 => gd (obj o67 1) <| gd (obj (sr o67 1) 2) <| gd (arr (sr (sr o67 1) 3) 1 9) <| gd (inr (iN d) 9) <| lt ((u2 S66.1 (sr (sr o67 1) 3) (ix (iN d)) y, S66.2) : PS) fun S72 => some S72 else some S58)) (lnC b L c S (.inr (f, pl))) := by
  rw [rn_bV, tf.sign, rn_some, if_neg (by rw [tf.1]; exact tf.2.1), rn_some]
  exact ⟨tf, FRd.rfl⟩
/-- behind the first cup of a pipe -/
def pgm2 (N d : Nat) (x17 : Int32) (S18 : PS) : Option PS :=
  (if (S18.1 2 5) = 2 then
    bI (fX7_readInto N (iN d) x17 S18) fun x54 S55 => bV (fX7_readSign N 59 S55) fun S58 => (if (S58.1 1 3) = 0 then lt ((S58.2.2 1 1) : Nat) fun o61 => gd (obj o61 1) <| gd (obj (sr o61 1) 2) <| gd (arr (sr (sr o61 1) 2) 1 9) <| gd (inr (iN d) 9) <| lt ((u2 S58.1 (sr (sr o61 1) 2) (ix (iN d)) x17, S58.2) : PS) fun S66 => lt ((S66.2.2 1 1) : Nat) fun o67 => gd (obj o67 1) <| gd (obj (sr o67 1) 2) <| gd (arr (sr (sr o67 1) 3) 1 9) <| gd (inr (iN d) 9) <| lt ((u2 S66.1 (sr (sr o67 1) 3) (ix (iN d)) x54, S66.2) : PS) fun S72 => some S72 else some S58)
  else
    bV (fX7_readSign N 59 S18) fun S39 => (if (S39.1 1 3) = 0 then lt ((S39.2.2 1 1) : Nat) fun o42 => gd (obj o42 1) <| gd (obj (sr o42 1) 2) <| gd (arr (sr (sr o42 1) 2) 1 9) <| gd (inr (iN d) 9) <| lt ((u2 S39.1 (sr (sr o42 1) 2) (ix (iN d)) x17, S39.2) : PS) fun S47 => lt ((S47.2.2 1 1) : Nat) fun o48 => gd (obj o48 1) <| gd (obj (sr o48 1) 2) <| gd (arr (sr (sr o48 1) 3) 1 9) <| gd (inr (iN d) 9) <| lt ((u2 S47.1 (sr (sr o48 1) 3) (ix (iN d)) (-1), S47.2) : PS) fun S53 => some S53 else some S39))
theorem C_pip2 {x : Int32} (hN : 30000 ≤ N) (hn : V.1 ≤ 9) (hd : d < 9) (h : TC b L q S) (hv : CVs c V A S) : rn (pgm2 N d x S) (lnC b L c S (pip2 b L q d V A x)) := by
  have kl := tkd_lt (b := b) (L := L) (p := q)
  unfold pgm2 pip2
  rw [h.1.2.2.2.2.1]
  by_cases k2 : tkd b L q = 2
  · rw [if_pos (by rw [k2]; rfl), if_pos k2, rn_bI]
    refine rn_mono (C_intoP (x := x) hN hn hd h hv) (fun r hr => ?_)
    obtain ⟨f4, y1, y2, y3⟩ := hr
    by_cases j1 : cuOK b L q V.1
    · rw [if_pos j1]
      by_cases c2 : tvl b L q ≤ iN d ∨ tvl b L q = x
      · rw [if_pos c2]
        exact rn_mono (bad_lay (y2 j1 c2).2) (lnC_f f4)
      · rw [if_neg c2]
        obtain ⟨ev4, t4⟩ := y3 j1 c2
        rw [ev4]
        exact rn_mono (C_lay (x := x) (y := tvl b L q) hN hd t4 (hv.f12 f4)) (lnC_f f4)
    · rw [if_neg j1]
      exact rn_mono (bad_lay (y1 j1).2) (lnC_f f4)
  · rw [if_neg (by rw [show (2 : Int32) = iN 2 from rfl, iN_eq (by omega) (by omega)]; exact k2), if_neg k2]
    exact C_lay (x := x) (y := -1) hN hd h hv
theorem C_pip1 (hN : 30000 ≤ N) (hn : V.1 ≤ 9) (hd : d < 9) (h : TC b L q S) (hv : CVs c V A S) : rn (bI (fX7_readInto N (iN d) (-1) S) fun x17 S18 => (if x17 = (-1) then bV (fX7_readSign N 59 S18) fun S22 => (if (S22.1 1 3) = 0 then lt ((S22.2.2 1 1) : Nat) fun o25 => gd (obj o25 1) <| gd (obj (sr o25 1) 2) <| gd (arr (sr (sr o25 1) 2) 1 9) <| gd (inr (iN d) 9) <| lt ((u2 S22.1 (sr (sr o25 1) 2) (ix (iN d)) x17, S22.2) : PS) fun S30 => lt ((S30.2.2 1 1) : Nat) fun o31 => gd (obj o31 1) <| gd (obj (sr o31 1) 2) <| gd (arr (sr (sr o31 1) 3) 1 9) <| gd (inr (iN d) 9) <| lt ((u2 S30.1 (sr (sr o31 1) 3) (ix (iN d)) (-1), S30.2) : PS) fun S36 => some S36 else some S22) else pgm2 N d x17 S18)) (lnC b L c S (pip1 b L q d V A)) := by
  unfold pip1
  rw [rn_bI]
  refine rn_mono (C_intoP (x := -1) hN hn hd h hv) (fun r hr => ?_)
  obtain ⟨f3, z1, z2, z3⟩ := hr
  by_cases k1 : cuOK b L q V.1
  · rw [if_pos k1]
    obtain ⟨d1, hd1, ed1⟩ := cu_n h.1.2.1 hn k1
    by_cases c1 : tvl b L q ≤ iN d
    · rw [if_pos c1]
      obtain ⟨ev, tf⟩ := z2 k1 (Or.inl c1)
      rw [if_pos ev]
      exact rn_mono (bad_lay tf) (lnC_f f3)
    · have nx : ¬ (tvl b L q ≤ iN d ∨ tvl b L q = -1) := fun g => by
        rcases g with g | g
        · exact c1 g
        · rw [ed1] at g; exact iN_n1 (by omega) g
      obtain ⟨ev, t3⟩ := z3 k1 nx
      rw [if_neg c1, ev, if_neg (by rw [ed1]; exact iN_n1 (by omega))]
      exact rn_mono (C_pip2 hN hn hd t3 (hv.f12 f3)) (lnC_f f3)
  · rw [if_neg k1]
    obtain ⟨ev, tf⟩ := z1 k1
    rw [if_pos ev]
    exact rn_mono (bad_lay tf) (lnC_f f3)
theorem C_pipL {p : Nat} (hN : 30000 ≤ N) (hw : WV V A) (h : TC b L p S) (hv : CVs c V A S) : rn (fX7_readPipe N S) (lnC b L c S (pipR b L (tto b L p) V A)) := by
  have hn := hw.1.1
  unfold fX7_readPipe
  rw [rn_bV]
  refine rn_mono (h.take hN) (fun S1 h1 => ?_)
  have hv1 := hv.f12 h1.2
  obtain ⟨t1, f1⟩ := h1
  clear h hw
  generalize tto b L p = q0 at t1 ⊢
  unfold pipR
  rw [rn_bI]
  refine rn_mono (C_lookC t1 hv1) (fun r hr => ?_)
  by_cases k0 : cuOK b L q0 V.1
  · obtain ⟨e1, e2⟩ := hr.2.1 k0
    obtain ⟨d, hd, ed⟩ := cu_n t1.1.2.1 hn k0
    have xd : ix (iN d) = d := ix_iN (by omega)
    have d9 : d < 9 := by omega
    have i9 : inr (iN d) 9 := inr_iN d9 (by omega)
    obtain ⟨r1, r2, -⟩ := cvR hv1.1
    rw [if_pos k0, e1, e2, ed, if_neg (iN_n1 (by omega)), xd, hv1.2.1, lt_b, gd_t r1, gd_t r2.ob, gd_t (r2.ar (k := 2) (by omega)), gd_t i9, hv1.2.2.2.2.1.1 2 (by omega) d d9]
    by_cases a2 : A 2 d = -1
    · rw [if_pos a2, if_pos a2, rn_bV]
      refine rn_mono (t1.take hN) (fun S2 h2 => ?_)
      have := C_pip1 (d := d) hN hn d9 h2.1 (hv1.f12 h2.2)
      unfold pgm2 at this
      rw [xd] at this
      exact rn_mono this (lnC_f (f1.tr h2.2))
    · rw [if_neg a2, if_neg a2, rn_bI]
      exact rn_mono (t1.fail (by decide)) (fun r hr => by rw [rn_some]; exact ⟨hr.2.1, FRd.f12 (f1.tr hr.2.2.2)⟩)
  · obtain ⟨e1, e2⟩ := hr.2.2 k0
    rw [if_neg k0, e1, if_pos rfl, rn_some]
    exact ⟨e2, FRd.f12 (f1.tr hr.1)⟩
end PID
