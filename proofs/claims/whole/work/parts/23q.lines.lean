/-! ===== phase 2: any line, both ===== -/
section ANY
variable {N : Nat} {b : Nat → Int32} {L : Nat} {p : Nat} {V : Cv} {A : Rw}
theorem pip_W {q3 d : Nat} {x y : Int32} (hw : WV V A) (hd : d < V.1) (hx : ∃ e, x = iN e ∧ d < e ∧ e < V.1) (hy : y = -1 ∨ ∃ e, y = iN e ∧ d < e ∧ e < V.1 ∧ x ≠ y) : WV V (u2 (u2 A 2 d x) 3 d y) := by
  obtain ⟨w1, w2, w3, w4, w5, w6⟩ := hw
  have hn := w1.1
  have eA : ∀ k, k ≠ 2 → k ≠ 3 → (u2 (u2 A 2 d x) 3 d y) k = A k := fun k h2 h3 => by rw [u2_o h3, u2_o h2]
  have e2 : (u2 (u2 A 2 d x) 3 d y) 2 = upd (A 2) d x := by rw [u2_o (by decide), u2_at]
  have e3 : (u2 (u2 A 2 d x) 3 d y) 3 = upd (A 3) d y := by rw [u2_at, u2_o (by decide)]
  refine ⟨⟨hn, fun k hk => ?_⟩, w2, by rw [eA 7 (by decide) (by decide)]; exact w3, fun k hk => by rw [eA 4 (by decide) (by decide), eA 5 (by decide) (by decide), eA 6 (by decide) (by decide)]; exact w4 k hk, w5, w6⟩
  obtain ⟨h0, h1, h2, h3, h4, h5, h6, h7⟩ := w1.2 k hk
  unfold WR
  rw [eA 0 (by decide) (by decide), eA 1 (by decide) (by decide), e2, e3, eA 4 (by decide) (by decide), eA 5 (by decide) (by decide), eA 6 (by decide) (by decide)]
  by_cases ek : k = d
  · rw [ek, upd_at, upd_at]
    rw [ek] at h0 h1 h4 h5 h6
    obtain ⟨e, ee, e1, e2'⟩ := hx
    refine ⟨h0, h1, Or.inr ⟨e, ee, e1, e2'⟩, ?_, h4, h5, h6, fun g => by omega⟩
    rcases hy with g | ⟨g, g1, g2, g3, g4⟩
    · exact Or.inl g
    · exact Or.inr ⟨g, g1, g2, g3, g4, by rw [ee]; exact iN_n1 (by omega)⟩
  · rw [upd_o ek, upd_o ek]
    exact ⟨h0, h1, h2, h3, h4, h5, h6, h7⟩
theorem pipE_o {q3 d : Nat} {x y : Int32} (hq : p < q3) (hq3 : q3 ≤ L) (hw : WV V (u2 (u2 A 2 d x) 3 d y)) : outOK L p (pipE b L q3 d V A x y) := by
  unfold pipE
  by_cases e : sgP b L q3 59
  · rw [if_pos e]
    obtain ⟨t1, t2⟩ := sg_tk hq3 e
    exact ⟨hw, by dsimp only; omega, t2⟩
  · rw [if_neg e]
    show (1 : Int32) ≠ 0
    decide
theorem pip_o {q0 : Nat} (hw : WV V A) (hq : p < q0) (hq0 : q0 ≤ L) : outOK L p (pipR b L q0 V A) := by
  have hn := hw.1.1
  have z4 : (4 : Int32) ≠ 0 := by decide
  unfold pipR
  by_cases k0 : cuOK b L q0 V.1
  · rw [if_pos k0]
    obtain ⟨d, hd, ed⟩ := cu_n hq0 hn k0
    have xd : ix (tvl b L q0) = d := by rw [ed]; exact ix_iN (by omega)
    rw [xd]
    by_cases a2 : A 2 d = -1
    · rw [if_pos a2]
      have t0 := tto_le (b := b) hq0
      have f0 := tfr_le (b := b) hq0
      unfold pip1
      by_cases k1 : cuOK b L (tto b L q0) V.1
      · rw [if_pos k1]
        by_cases c1 : tvl b L (tto b L q0) ≤ iN d
        · rw [if_pos c1]; exact z4
        · rw [if_neg c1]
          obtain ⟨d1, hd1, ed1⟩ := cu_n t0.2.1 hn k1
          have l1 : d < d1 := by
            rw [ed1, iN_le (by omega) (by omega)] at c1
            omega
          have t1 := tto_le (b := b) t0.2.1
          have f1 := tfr_le (b := b) t0.2.1
          unfold pip2
          by_cases k2 : tkd b L (tto b L (tto b L q0)) = 2
          · rw [if_pos k2]
            by_cases j1 : cuOK b L (tto b L (tto b L q0)) V.1
            · rw [if_pos j1]
              by_cases c2 : tvl b L (tto b L (tto b L q0)) ≤ iN d ∨ tvl b L (tto b L (tto b L q0)) = tvl b L (tto b L q0)
              · rw [if_pos c2]; exact z4
              · rw [if_neg c2]
                obtain ⟨d2, hd2, ed2⟩ := cu_n t1.2.1 hn j1
                have l2 : d < d2 := by
                  have g : ¬ tvl b L (tto b L (tto b L q0)) ≤ iN d := fun g => c2 (Or.inl g)
                  rw [ed2, iN_le (by omega) (by omega)] at g
                  omega
                have t2 := tto_le (b := b) t1.2.1
                have f2 := tfr_le (b := b) t1.2.1
                exact pipE_o (by omega) t2.2.1 (pip_W (q3 := 0) hw hd ⟨d1, ed1, l1, hd1⟩ (Or.inr ⟨d2, ed2, l2, hd2, fun g => c2 (Or.inr g.symm)⟩))
            · rw [if_neg j1]; exact cuF_0
          · rw [if_neg k2]
            exact pipE_o (by omega) t1.2.1 (pip_W (q3 := 0) hw hd ⟨d1, ed1, l1, hd1⟩ (Or.inl rfl))
      · rw [if_neg k1]; exact cuF_0
    · rw [if_neg a2]; exact z4
  · rw [if_neg k0]; exact cuF_0
/-- the class's line, by its first word -/
def lnP (N c : Nat) (S : PS) : Option PS :=
  bI (fX10_isWord N 0 S) fun x14 S15 => (if x14 = 0 then bI (fX10_isWord N 1 S15) fun x18 S19 => (if x18 = 0 then bI (fX10_isWord N 2 S19) fun x22 S23 => (if x22 = 0 then bI (fX10_isWord N 11 S23) fun x26 S27 => (if x26 = 0 then bI (fX7_fail N 1 S27) fun _ S31 => some S31 else fX7_readRule N (sr c 3) S27) else fX7_readRule N (sr c 2) S23) else fX7_readPipe N S19) else fX7_readCup N S15)
theorem any_line (hN : 30000 ≤ N) (hL : L ≤ 700) (hp : p ≤ L) (hw : WV V A) (hk : ¬ tkd b L p = 0) : ∃ out, LineOK N b L p V A (fun c S => lnP N c S) out := by
  have hn := hw.1.1
  have t := tto_le (b := b) hp
  have tf := tfr_le (b := b) hp
  have tl := t.2.2 hk
  have wd : ∀ S, TC b L p S → ∀ k, k < 12 → fX10_isWord N k S = some ((if wdP b L p k then 1 else 0), S) := fun S h k hk => C_isWd hN hk h.1
  by_cases w5 : wI b L p = 5
  · have d0 : wdP b L p 0 := (wI_k (k := 5) (by omega)).mp w5
    refine ⟨cupR b L p V A, ?_, fun c S h hv => ?_, fun X S hX h hv => M_cupL hN hw hX h hv w5⟩
    · cases e : cupR b L p V A with
      | inl q => exact cup_WV hp hw d0.1 e
      | inr q =>
        show q.1 ≠ 0
        revert e
        unfold cupR
        intro e
        by_cases e9 : V.1 < 9
        · rw [if_pos e9] at e
          by_cases o1 : numOK b L (tto b L p) 1 30
          · rw [if_pos o1] at e
            by_cases o2 : numOK b L (tto b L (tto b L p)) 0 (tvl b L (tto b L p) - 1)
            · rw [if_pos o2] at e
              by_cases o3 : numOK b L (tto b L (tto b L (tto b L p))) 0 20
              · rw [if_pos o3] at e
                by_cases o4 : sgP b L (tto b L (tto b L (tto b L (tto b L p)))) 59
                · rw [if_pos o4] at e; cases e
                · rw [if_neg o4] at e; cases e; show (1 : Int32) ≠ 0; decide
              · rw [if_neg o3] at e; cases e; exact numF_0
            · rw [if_neg o2] at e; cases e; exact numF_0
          · rw [if_neg o1] at e; cases e; exact numF_0
        · rw [if_neg e9] at e; cases e; show (2 : Int32) ≠ 0; decide
    · show rn (lnP N c S) _
      unfold lnP
      rw [wd S h 0 (by omega), if_pos d0, bI_s, if_neg (by decide)]
      exact C_cupL hN hn h hv
  · have n0 : ¬ wdP b L p 0 := fun g => w5 ((wI_k (k := 5) (by omega)).mpr g)
    by_cases w6 : wI b L p = 6
    · have d1 : wdP b L p 1 := (wI_k (k := 6) (by omega)).mp w6
      refine ⟨pipR b L (tto b L p) V A, pip_o hw (by omega) t.2.1, fun c S h hv => ?_, fun X S hX h hv => M_pipL hN hw hp hX h hv w6⟩
      show rn (lnP N c S) _
      unfold lnP
      rw [wd S h 0 (by omega), if_neg n0, bI_s, if_pos rfl, wd S h 1 (by omega), if_pos d1, bI_s, if_neg (by decide)]
      exact C_pipL hN hw h hv
    · have n1 : ¬ wdP b L p 1 := fun g => w6 ((wI_k (k := 6) (by omega)).mpr g)
      by_cases w7 : wI b L p = 7
      · have d2 : wdP b L p 2 := (wI_k (k := 7) (by omega)).mp w7
        obtain ⟨out, o1, o2, o3⟩ := leak_line (N := N) hN hL hp hw w7 d2.1
        refine ⟨out, o1, fun c S h hv => ?_, o3⟩
        show rn (lnP N c S) _
        unfold lnP
        rw [wd S h 0 (by omega), if_neg n0, bI_s, if_pos rfl, wd S h 1 (by omega), if_neg n1, bI_s, if_pos rfl, wd S h 2 (by omega), if_pos d2, bI_s, if_neg (by decide)]
        exact o2 c S h hv
      · have n2 : ¬ wdP b L p 2 := fun g => w7 ((wI_k (k := 7) (by omega)).mpr g)
        by_cases w8 : wI b L p = 8
        · have d3 : wdP b L p 11 := (wI_k (k := 8) (by omega)).mp w8
          obtain ⟨out, o1, o2, o3⟩ := frost_line (N := N) hN hL hp hw w8 d3.1
          refine ⟨out, o1, fun c S h hv => ?_, o3⟩
          show rn (lnP N c S) _
          unfold lnP
          rw [wd S h 0 (by omega), if_neg n0, bI_s, if_pos rfl, wd S h 1 (by omega), if_neg n1, bI_s, if_pos rfl, wd S h 2 (by omega), if_neg n2, bI_s, if_pos rfl, wd S h 11 (by omega), if_pos d3, bI_s, if_neg (by decide)]
          exact o2 c S h hv
        · have n3 : ¬ wdP b L p 11 := fun g => w8 ((wI_k (k := 8) (by omega)).mpr g)
          refine ⟨.inr (1, iN (tfr b L p)), by show (1 : Int32) ≠ 0; decide, fun c S h hv => ?_, fun X S hX h hv => ?_⟩
          · show rn (lnP N c S) _
            unfold lnP
            rw [wd S h 0 (by omega), if_neg n0, bI_s, if_pos rfl, wd S h 1 (by omega), if_neg n1, bI_s, if_pos rfl, wd S h 2 (by omega), if_neg n2, bI_s, if_pos rfl, wd S h 11 (by omega), if_neg n3, bI_s, if_pos rfl, rn_bI]
            exact rn_mono (h.fail (by decide)) (fun r hr => by rw [rn_some]; exact ⟨hr.2.1, FRd.f12 hr.2.2.2⟩)
          · unfold fX12_line
            rw [M_known hN h.1, bI_s, if_neg w5, if_neg w6, if_neg w7, if_neg w8, rn_bV]
            refine rn_mono (h.wrong (by decide)) (fun T hT => ?_)
            exact M_tailF hT.1 (FMd.f89 hT.2)
end ANY
