/-! ===== phase 2: what was heard, held against hours on trial ===== -/
theorem n01 : ¬ (0 : Int32) = 1 := by decide
theorem sr10 : sr 10 0 = 36 ∧ sr 10 1 = 37 ∧ sr 3 0 = 18 ∧ sr 3 2 = 10 := by decide
abbrev fitP (V : Cv) (B : Rw) (m : Nat) (H : Nat → Nat → Int32) (k : Nat) : Prop := ∀ i, i < m → H i 1 = iN (k + 1) → (tpK V B (k + 1) >>> (H i 0 &&& 31)) &&& 1 = H i 2
abbrev fitA (V : Cv) (B : Rw) (m : Nat) (H : Nat → Nat → Int32) : Prop := ∀ k, k < 40 → fitP V B m H k
def HCd (m : Nat) (H : Nat → Nat → Int32) (S : PS) : Prop := S.1 10 3 = iN m ∧ (∃ f, bt (S.1 10 2) f ∧ ∀ i, i < m → f i = H i 2) ∧ ∀ i, i < m → S.1 36 i = H i 0 ∧ S.1 37 i = H i 1
def HMd (m : Nat) (H : Nat → Nat → Int32) (S : PS) : Prop := S.1 80 49 = iN m ∧ ∀ i, i < m → S.1 105 (3 * i) = H i 0 ∧ S.1 105 (3 * i + 1) = H i 1 ∧ S.1 105 (3 * i + 2) = H i 2
def WH (n m : Nat) (H : Nat → Nat → Int32) : Prop := n ≤ 9 ∧ m ≤ 8 ∧ ∀ i, i < m → (∃ c, c < n ∧ H i 0 = iN c) ∧ (H i 2 = 0 ∨ H i 2 = 1)
theorem HCd.fr {m : Nat} {H : Nat → Nat → Int32} {S T : PS} (h : HCd m H S) (e : ∀ a, a = 10 ∨ a = 36 ∨ a = 37 → T.1 a = S.1 a) : HCd m H T := by
  unfold HCd
  rw [e 10 (by omega), e 36 (by omega), e 37 (by omega)]
  exact h
section AGR
variable {N n m : Nat} {H : Nat → Nat → Int32} {S : PS}
theorem C_agrees {k : Nat} {tp : Int32} {g : Nat → Int32} (hN : 30000 ≤ N) (hk : k < 2147483648) (hb : bt tp g) (hh : HCd m H S) (hw : WH n m H) :
    ∃ v, fX5_agrees N 10 (iN k) tp S = some (v, S) ∧ (v = 0 ∨ v = 1) ∧ (v = 1 ↔ ∀ i, i < m → H i 1 = iN k → (tp >>> (H i 0 &&& 31)) &&& 1 = H i 2) := by
  obtain ⟨h1, ⟨f, hf, hf2⟩, h3⟩ := hh
  obtain ⟨hn, hm, hw⟩ := hw
  have ob : obj 10 5 := ⟨rfl, by decide⟩
  have a0 : arr 36 1 8 := ⟨rfl, by decide⟩
  have a1 : arr 37 1 8 := ⟨rfl, by decide⟩
  have key : ∀ q j f', j + q = m → (∀ i, i < j → H i 1 = iN k → (tp >>> (H i 0 &&& 31)) &&& 1 = H i 2) → q < f' → ∃ t y, fX5_agrees_2 N 10 (iN k) tp f' (iN j) S = some (t, y, S) ∧ (t = 0 ↔ ∀ i, i < m → H i 1 = iN k → (tp >>> (H i 0 &&& 31)) &&& 1 = H i 2) := by
    intro q
    induction q with
    | zero =>
      intro j f' hj hi hf'
      obtain ⟨f'', rfl⟩ : ∃ f'', f' = f'' + 1 := ⟨f' - 1, by omega⟩
      have e : j = m := by omega
      subst e
      refine ⟨0, iN j, ?_, ⟨fun _ => hi, fun _ => rfl⟩⟩
      rw [fX5_agrees_2, gd_t ob, h1, if_pos (Int32.le_refl _)]
    | succ q ih =>
      intro j f' hj hi hf'
      obtain ⟨f'', rfl⟩ : ∃ f'', f' = f'' + 1 := ⟨f' - 1, by omega⟩
      have hjm : j < m := by omega
      have ij : inr (iN j) 8 := inr_iN (by omega) (by omega)
      have xj : ix (iN j) = j := ix_iN (by omega)
      rw [fX5_agrees_2, gd_t ob, h1, if_neg (by rw [iN_le (by omega) (by omega)]; omega), gd_t ob, sr10.1, sr10.2.1, gd_t a1, gd_t ij, xj, (h3 j hjm).2]
      by_cases e : H j 1 = iN k
      · obtain ⟨⟨c, hc, ec⟩, h01⟩ := hw j hjm
        have c9 : c < 9 := by omega
        rw [if_pos e, gd_t ob, gd_t a0, gd_t ij, (h3 j hjm).1, ec, has_bt hb c9, bI_s, gd_t ob, has_bt hf (show j < 9 by omega), bI_s, hf2 j hjm]
        have hbit : (tp >>> (H j 0 &&& 31)) &&& 1 = g c := by rw [ec]; exact bt_has hb c9
        by_cases e2 : g c = H j 2
        · rw [if_pos e2, lt_b, iN_1]
          refine ih (j + 1) f'' (by omega) (fun i h4 h5 => ?_) (by omega)
          by_cases ei : i = j
          · rw [ei, hbit]; exact e2
          · exact hi i (by omega) h5
        · rw [if_neg e2]
          exact ⟨1, iN j, rfl, ⟨fun q => absurd q (by decide), fun q => absurd (hbit.symm.trans (q j hjm e)) e2⟩⟩
      · rw [if_neg e, lt_b, iN_1]
        refine ih (j + 1) f'' (by omega) (fun i h4 h5 => ?_) (by omega)
        by_cases ei : i = j
        · rw [ei] at h5; exact absurd h5 e
        · exact hi i (by omega) h5
  obtain ⟨t, y, e, hi⟩ := key m 0 N (by omega) (fun i h => by omega) (by omega)
  unfold fX5_agrees
  rw [show fX5_agrees_2 N 10 (iN k) tp N 0 S = fX5_agrees_2 N 10 (iN k) tp N (iN 0) S from rfl, e]
  show ∃ v, (if t = 0 then some ((1 : Int32), S) else some (0, S)) = some (v, S) ∧ _
  by_cases e0 : t = 0
  · rw [if_pos e0]
    exact ⟨1, rfl, Or.inr rfl, ⟨fun _ => hi.mp e0, fun _ => rfl⟩⟩
  · rw [if_neg e0]
    exact ⟨0, rfl, Or.inl rfl, ⟨fun q => absurd q (by decide), fun q => absurd (hi.mpr q) e0⟩⟩
theorem M_heard28 {k : Nat} {tp : Int32} (hN : 30000 ≤ N) (ht : S.1 80 38 = tp) (hh : HMd m H S) (hw : WH n m H) :
    ∃ t y, fX12_isHeard_28 N (iN k) N 0 S = some (t, y, S) ∧ (t = 0 ↔ ∀ i, i < m → H i 1 = iN k → (tp >>> (H i 0 &&& 31)) &&& 1 = H i 2) := by
  obtain ⟨h1, h3⟩ := hh
  obtain ⟨hn, hm, hw⟩ := hw
  have key : ∀ q j f', j + q = m → (∀ i, i < j → H i 1 = iN k → (tp >>> (H i 0 &&& 31)) &&& 1 = H i 2) → q < f' → ∃ t y, fX12_isHeard_28 N (iN k) f' (iN j) S = some (t, y, S) ∧ (t = 0 ↔ ∀ i, i < m → H i 1 = iN k → (tp >>> (H i 0 &&& 31)) &&& 1 = H i 2) := by
    intro q
    induction q with
    | zero =>
      intro j f' hj hi hf'
      obtain ⟨f'', rfl⟩ : ∃ f'', f' = f'' + 1 := ⟨f' - 1, by omega⟩
      have e : j = m := by omega
      subst e
      refine ⟨0, iN j, ?_, ⟨fun _ => hi, fun _ => rfl⟩⟩
      rw [fX12_isHeard_28, h1, if_pos (Int32.le_refl _)]
    | succ q ih =>
      intro j f' hj hi hf'
      obtain ⟨f'', rfl⟩ : ∃ f'', f' = f'' + 1 := ⟨f' - 1, by omega⟩
      have hjm : j < m := by omega
      have o0 : (3 : Int32) * iN j = iN (3 * j) := iN_mul 3 j
      have o1 : iN (3 * j) + 1 = iN (3 * j + 1) := iN_add (3 * j) 1
      have o2 : iN (3 * j) + 2 = iN (3 * j + 2) := iN_add (3 * j) 2
      have i0 : inr (iN (3 * j)) 24 := inr_iN (by omega) (by omega)
      have i1 : inr (iN (3 * j + 1)) 24 := inr_iN (by omega) (by omega)
      have i2 : inr (iN (3 * j + 2)) 24 := inr_iN (by omega) (by omega)
      have x0 : ix (iN (3 * j)) = 3 * j := ix_iN (by omega)
      have x1 : ix (iN (3 * j + 1)) = 3 * j + 1 := ix_iN (by omega)
      have x2 : ix (iN (3 * j + 2)) = 3 * j + 2 := ix_iN (by omega)
      have hr := h3 j hjm
      rw [fX12_isHeard_28, h1, if_neg (by rw [iN_le (by omega) (by omega)]; omega), o0, o1, gd_t i1, x1, hr.2.1]
      by_cases e : H j 1 = iN k
      · rw [if_pos e, gd_t i0, o2, gd_t i2, x0, x2, hr.1, hr.2.2, ht]
        by_cases e2 : (tp >>> (H j 0 &&& 31)) &&& 1 = H j 2
        · rw [if_pos e2, lt_b, iN_1]
          refine ih (j + 1) f'' (by omega) (fun i h4 h5 => ?_) (by omega)
          by_cases ei : i = j
          · rw [ei]; exact e2
          · exact hi i (by omega) h5
        · rw [if_neg e2]
          exact ⟨1, iN j, rfl, ⟨fun q => absurd q (by decide), fun q => absurd (q j hjm e) e2⟩⟩
      · rw [if_neg e, lt_b, iN_1]
        refine ih (j + 1) f'' (by omega) (fun i h4 h5 => ?_) (by omega)
        by_cases ei : i = j
        · rw [ei] at h5; exact absurd h5 e
        · exact hi i (by omega) h5
  exact key m 0 N (by omega) (fun i h => by omega) (by omega)
end AGR
section FIT
variable {N m : Nat} {V : Cv} {A B : Rw} {H : Nat → Nat → Int32} {S : PS}
theorem TR.ur {T : Nat → Int32} {L : Int32} {k : Nat} {W : PS} {r : Nat → Int32} (h : TR V B T L k S) (u : UR S W 32 r) : TR V B T L k W := by
  obtain ⟨t1, t2, t3, t4, t5, p, t6⟩ := h
  refine ⟨t1.fr is20 (cs := fun a => a = 32) (fun a ha => u.2.1 a ha) (fun a ha => by unfold cuC at ha; omega), fun c hc => ?_, ?_, fun hk => ?_, ?_, p, t6.ce (fun a ha => u.2.1 a (by unfold ceC at ha; omega)) (by rw [u.2.2])⟩
  · rw [u.2.1 28 (by decide)]; exact t2 c hc
  · rw [u.2.1 5 (by decide)]; exact t3
  · rw [u.2.1 5 (by decide)]; exact t4 hk
  · rw [u.2.2]; exact t5
abbrev ftC (a : Nat) : Prop := hcC 20 a ∨ a = 32
theorem C_fits (hN : 30000 ≤ N) (hs : SPR V.2.1) (hw : WF V.1 B) (hT : TR V B (fun _ => 0) 0 0 S) (hh : HCd m H S) (hv : WH V.1 m H) :
    rn (fX9_fits N 10 S) (fun r => (r.1 = 0 ∨ r.1 = 1) ∧ (r.1 = 1 ↔ fitA V B m H) ∧ (r.1 = 1 → ∀ i, i < 40 → r.2.1 32 i = tpK V B (i + 1)) ∧ FC ftC S r.2) := by
  have ob : obj 10 5 := ⟨rfl, by decide⟩
  unfold fX9_fits
  rw [rn_bT]
  refine forG (f := fun f' j s => fX9_fits_2 N 10 f' (iN j) s) 40 (J := fun j W => TR V B (fun _ => 0) 0 j W ∧ (∀ i, i < j → W.1 32 i = tpK V B (i + 1)) ∧ (∀ k, k < j → fitP V B m H k) ∧ FC ftC S W) ?_ ?_ N 0 S (by omega) ⟨hT, fun i h => by omega, fun i h => by omega, FC.rfl⟩ (by omega)
  · rintro f' W ⟨g1, g2, g3, g4⟩
    simp only [fX9_fits_2]
    rw [if_pos (show (40 : Int32) ≤ iN 40 from Int32.le_refl _), rn_some, rn_lt, rn_lt, rn_lt, if_pos rfl, rn_some]
    exact ⟨Or.inr rfl, ⟨fun _ => g3, fun _ => rfl⟩, fun _ => g2, g4⟩
  · rintro f' j W hj ⟨g1, g2, g3, g4⟩ ih
    have ij : inr (iN j) 40 := inr_iN hj (by omega)
    have xj : ix (iN j) = j := ix_iN (by omega)
    simp only [fX9_fits_2]
    rw [if_neg (by rw [show (40 : Int32) = iN 40 from rfl, iN_le (by omega) (by omega)]; omega), rn_bV]
    have g1' := g1
    obtain ⟨t1, t2, t3, t4, t5, p, t6⟩ := g1'
    refine rn_mono (rn_and (C_step hN hs hw g1) (C_hour (w := 0) hN (by omega) is20 hs (rowK_WF hs hw j) t5 t6 t1 t2 t3)) (fun X hX => ?_)
    obtain ⟨⟨x1, -⟩, -, x3⟩ := hX
    have e55 : X.1 5 5 = tpK V B (j + 1) := x1.2.2.2.1 (by omega)
    rw [gd_t ij, xj]
    refine rn_u (fun Y u => ?_)
    have hY := x1.ur u
    have FX : FC ftC S X := g4.tr (x3.mono (fun a ha => Or.inl ha))
    have FY : FC ftC S Y := FX.ur u (Or.inr rfl)
    have y55 : Y.1 5 5 = tpK V B (j + 1) := by rw [u.2.1 5 (by decide)]; exact e55
    have hhY : HCd m H Y := hh.fr (fun a ha => FY.1 a (by unfold ftC hcC stC cuC; omega))
    rw [gd_t ob, y55, iN_1]
    obtain ⟨v, ev, v01, hv2⟩ := C_agrees (k := j + 1) hN (by omega) (tpK_bt hs hw j) hhY hv
    rw [ev, bI_s]
    have old : ∀ i, i < j + 1 → Y.1 32 i = tpK V B (i + 1) := fun i hi => by
      rw [u.1]
      by_cases ei : i = j
      · rw [ei, upd_at, e55]
      · rw [upd_o ei, x3.1 32 (by unfold hcC stC cuC; omega)]; exact g2 i (by omega)
    rcases v01 with e | e
    · rw [if_pos e, rn_some, rn_lt, rn_lt, rn_lt, if_neg (show ¬ (1 : Nat) = 0 by decide), rn_some]
      refine ⟨Or.inl rfl, ⟨fun q => absurd q n01, fun q => ?_⟩, fun q => absurd q n01, FY⟩
      have := hv2.mpr (q j hj)
      rw [e] at this
      exact absurd this (by decide)
    · rw [if_neg (show ¬ v = 0 by rw [e]; decide), rn_lt]
      refine ih Y ⟨hY, old, fun k hk => ?_, FY⟩
      by_cases ek : k = j
      · rw [ek]; exact hv2.mp e
      · exact g3 k (by omega)
def FG (S T : PS) : Prop := FM (fun a => hcM a ∨ a = 106) hfM S T ∧ ∀ k, k < 64 → T.1 91 k = S.1 91 k
theorem FG.rfl {S : PS} : FG S S := ⟨FM.rfl, fun _ _ => Eq.refl _⟩
theorem FG.tr {S T U : PS} (h : FG S T) (h' : FG T U) : FG S U := ⟨h.1.tr h'.1, fun k hk => (h'.2 k hk).trans (h.2 k hk)⟩
theorem FG.fh {S T : PS} (h : FH 64 S T) : FG S T := ⟨h.1.mono (fun _ ha => Or.inl ha) (fun _ hk => hk), fun k hk => h.2 k (Or.inl hk)⟩
theorem FG.fp {S T : PS} (h : FG S T) : FP S T :=
  ⟨⟨fun a ha => h.1.1 a (by unfold pm at ha; omega) (by unfold pm at ha; unfold hcM; omega), h.2, fun k hk => h.1.2.1 k (by unfold pf at hk; unfold hfM; omega)⟩,
   fun a ha => ⟨h.1.1 a (by omega) (by unfold hcM; omega), by rw [h.1.2.2], by rw [h.1.2.2]⟩⟩
theorem FG.hm {S T : PS} (h : FG S T) (hh : HMd m H S) : HMd m H T := by
  unfold HMd
  rw [h.1.1 105 (by decide) (by unfold hcM; omega), h.1.2.1 49 (by unfold hfM; omega)]
  exact hh
theorem M_isHeard (hN : 30000 ≤ N) (hs : SPR V.2.1) (hw : WF V.1 B) (hT : TM V B 0 S) (hh : HMd m H S) (hv : WH V.1 m H) :
    rn (fX12_isHeard N S) (fun r => (r.1 = 0 ∨ r.1 = 1) ∧ (r.1 = 1 ↔ fitA V B m H) ∧ (r.1 = 1 → ∀ i, i < 40 → r.2.1 106 i = tpK V B (i + 1)) ∧ FG S r.2) := by
  unfold fX12_isHeard
  rw [rn_bT]
  refine forG (f := fun f' j s => fX12_isHeard_2 N f' (iN j) s) 41 (J := fun j W => 1 ≤ j ∧ TM V B (j - 1) W ∧ (∀ i, i < j - 1 → W.1 106 i = tpK V B (i + 1)) ∧ (∀ k, k < j - 1 → fitP V B m H k) ∧ FG S W) ?_ ?_ N 1 S (by omega) ⟨Nat.le_refl _, hT, fun i h => by omega, fun i h => by omega, FG.rfl⟩ (by omega)
  · rintro f' W ⟨-, g1, g2, g3, g4⟩
    simp only [fX12_isHeard_2]
    rw [if_pos (by rw [show (40 : Int32) = iN 40 from rfl, iN_lt (by omega) (by omega)]; omega), rn_some, rn_lt, rn_lt, rn_lt, if_pos rfl, rn_some]
    exact ⟨Or.inr rfl, ⟨fun _ => g3, fun _ => rfl⟩, fun _ => g2, g4⟩
  · rintro f' j W hj ⟨g0, g1, g2, g3, g4⟩ ih
    obtain ⟨j', rfl⟩ : ∃ j', j = j' + 1 := ⟨j - 1, by omega⟩
    rw [Nat.add_sub_cancel] at g1 g2 g3
    have ij : inr (iN j') 40 := inr_iN (by omega) (by omega)
    have xj : ix (iN j') = j' := ix_iN (by omega)
    simp only [fX12_isHeard_2]
    rw [if_neg (by rw [show (40 : Int32) = iN 40 from rfl, iN_lt (by omega) (by omega)]; omega), rn_bV]
    refine rn_mono (M_step hN hs hw g1) (fun X hX => ?_)
    obtain ⟨x1, x2, x3⟩ := hX
    have e38 : X.1 80 38 = tpK V B (j' + 1) := by rw [tpK_s]; exact x2.2.2.1
    rw [iN_s1, gd_t ij, xj]
    refine rn_u (fun Y u => ?_)
    have y38 : Y.1 80 38 = tpK V B (j' + 1) := by rw [u.2.1 80 (by decide)]; exact e38
    have FX : FG X Y := ⟨FM.rfl.uq u (Or.inr rfl) (by decide), fun k _ => by rw [u.2.1 91 (by decide)]⟩
    have FY : FG S Y := (g4.tr (FG.fh x3)).tr FX
    have hY : TM V B (j' + 1) Y := by
      refine ⟨?_, ?_⟩
      · have := x1.1
        rw [MF_MR] at this ⊢
        rw [u.2.1 91 (by decide)]
        exact this
      · have := x1.2
        unfold ME at this ⊢
        rw [u.2.1 80 (by decide), u.2.1 81 (by decide), u.2.1 82 (by decide)]
        exact this
    have hhY : HMd m H Y := FY.hm hh
    obtain ⟨t, y, et, ht⟩ := M_heard28 (k := j' + 1) hN y38 hhY hv
    rw [rn_bT, et, rn_some, rn_lt, rn_lt, rn_lt]
    have old : ∀ i, i < j' + 1 → Y.1 106 i = tpK V B (i + 1) := fun i hi => by
      rw [u.1]
      by_cases ei : i = j'
      · rw [ei, upd_at, e38]
      · rw [upd_o ei, x3.1.1 106 (by decide) (by unfold hcM; omega)]; exact g2 i (by omega)
    by_cases e : t = 0
    · rw [if_pos e, rn_lt, iN_1]
      refine ih Y ⟨by omega, hY, old, fun k hk => ?_, FY⟩
      by_cases ek : k = j'
      · rw [ek]; exact ht.mp e
      · exact g3 k (by omega)
    · rw [if_neg e, rn_some, rn_lt, rn_lt, rn_lt, if_neg (show ¬ (1 : Nat) = 0 by decide), rn_some]
      exact ⟨Or.inl rfl, ⟨fun q => absurd q n01, fun q => absurd (ht.mpr (q j' (by omega))) e⟩, fun q => absurd q n01, FY⟩
end FIT
