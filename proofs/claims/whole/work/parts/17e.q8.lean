/-! ===== phase 2: a game ===== -/
/-- rows with a plug or two: x for c, y for o -/
def gR (A : Rw) (c o x y : Nat) : Rw := if y = 1 then u2 (if x = 1 then u2 A 5 c 1 else A) 5 o 1 else (if x = 1 then u2 A 5 c 1 else A)
theorem gR_c {A : Rw} {c o x y : Nat} : gR A o c y x = gR A c o x y := by
  unfold gR
  by_cases hx : x = 1 <;> by_cases hy : y = 1 <;> simp only [hx, hy, if_true, if_false]
  funext k j
  rw [u2_a2, u2_a2, u2_a2, u2_a2]
  by_cases h1 : k = 5 ∧ j = c
  · rw [if_pos h1]
    by_cases h2 : k = 5 ∧ j = o
    · rw [if_pos h2]
    · rw [if_neg h2, if_pos h1]
  · rw [if_neg h1]
    by_cases h2 : k = 5 ∧ j = o
    · rw [if_pos h2, if_pos h2]
    · rw [if_neg h2, if_neg h2, if_neg h1]
theorem gR_WF {n c o x y : Nat} {A : Rw} (h : WF n A) (hc : c < n) (ho : o < n) : WF n (gR A c o x y) := by
  unfold gR
  have h1 : WF n (if x = 1 then u2 A 5 c 1 else A) := by
    split
    · exact plg_WF h hc (Or.inr rfl)
    · exact h
  split
  · exact plg_WF h1 ho (Or.inr rfl)
  · exact h1
def ahS (V : Cv) (A : Rw) (c o x y : Nat) : Int32 := smT V (gR A c o x y) (fun _ => 0) 12 c - smT V (gR A c o x y) (fun _ => 0) 12 o
/-- what the one at c gains -/
def gnS (V : Cv) (A : Rw) (c o x y : Nat) : Int32 := ahS V A c o x y / 2 - iN x
def gmS (V : Cv) (A : Rw) (c o : Nat) : Nat → Int32 × Int32
  | 0 => (0, -1)
  | k + 1 => if gnS V A c o (k / 2) (k % 2) < gnS V A c o (1 - k / 2) (k % 2) ∨ gnS V A o c (k % 2) (k / 2) < gnS V A o c (1 - k % 2) (k / 2) then gmS V A c o k
    else ((gmS V A c o k).1 + 1, if (gmS V A c o k).2 = -1 then iN (10 * (k / 2) + k % 2) else (gmS V A c o k).2)
theorem ah_neg {V : Cv} {A : Rw} {c o x y : Nat} : -(ahS V A c o x y) = ahS V A o c y x := by
  unfold ahS
  rw [gR_c, Int32.neg_sub]
/-! frames of a trial, cell by cell -/
theorem rn_and {α : Type} {m : Option α} {Q R : α → Prop} (h : rn m Q) (h' : rn m R) : rn m (fun a => Q a ∧ R a) := by
  obtain ⟨a, h1, h2⟩ := h
  obtain ⟨b, h3, h4⟩ := h'
  rw [h1] at h3
  cases h3
  exact ⟨a, h1, h2, h4⟩
def FT (S T : PS) : Prop := (∀ a, ¬ hcC 20 a → T.1 a = S.1 a) ∧ T.2.1 = S.2.1 ∧ ∀ a k, ¬ (a = 5 ∧ k = 4) → T.2.2 a k = S.2.2 a k
theorem FT.rfl {S : PS} : FT S S := ⟨fun _ _ => Eq.refl _, Eq.refl _, fun _ _ _ => Eq.refl _⟩
theorem FT.tr {S T U : PS} (h : FT S T) (h' : FT T U) : FT S U := ⟨fun a ha => (h'.1 a ha).trans (h.1 a ha), h'.2.1.trans h.2.1, fun a k hk => (h'.2.2 a k hk).trans (h.2.2 a k hk)⟩
theorem FT.fc {S T : PS} (h : FC (hcC 20) S T) : FT S T := ⟨h.1, by rw [h.2], fun a k _ => by rw [h.2]⟩
theorem FT.fq {S T : PS} (h : FT S T) : FQ S T := by
  have hp : ∀ a, (a = 0 ∨ a = 2 ∨ 80 ≤ a) → T.1 a = S.1 a := fun a ha => h.1 a (by unfold hcC stC cuC; omega)
  refine ⟨⟨fun a ha => h.1 a (fun hc => (hcC_q hc).1 ha), ⟨?_, ?_, ?_⟩, h.2.2 5 3 (by omega), h.2.2 1 1 (by omega)⟩, fun a ha => ⟨hp a (by omega), by rw [h.2.1], ?_⟩⟩
  · rw [hp 0 (by omega)]
  · rw [hp 0 (by omega)]
  · rw [hp 2 (by omega)]
  · funext k
    exact h.2.2 a k (by omega)
theorem C_goOnT {N k m : Nat} {V : Cv} {A : Rw} {T : Nat → Int32} {L : Int32} {S : PS} (hN : 30000 ≤ N) (hs : SPR V.2.1) (hw : WF V.1 A) (hm : m ≤ 20000) (h : TR V A T L k S) : rn (fX3_goOn N (iN m) S) (fun U => TR V A T L (k + m) U ∧ FC (hcC 20) S U) := by
  simp only [fX3_goOn, rn_bT, rn_lt, rn_some]
  refine forG (f := fun n j s => fX3_goOn_2 N (iN m) n (iN j) s) m (J := fun j U => TR V A T L (k + j) U ∧ FC (hcC 20) S U) ?_ ?_ N 0 S (Nat.zero_le _) ⟨h, FC.rfl⟩ (by omega)
  · rintro q U ⟨h1, h2⟩
    simp only [fX3_goOn_2]
    rw [if_pos (Int32.le_refl _), rn_some]
    exact ⟨h1, h2⟩
  · rintro q j U hj ⟨h1, h2⟩ ih
    have hii : ¬ iN m ≤ iN j := by rw [iN_le (by omega) (by omega)]; omega
    simp only [fX3_goOn_2, if_neg hii, rn_bV, rn_lt, iN_1]
    have h1' := h1
    obtain ⟨t1, t2, t3, t4, t5, p, t6⟩ := h1'
    refine rn_mono (rn_and (C_step hN hs hw h1) (C_hour (w := 0) hN (by omega) is20 hs (rowK_WF hs hw (k + j)) t5 t6 t1 t2 t3)) (fun W hW => ih W ⟨hW.1.1, h2.tr hW.2.2⟩)
theorem C_wocT {N : Nat} {V : Cv} {A : Rw} {S : PS} (hN : 30000 ≤ N) (h : CU 18 A S) (hc : ∃ p, CE p V.1 V.2.2.1 V.2.2.2 V.2.1 S) : rn (fX3_workOnCopy N 18 S) (fun U => TR V A (fun _ => 0) 0 0 U ∧ FT S U) := by
  refine rn_mono (rn_and (C_woc (V := V) hN h hc) (R := FT S) ?_) (fun U hU => ⟨hU.1.1, hU.2⟩)
  simp only [fX3_workOnCopy, rn_bV, rn_some]
  refine rn_mono (C_copy is20 is18 (by decide) h) (fun U hU => ?_)
  refine rn_mono (C_workOn hN) (fun W hW => ?_)
  obtain ⟨w1, w2, w3, w4, w5, w6⟩ := hW
  refine ⟨fun a ha => ?_, ?_, fun a k hk => ?_⟩
  · rw [w5 a (by unfold hcC at ha; omega) (by unfold hcC at ha; omega)]
    exact hU.2.1 a (by unfold hcC cuC at ha; omega)
  · rw [w6, ← hU.2.2]
  · rw [w6, ← hU.2.2]
    show u2R U.2.2 5 4 20 a k = U.2.2 a k
    unfold u2R
    by_cases ea : a = 5
    · rw [if_pos ea]
      rw [if_neg (by omega)]
    · rw [if_neg ea]
theorem C_lookT {N : Nat} {V : Cv} {A : Rw} {S : PS} (q : QC N V A S) : rn (fX11_lookAhead N 0 S) (fun U => TR V A (fun _ => 0) 0 0 U ∧ FT S U) := by
  simp only [fX11_lookAhead, rn_bV, rn_some]
  refine rn_mono (C_wocT (V := V) q.1 q.2.2.2.1 q.2.2.2.2) (fun U hU => ?_)
  refine rn_mono (C_goOnT (m := 0) q.1 q.2.1 q.2.2.1 (by omega) hU.1) (fun W hW => ⟨hW.1, hU.2.tr (FT.fc hW.2)⟩)
section Q8
variable {N : Nat} {V : Cv} {A : Rw} {S : PS}
theorem i4 {k : Nat} (h : k < 4) : ¬ (4 : Int32) ≤ iN k := by
  have : (4 : Int32) = iN 4 := rfl
  rw [this, iN_le (by omega) (by omega)]; omega
theorem n24 : ¬ pc 24 ∧ 24 ≠ 0 ∧ 24 ≠ 2 ∧ 24 < 80 := by unfold pc ceC; omega
theorem n25 : ¬ pc 25 ∧ 25 ≠ 0 ∧ 25 ≠ 2 ∧ 25 < 80 := by unfold pc ceC; omega
theorem FT_24 {S T : PS} (h : FT S T) : T.1 24 = S.1 24 ∧ T.1 25 = S.1 25 := ⟨h.1 24 (by unfold hcC stC cuC; omega), h.1 25 (by unfold hcC stC cuC; omega)⟩
theorem g_end {c o j k x y : Nat} {v1 v2 : Int32} {U : PS} {Q : Int32 × PS → Prop} (hN : 30000 ≤ N) (hs : SPR V.2.1) (hw : WF V.1 (gR A c o x y)) (hc : c < V.1) (ho : o < V.1) (hn : V.1 ≤ 9) (hk : k < 4) (hx : v1 = iN x) (hy : v2 = iN y) (hT : TR V (gR A c o x y) (fun _ => 0) 0 0 U)
    (fin : ∀ W, FQ U W → W.1 24 k = gnS V A c o x y → W.1 25 k = gnS V A o c y x → (∀ i, i ≠ k → W.1 24 i = U.1 24 i ∧ W.1 25 i = U.1 25 i) → rn (fX11_playAll_2 N (iN c) (iN o) j (iN (k + 1)) W) Q) :
    rn (bV (fX3_goOn N 12 U) fun S59 => gd (inr (iN c) 9) <| gd (inr (iN o) 9) <| lt (((S59.1 28 (ix (iN c))) - (S59.1 28 (ix (iN o)))) : Int32) fun x63 => gd (inr (iN k) 4) <| lt ((u2 S59.1 24 (ix (iN k)) ((x63 / 2) - v1), S59.2) : PS) fun S65 => gd (inr (iN k) 4) <| lt ((u2 S65.1 25 (ix (iN k)) (((-x63) / 2) - v2), S65.2) : PS) fun S67 => lt (iN k + 1 : Int32) fun x68 => fX11_playAll_2 N (iN c) (iN o) j x68 S67) Q := by
  have i1 : inr (iN c) 9 := inr_iN (by omega) (by omega)
  have i2 : inr (iN o) 9 := inr_iN (by omega) (by omega)
  have i3 : inr (iN k) 4 := inr_iN (by omega) (by omega)
  have x1 : ix (iN c) = c := ix_iN (by omega)
  have x2 : ix (iN o) = o := ix_iN (by omega)
  have x3 : ix (iN k) = k := ix_iN (by omega)
  rw [rn_bV]
  refine rn_mono (C_goOnT (m := 12) hN hs hw (by omega) hT) (fun W hW => ?_)
  rw [Nat.zero_add] at hW
  have hFT := FT.fc hW.2
  simp only [gd_t i1, gd_t i2, gd_t i3, x1, x2, x3, rn_lt, iN_1, hW.1.2.1 c (by omega), hW.1.2.1 o (by omega), hx, hy]
  have e1 : smT V (gR A c o x y) (fun _ => 0) 12 c - smT V (gR A c o x y) (fun _ => 0) 12 o = ahS V A c o x y := rfl
  rw [e1]
  refine fin _ ((hFT.fq.u n24).u n25) ?_ ?_ (fun i hi => ⟨?_, ?_⟩)
  · simp [u2_a2, gnS]
  · simp [u2_a2, gnS, ah_neg]
  · simp [u2_a2, hi, (FT_24 hFT).1]
  · simp [u2_a2, hi, (FT_24 hFT).2]
theorem C_plugT {A' : Rw} {c : Nat} {U : PS} (hc : c < 9) (h : TR V A' (fun _ => 0) 0 0 U) : rn (fX2_setPlugged N 20 (iN c) 1 U) (fun W => TR V (u2 A' 5 c 1) (fun _ => 0) 0 0 W ∧ FT U W) := by
  refine rn_mono (C_plug is20 hc h.1) (fun W hW => ?_)
  have e : (if (1 : Int32) = 0 then (0 : Int32) else 1) = 1 := by decide
  rw [e] at hW
  refine ⟨(TR_chg h hW.1 hW.2).1, FT.fc (hW.2.mono (fun a ha => Or.inr (Or.inr (Or.inr (Or.inr ha)))))⟩
theorem C_play {c o : Nat} (q : QC N V A S) (hc : c < V.1) (ho : o < V.1) : rn (fX11_playAll N (iN c) (iN o) S) (fun W => FQ S W ∧ ∀ i, i < 4 → W.1 24 i = gnS V A c o (i / 2) (i % 2) ∧ W.1 25 i = gnS V A o c (i % 2) (i / 2)) := by
  have hn := q.2.2.1.1
  have hN := q.1
  simp only [fX11_playAll, rn_bT, rn_lt, rn_some]
  refine forG (f := fun n k s => fX11_playAll_2 N (iN c) (iN o) n (iN k) s) 4 (J := fun k W => FQ S W ∧ ∀ i, i < k → W.1 24 i = gnS V A c o (i / 2) (i % 2) ∧ W.1 25 i = gnS V A o c (i % 2) (i / 2)) ?_ ?_ N 0 S (Nat.zero_le _) ⟨FQ.rfl, fun i hi => by omega⟩ (by omega)
  · rintro j W ⟨g1, g2⟩
    simp only [fX11_playAll_2]
    rw [if_pos (show (4 : Int32) ≤ iN 4 from Int32.le_refl _), rn_some]
    exact ⟨g1, g2⟩
  · rintro j k W hk ⟨g1, g2⟩ ih
    have qW := q.fq g1
    have ex : iN k >>> ((1 : Int32) &&& 31) = iN (k / 2) := by
      have : k = 0 ∨ k = 1 ∨ k = 2 ∨ k = 3 := by omega
      rcases this with rfl | rfl | rfl | rfl <;> decide
    have ey : iN k &&& 1 = iN (k % 2) := iN_and1 k
    have e0 : iN 0 = (0 : Int32) := rfl
    have hx : k / 2 = 0 ∨ k / 2 = 1 := by omega
    have hy : k % 2 = 0 ∨ k % 2 = 1 := by omega
    simp only [fX11_playAll_2, if_neg (i4 hk), lt_b, ex, ey]
    rw [rn_bV]
    refine rn_mono (C_lookT qW) (fun U hU => ?_)
    have h24 := FT_24 hU.2
    have fin : ∀ U2, FQ W U2 → U2.1 24 = W.1 24 → U2.1 25 = W.1 25 → ∀ W2, FQ U2 W2 → W2.1 24 k = gnS V A c o (k / 2) (k % 2) → W2.1 25 k = gnS V A o c (k % 2) (k / 2) → (∀ i, i ≠ k → W2.1 24 i = U2.1 24 i ∧ W2.1 25 i = U2.1 25 i) → rn (fX11_playAll_2 N (iN c) (iN o) j (iN (k + 1)) W2) (fun q => FQ S q.2 ∧ ∀ i, i < 4 → q.2.1 24 i = gnS V A c o (i / 2) (i % 2) ∧ q.2.1 25 i = gnS V A o c (i % 2) (i / 2)) := by
      intro U2 f1 f2 f3 W2 f4 f5 f6 f7
      refine ih W2 ⟨(g1.tr f1).tr f4, fun i hi => ?_⟩
      by_cases ei : i = k
      · subst ei; exact ⟨f5, f6⟩
      · rw [(f7 i ei).1, (f7 i ei).2, f2, f3]
        exact g2 i (by omega)
    have hgw : WF V.1 (gR A c o (k / 2) (k % 2)) := gR_WF q.2.2.1 hc ho
    rcases hx with hx | hx <;> rcases hy with hy | hy
    · rw [if_neg (by rw [hx]; decide), if_neg (by rw [hy]; decide)]
      have hT : TR V (gR A c o (k / 2) (k % 2)) (fun _ => 0) 0 0 U := by
        have : gR A c o (k / 2) (k % 2) = A := by unfold gR; rw [if_neg (by omega), if_neg (by omega)]
        rw [this]; exact hU.1
      exact g_end hN q.2.1 hgw hc ho hn hk rfl rfl hT (fin U hU.2.fq h24.1 h24.2)
    · rw [if_neg (by rw [hx]; decide), if_pos (by rw [hy]; rfl)]
      rw [hU.1.2.2.2.2.1, gd_t is20.ob, rn_bV]
      refine rn_mono (C_plugT (by omega) hU.1) (fun U2 hU2 => ?_)
      have hT : TR V (gR A c o (k / 2) (k % 2)) (fun _ => 0) 0 0 U2 := by
        have : gR A c o (k / 2) (k % 2) = u2 A 5 o 1 := by unfold gR; rw [if_pos hy, if_neg (by omega)]
        rw [this]; exact hU2.1
      have hF := hU.2.tr hU2.2
      exact g_end hN q.2.1 hgw hc ho hn hk rfl rfl hT (fin U2 hF.fq (FT_24 hF).1 (FT_24 hF).2)
    · rw [if_pos (by rw [hx]; rfl)]
      rw [hU.1.2.2.2.2.1, gd_t is20.ob, rn_bV]
      refine rn_mono (C_plugT (by omega) hU.1) (fun U2 hU2 => ?_)
      rw [if_neg (by rw [hy]; decide)]
      have hT : TR V (gR A c o (k / 2) (k % 2)) (fun _ => 0) 0 0 U2 := by
        have : gR A c o (k / 2) (k % 2) = u2 A 5 c 1 := by unfold gR; rw [if_neg (by omega), if_pos hx]
        rw [this]; exact hU2.1
      have hF := hU.2.tr hU2.2
      exact g_end hN q.2.1 hgw hc ho hn hk rfl rfl hT (fin U2 hF.fq (FT_24 hF).1 (FT_24 hF).2)
    · rw [if_pos (by rw [hx]; rfl)]
      rw [hU.1.2.2.2.2.1, gd_t is20.ob, rn_bV]
      refine rn_mono (C_plugT (by omega) hU.1) (fun U2 hU2 => ?_)
      rw [if_pos (by rw [hy]; rfl)]
      rw [hU2.1.2.2.2.2.1, gd_t is20.ob, rn_bV]
      refine rn_mono (C_plugT (by omega) hU2.1) (fun U3 hU3 => ?_)
      have hT : TR V (gR A c o (k / 2) (k % 2)) (fun _ => 0) 0 0 U3 := by
        have : gR A c o (k / 2) (k % 2) = u2 (u2 A 5 c 1) 5 o 1 := by unfold gR; rw [if_pos hy, if_pos hx]
        rw [this]; exact hU3.1
      have hF := (hU.2.tr hU2.2).tr hU3.2
      exact g_end hN q.2.1 hgw hc ho hn hk rfl rfl hT (fin U3 hF.fq (FT_24 hF).1 (FT_24 hF).2)
end Q8
