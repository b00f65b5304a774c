/-! ===== phase 2: the class's hour, its loops ===== -/
theorem iN_pos {d : Nat} (hd : d < 2147483648) : ¬ iN d < 0 := by
  have : (0 : Int32) = iN 0 := rfl
  rw [this, iN_lt (by omega) (by omega)]; omega
/-- a whole array filled -/
theorem C_fill {N a m : Nat} {v : Int32} {S : PS} (hN : 30000 ≤ N) (ha : arr a 1 m) (hm : m ≤ 2000) : rn (fJ7_fill_53178 N a v S) (fun T => (∀ k, k < m → T.1 a k = v) ∧ (∀ k, m ≤ k → T.1 a k = S.1 a k) ∧ FC (fun b => b = a) S T) := by
  have hck : (ck a).2 = m := by rw [ha.1]
  simp only [fJ7_fill_53178, hck, gd_t ha, rn_lt, rn_bT, rn_some]
  refine forG (f := fun n k s => fJ7_fill_53178_5 N a v (Int32.ofNat m) n (iN k) s) m (J := fun k T => (∀ j, j < k → T.1 a j = v) ∧ (∀ j, m ≤ j → T.1 a j = S.1 a j) ∧ FC (fun b => b = a) S T) ?_ ?_ N 0 S (Nat.zero_le _) ⟨fun j hj => by omega, fun _ _ => rfl, FC.rfl⟩ (by omega)
  · rintro q T ⟨h1, h2, h3⟩
    simp only [fJ7_fill_53178_5]
    rw [if_pos (show Int32.ofNat m ≤ iN m from Int32.le_refl _), rn_some]
    exact ⟨h1, h2, h3⟩
  · rintro q k T hk ⟨h1, h2, h3⟩ ih
    have hii : ¬ Int32.ofNat m ≤ iN k := by
      have : Int32.ofNat m = iN m := rfl
      rw [this, iN_le (by omega) (by omega)]; omega
    have hi : inr (iN k) m := inr_iN hk (by omega)
    have hx : ix (iN k) = k := ix_iN (by omega)
    simp only [fJ7_fill_53178_5, hck, if_neg hii, gd_t ha, gd_t hi, rn_lt, hx, iN_1]
    refine ih _ ⟨fun j hj => ?_, fun j hj => ?_, h3.u rfl⟩
    · show u2 T.1 a k v a j = v
      rw [u2_at]
      by_cases e : j = k
      · subst e; exact upd_at
      · rw [upd_o e]; exact h1 j (by omega)
    · show u2 T.1 a k v a j = _
      rw [u2_at, upd_o (by omega)]; exact h2 j hj
section CH
variable {o n : Nat} {T : Nat → Int32} {L : Int32} {X : Hs} {S : PS}
theorem C_tip {N c : Nat} {d : Int32} (ho : isCu o) (hc : c < n) (hw : WF n X.1) (hd : 0 ≤ d.toInt ∧ d.toInt ≤ 32740) (h0t : X.2.2.1 c = 0) (h5 : S.2.2 5 4 = o) (h : HC o T L X S) :
    rn (fX3_tip N (iN c) d S) (fun S' => HC o T L (getS c d X) S' ∧ FC (hcC o) S S') := by
  have hn := hw.1
  have hc9 : c < 9 := by omega
  have hi : inr (iN c) 9 := inr_iN hc9 (by omega)
  have hx : ix (iN c) = c := ix_iN (by omega)
  have hwc := hw.2 c hc9
  obtain ⟨ha, ht, ht0, ht1⟩ := tip_r hwc (show 0 ≤ d.toInt ∧ d.toInt ≤ 40000 by omega)
  obtain ⟨h0, h1, hf, hs, h4, hp, h6, h7⟩ := hwc
  have hmx : (if (1 : Int32) < X.1 0 c then X.1 0 c else 1) = X.1 0 c := by
    split
    · rfl
    · rename_i hh
      rw [lt_ti, o_ti] at hh
      rw [eq_ti, o_ti]
      omega
  have hz : ¬ X.1 0 c = 0 := by
    intro e
    rw [e, z_ti] at h0
    omega
  have hT : (X.1 1 c + d) / X.1 0 c = tipT c d X.1 := rfl
  have hsr1 : sr o 1 = 50 + 6 * (o - 18) + 1 := ho.sr (by omega)
  have hsr4 : sr o 4 = 50 + 6 * (o - 18) + 4 := ho.sr (by omega)
  have hrg := ho.rg
  have hA := h.row ho (Or.inr (by rw [hsr1]; omega)) (h.1.u (k := 1) (c := c) (x := (X.1 1 c + d) - tipT c d X.1 * X.1 0 c) ho (by omega))
  have hF1 : FC (hcC o) S (u2 S.1 (sr o 1) c ((X.1 1 c + d) - tipT c d X.1 * X.1 0 c), S.2) := FC.rfl.u (Or.inr (Or.inr (Or.inr (Or.inr (Or.inr (by rw [hsr1]; omega))))))
  by_cases e : tipT c d X.1 = 0
  · have hg : getS c d X = (tipA c d X.1, X.2.1, upd X.2.2.1 c (tipT c d X.1), X.2.2.2) := by unfold getS; rw [if_pos e]
    have hle : tipT c d X.1 ≤ 0 := by rw [e]; exact Int32.le_refl _
    simp only [fX3_tip, rn_lt, h5, gd_t ho.ob, gd_t (ho.ar (k := 1) (by omega)), gd_t (ho.ar (k := 0) (by omega)), gd_t hi, hx, h.1.1 0 (by omega) c hc9, h.1.1 1 (by omega) c hc9, hmx, gd_t hz, hT, if_pos hle, rn_some, hg]
    refine ⟨?_, hF1⟩
    have e1 : tipA c d X.1 = u2 X.1 1 c ((X.1 1 c + d) - tipT c d X.1 * X.1 0 c) := by
      unfold tipA
      rw [hT]
      have : lesS (X.1 4 c + tipT c d X.1) = X.1 4 c := by
        rw [e, Int32.add_zero]
        unfold lesS
        rw [if_pos (by rw [le_ti, b_ti]; omega)]
      rw [this]
      have e9 : X.1 4 c = u2 X.1 1 c ((X.1 1 c + d) - tipT c d X.1 * X.1 0 c) 4 c := by rw [u2_o (by decide)]
      rw [e9]
      exact u2_self
    have e2 : upd X.2.2.1 c (tipT c d X.1) = X.2.2.1 := by
      funext j
      unfold upd
      split
      · rename_i hj; rw [hj, h0t, e]
      · rfl
    rw [e1, e2]
    exact hA
  · have hg : getS c d X = fallS c (tipT c d X.1) (tipA c d X.1, X.2.1, upd X.2.2.1 c (tipT c d X.1), X.2.2.2.1 ||| (1 <<< (iN c &&& 31)), X.2.2.2.2) := by unfold getS; rw [if_neg e]
    have hle : ¬ tipT c d X.1 ≤ 0 := by
      rw [le_ti, z_ti]
      intro hh
      apply e
      rw [eq_ti, z_ti]
      omega
    have p5 : ∀ v, u2 S.1 (sr o 1) c v 5 5 = X.2.2.2.1 := fun v => by rw [u2_o (by rw [hsr1]; omega)]; exact h.2.2.1
    have p28 : ∀ v w, u2 (u2 S.1 (sr o 1) c v) 5 5 w 28 c = T c := fun v w => by rw [u2_o (by decide), u2_o (by rw [hsr1]; omega), (h.2.1 c hc9).2, h0t, Int32.add_zero]
    have p4 : ∀ v w z, u2 (u2 (u2 S.1 (sr o 1) c v) 5 5 w) 28 c z (sr o 4) c = X.1 4 c := fun v w z => by rw [u2_o (by rw [hsr4]; omega), u2_o (by rw [hsr4]; omega), u2_o (by rw [hsr4, hsr1]; omega)]; exact h.1.1 4 (by omega) c hc9
    simp only [fX3_tip, rn_lt, rn_bI, rn_bV, h5, gd_t ho.ob, gd_t (ho.ar (k := 1) (by omega)), gd_t (ho.ar (k := 0) (by omega)), gd_t (ho.ar (k := 4) (by omega)), gd_t hi, hx, h.1.1 0 (by omega) c hc9, h.1.1 1 (by omega) c hc9, hmx, gd_t hz, hT, if_neg hle, bitOf_c hc9, rn_some, hg, p5, p28, p4, les_lt]
    have hB := hA.tp (y := X.2.2.2.1 ||| (1 <<< (iN c &&& 31))) ho
    have hC := hB.tm (d := c) (y := tipT c d X.1) ho
    have hD := hC.row ho (Or.inr (by rw [hsr4]; omega)) (hC.1.u (k := 4) (c := c) (x := lesS (X.1 4 c + tipT c d X.1)) ho (by omega))
    have hF2 := ((hF1.u (a := 5) (k := 5) (x := X.2.2.2.1 ||| (1 <<< (iN c &&& 31))) (Or.inl rfl)).u (a := 28) (k := c) (x := T c + tipT c d X.1) (Or.inr (Or.inr (Or.inl rfl)))).u (a := sr o 4) (k := c) (x := lesS (X.1 4 c + tipT c d X.1)) (Or.inr (Or.inr (Or.inr (Or.inr (Or.inr (by rw [hsr4]; omega))))))
    refine rn_mono (C_letGo (X := (tipA c d X.1, X.2.1, upd X.2.2.1 c (tipT c d X.1), X.2.2.2.1 ||| (1 <<< (iN c &&& 31)), X.2.2.2.2)) ho hc (tipA_WF hw hc (by omega)) (by omega) h5 hD) (fun S' hS => ⟨hS.1, hF2.tr hS.2⟩)
end CH
/-- a rule of the class -/
def RU (r : Nat) (lk : Option (List Int32)) (S : PS) : Prop := match lk with
  | none => S.1 r 3 = 0
  | some L => ¬ S.1 r 3 = 0 ∧ S.1 r 2 = iN L.length ∧ CDL (S.1 (sr r 0)) 0 L ∧ okc L 0 ∧ L.length ≤ 700
/-- what the class's hour reads and leaves -/
def CE (p n : Nat) (lk fr : Option (List Int32)) (sp : Nat → Int32) (S : PS) : Prop :=
  (p = 12 ∨ p = 13) ∧ S.2.2 5 3 = p ∧ S.1 p 4 = iN n ∧ (∀ c, c < 9 → S.1 (sr p 0) c = sp c) ∧ RU (sr p 2) lk S ∧ RU (sr p 3) fr S
theorem RU.cg {r : Nat} {lk : Option (List Int32)} {S S' : PS} (h : RU r lk S) (e1 : S'.1 r = S.1 r) (e2 : S'.1 (sr r 0) = S.1 (sr r 0)) : RU r lk S' := by
  cases lk with
  | none => unfold RU at *; rw [e1]; exact h
  | some L => unfold RU at *; rw [e1, e2]; exact h
theorem CE.cg {p n : Nat} {lk fr : Option (List Int32)} {sp : Nat → Int32} {S S' : PS} (h : CE p n lk fr sp S) (e : ∀ a, (a = p ∨ a = sr p 0 ∨ a = sr p 2 ∨ a = sr p 3 ∨ a = sr (sr p 2) 0 ∨ a = sr (sr p 3) 0) → S'.1 a = S.1 a) (e5 : S'.2.2 5 3 = S.2.2 5 3) : CE p n lk fr sp S' := by
  obtain ⟨h1, h2, h3, h4, h5, h6⟩ := h
  refine ⟨h1, e5.trans h2, ?_, fun c hc => ?_, h5.cg (e _ (by simp)) (e _ (by simp)), h6.cg (e _ (by simp)) (e _ (by simp))⟩
  · rw [e p (Or.inl rfl)]; exact h3
  · rw [e (sr p 0) (Or.inr (Or.inl rfl))]; exact h4 c hc
/-- cells that belong to the cave that is told -/
def ceC (a : Nat) : Prop := a = 12 ∨ a = 13 ∨ a = 14 ∨ a = 15 ∨ a = 16 ∨ a = 17 ∨ a = 40 ∨ a = 41 ∨ a = 42 ∨ a = 44 ∨ a = 46 ∨ a = 48
theorem CE.ce {p n : Nat} {lk fr : Option (List Int32)} {sp : Nat → Int32} {S S' : PS} (h : CE p n lk fr sp S) (e : ∀ a, ceC a → S'.1 a = S.1 a) (e5 : S'.2.2 5 3 = S.2.2 5 3) : CE p n lk fr sp S' := by
  refine h.cg (fun a ha => e a ?_) e5
  rcases h.1 with rfl | rfl
  · rcases ha with rfl | rfl | rfl | rfl | rfl | rfl <;> simp [ceC, sr, srs]
  · rcases ha with rfl | rfl | rfl | rfl | rfl | rfl <;> simp [ceC, sr, srs]
theorem CE.fc {p n o : Nat} {lk fr : Option (List Int32)} {sp : Nat → Int32} {S S' : PS} (ho : isCu o) (h : CE p n lk fr sp S) (hf : FC (hcC o) S S') : CE p n lk fr sp S' := by
  refine h.ce (fun a ha => hf.1 a (fun hc => ?_)) (by rw [hf.2])
  have hr := ho.rg
  unfold ceC at ha
  unfold hcC stC cuC at hc
  omega
theorem hc_st {o : Nat} {S S' : PS} (h : FC stC S S') : FC (hcC o) S S' := h.mono (fun _ ha => Or.inr (Or.inr (Or.inr (Or.inl ha))))
/-- the value of a rule of the cave that is told -/
theorem C_rule {N o c r : Nat} {L : List Int32} {A : Nat → Nat → Int32} {sp : Nat → Int32} {S : PS} (hN : 30000 ≤ N) (ho : isCu o) (hr : r = 14 ∨ r = 15 ∨ r = 16 ∨ r = 17) (hc : c < 9) (h : CU o A S) (hru : RU r (some L) S) :
    rn (fX8_value N r o (iN c) (sp c) S) (fun q => q.1 = valS L A sp c ∧ FC stC S q.2) := by
  obtain ⟨-, h1, h2, h3, h4⟩ := hru
  rcases hr with rfl | rfl | rfl | rfl
  · exact rn_mono (C_val hN ⟨rfl, by decide⟩ ⟨rfl, by decide⟩ ⟨rfl, by decide⟩ (by decide) (by decide) ho (cuC_no ho (by decide)) hc h2 h1 h3 h h4) (fun q hq => ⟨hq.1, hq.2.mono (fun a ha => by rw [ha]; simp [stC, sr, srs])⟩)
  · exact rn_mono (C_val hN ⟨rfl, by decide⟩ ⟨rfl, by decide⟩ ⟨rfl, by decide⟩ (by decide) (by decide) ho (cuC_no ho (by decide)) hc h2 h1 h3 h h4) (fun q hq => ⟨hq.1, hq.2.mono (fun a ha => by rw [ha]; simp [stC, sr, srs])⟩)
  · exact rn_mono (C_val hN ⟨rfl, by decide⟩ ⟨rfl, by decide⟩ ⟨rfl, by decide⟩ (by decide) (by decide) ho (cuC_no ho (by decide)) hc h2 h1 h3 h h4) (fun q hq => ⟨hq.1, hq.2.mono (fun a ha => by rw [ha]; simp [stC, sr, srs])⟩)
  · exact rn_mono (C_val hN ⟨rfl, by decide⟩ ⟨rfl, by decide⟩ ⟨rfl, by decide⟩ (by decide) (by decide) ho (cuC_no ho (by decide)) hc h2 h1 h3 h h4) (fun q hq => ⟨hq.1, hq.2.mono (fun a ha => by rw [ha]; simp [stC, sr, srs])⟩)
theorem p_ob {p : Nat} (h : p = 12 ∨ p = 13) : obj p 1 ∧ arr (sr p 0) 1 9 ∧ obj (sr p 2) 8 ∧ obj (sr p 3) 8 ∧ (sr p 2 = 14 ∨ sr p 2 = 15 ∨ sr p 2 = 16 ∨ sr p 2 = 17) ∧ (sr p 3 = 14 ∨ sr p 3 = 15 ∨ sr p 3 = 16 ∨ sr p 3 = 17) := by
  rcases h with rfl | rfl
  · exact ⟨⟨rfl, by decide⟩, ⟨rfl, by decide⟩, ⟨rfl, by decide⟩, ⟨rfl, by decide⟩, by decide, by decide⟩
  · exact ⟨⟨rfl, by decide⟩, ⟨rfl, by decide⟩, ⟨rfl, by decide⟩, ⟨rfl, by decide⟩, by decide, by decide⟩
theorem has_bt {N c : Nat} {x : Int32} {f : Nat → Int32} {S : PS} (h : bt x f) (hc : c < 9) : fX11_has N x (iN c) S = some (f c, S) := by
  have h1 : f c = 0 ∨ f c = 1 := by
    obtain ⟨m, -, -, hf⟩ := h
    rw [hf c hc]
    cases m.testBit c <;> simp
  unfold fX11_has lt
  rw [bt_has h hc]
  rcases h1 with e | e
  · rw [e, if_neg (by decide)]
    exact gd_t (Or.inl rfl)
  · rw [e, if_pos rfl]
    exact gd_t (Or.inr rfl)
theorem plug_bt {N o c : Nat} {A : Nat → Nat → Int32} {S : PS} (ho : isCu o) (h : CU o A S) (hc : c < 9) : fX2_isPlugged N o (iN c) S = some (A 5 c, S) := by
  have h1 : b01 (A 5 c) := by
    obtain ⟨m, -, -, hf⟩ := h.2.2.1
    rw [hf c hc]
    cases m.testBit c
    · exact Or.inl rfl
    · exact Or.inr rfl
  unfold fX2_isPlugged
  rw [gd_t ho.ob, has_bt h.2.2.1 hc]
  show gd (b01 (A 5 c)) (some (A 5 c, S)) = _
  rw [gd_t h1]
section CH
variable {N o n p w : Nat} {lk fr : Option (List Int32)} {sp : Nat → Int32} {T : Nat → Int32} {L0 : Int32} {X : Hs} {S : PS}
theorem C_runs {c : Nat} {A : Nat → Nat → Int32} (hN : 30000 ≤ N) (hw3 : w < 3) (ho : isCu o) (hc : c < 9) (h5 : S.2.2 5 4 = o) (hm : CE p n lk fr sp S) (h : CU o A S) (h01 : A 5 c = 0 ∨ A 5 c = 1) :
    rn (fX3_springRuns N (iN c) (iN w) S) (fun q => q.1 = runS w fr sp A c ∧ FC stC S q.2) := by
  have hi : inr (iN c) 9 := inr_iN hc (by omega)
  have hx : ix (iN c) = c := ix_iN (by omega)
  obtain ⟨m0, m1, m2, m3, m4, m5⟩ := hm
  obtain ⟨q1, q2, q3, q4, q5, q6⟩ := p_ob m0
  unfold runS
  have hcase : w = 0 ∨ w = 1 ∨ w = 2 := by omega
  rcases hcase with rfl | rfl | rfl
  · have e1 : ¬ iN 0 = 1 := by decide
    have e2 : ¬ iN 0 = 2 := by decide
    rcases h01 with e5 | e5
    · cases fr with
      | none =>
        have m5' : S.1 (sr p 3) 3 = 0 := m5
        simp only [fX3_springRuns, if_neg e1, if_neg e2, rn_lt, rn_bI, h5, m1, gd_t ho.ob, plug_bt ho h hc, rn_some, e5, gd_t q1, gd_t q4, m5', if_true, show ¬ ((0 : Int32) = 1) from by decide, if_false]
        first | exact ⟨rfl, FC.rfl⟩ | exact ⟨trivial, FC.rfl⟩
      | some Lf =>
        have m5' : ¬ S.1 (sr p 3) 3 = 0 := m5.1
        simp only [fX3_springRuns, if_neg e1, if_neg e2, rn_lt, rn_bI, h5, m1, gd_t ho.ob, plug_bt ho h hc, rn_some, e5, gd_t q1, gd_t q2, gd_t q4, m5', if_true, show ¬ ((0 : Int32) = 1) from by decide, if_false, gd_t hi, hx, m3 c hc]
        refine rn_mono (C_rule hN ho q6 hc h m5) (fun q hq => ?_)
        rw [hq.1]
        rw [rn_gd, rn_some]
        refine ⟨?_, rfl, hq.2⟩
        split
        · exact Or.inl rfl
        · exact Or.inr rfl
    · simp only [fX3_springRuns, if_neg e1, if_neg e2, rn_lt, rn_bI, h5, m1, gd_t ho.ob, plug_bt ho h hc, rn_some, e5, show ¬ ((1 : Int32) = 0) from by decide, if_false, if_true]
      first | exact ⟨rfl, FC.rfl⟩ | exact ⟨trivial, FC.rfl⟩
  · have e1 : iN 1 = 1 := by decide
    simp only [fX3_springRuns, if_pos e1, rn_some]
    refine ⟨?_, FC.rfl⟩
    split <;> rfl
  · have e1 : ¬ iN 2 = 1 := by decide
    have e2 : iN 2 = 2 := by decide
    rcases h01 with e5 | e5
    · simp only [fX3_springRuns, if_neg e1, if_pos e2, rn_lt, rn_bI, h5, m1, gd_t ho.ob, plug_bt ho h hc, rn_some, e5, if_true, show ¬ ((0 : Int32) = 1) from by decide, if_false]
      first | exact ⟨rfl, FC.rfl⟩ | exact ⟨trivial, FC.rfl⟩
    · simp only [fX3_springRuns, if_neg e1, rn_lt, rn_bI, h5, m1, gd_t ho.ob, plug_bt ho h hc, rn_some, e5, show ¬ ((1 : Int32) = 0) from by decide, if_false, if_true]
      first | exact ⟨rfl, FC.rfl⟩ | exact ⟨trivial, FC.rfl⟩
theorem bnd_c {v f : Int32} (hf : 0 ≤ f.toInt) : (if (0 : Int32) < (if v < f then v else f) then (if v < f then v else f) else 0) = bndS v f := by
  unfold bndS
  simp only [lt_ti, le_ti, z_ti]
  by_cases h1 : v.toInt < f.toInt
  · simp only [h1, if_true]
    by_cases h2 : 0 < v.toInt
    · rw [if_pos h2, if_pos (by omega), if_pos (by omega)]
    · rw [if_neg h2]
      by_cases h3 : 0 ≤ v.toInt
      · rw [if_pos h3, if_pos (by omega), eq_ti, z_ti]; omega
      · rw [if_neg h3]
  · simp only [h1, if_false]
    rw [if_pos (show 0 ≤ v.toInt by omega)]
    by_cases h2 : 0 < f.toInt
    · rw [if_pos h2]
      by_cases h3 : v.toInt ≤ f.toInt
      · rw [if_pos h3, eq_ti]; omega
      · rw [if_neg h3]
    · rw [if_neg h2]
      by_cases h3 : v.toInt ≤ f.toInt
      · rw [if_pos h3, eq_ti, z_ti]; omega
      · rw [if_neg h3, eq_ti, z_ti]; omega
theorem C_up (hN : 30000 ≤ N) (hw3 : w < 3) (ho : isCu o) (hs : SPR sp) (hI : HI n 0 X) (h5 : S.2.2 5 4 = o) (hm : CE p n lk fr sp S) (h : HC o T L0 X S) :
    rn (fX3_passHour_15 N (iN w) N 0 S) (fun q => HC o T L0 (upS w fr sp n X) q.2 ∧ FC (hcC o) S q.2) := by
  have hn := hI.1.1
  refine forG (f := fun n k s => fX3_passHour_15 N (iN w) n (iN k) s) n (J := fun k U => HC o T L0 (upS w fr sp k X) U ∧ CE p n lk fr sp U ∧ U.2.2 5 4 = o ∧ FC (hcC o) S U) ?_ ?_ N 0 S (Nat.zero_le _) ⟨h, hm, h5, FC.rfl⟩ (by omega)
  · rintro m U ⟨h1, h2, h3, h4⟩
    have q := p_ob h2.1
    simp only [fX3_passHour_15, rn_lt, h2.2.1, gd_t q.1, h2.2.2.1]
    rw [if_pos (Int32.le_refl _), rn_some]
    exact ⟨h1, h4⟩
  · rintro m k U hk ⟨h1, h2, h3, h4⟩ ih
    have q := p_ob h2.1
    have hi := HI_up (w := w) (fr := fr) hs hI k (by omega)
    have hii : ¬ iN n ≤ iN k := by rw [iN_le (by omega) (by omega)]; omega
    have i9 : inr (iN k) 9 := inr_iN (by omega) (by omega)
    have x9 : ix (iN k) = k := ix_iN (by omega)
    have hdr := drop_r (w := w) (fr := fr) hs hi hk
    have hp := p2k (show k < 9 by omega)
    have hpz : ((2 ^ k : Nat) : Int) = (2 : Int) ^ k := by norm_cast
    simp only [fX3_passHour_15, rn_lt, h2.2.1, gd_t q.1, h2.2.2.1, if_neg hii, rn_bI]
    refine rn_mono (C_runs hN hw3 ho (by omega) h3 h2 h1.1 (hi.1.2 k (by omega)).2.2.2.2.2.1) (fun r hr => ?_)
    have h1' := h1.fc ho hr.2
    have hF : FC (hcC o) U r.2 := hc_st hr.2
    have h2' := h2.fc ho hF
    have h3' : r.2.2.2 5 4 = o := by rw [hr.2.2]; exact h3
    have hco := (h1'.2.1 k (by omega)).1
    have hsp := h2'.2.2.2.1 k (by omega)
    rw [hr.1]
    have key : rn (fX3_tip N (iN k) ((upS w fr sp k X).2.1 k + (if runS w fr sp (upS w fr sp k X).1 k = 0 then 0 else sp k)) r.2) (fun V => rn (fX3_passHour_15 N (iN w) m (iN (k + 1)) V) (fun q => HC o T L0 (upS w fr sp n X) q.2 ∧ FC (hcC o) S q.2)) := by
      refine rn_mono (C_tip ho hk hi.1 (by omega) (hi.2.2.2.1 k (Nat.le_refl _)) h3' h1') (fun V hV => ih V ⟨hV.1, h2'.fc ho hV.2, by rw [hV.2.2]; exact h3', (h4.tr hF).tr hV.2⟩)
    by_cases e : runS w fr sp (upS w fr sp k X).1 k = 0
    · rw [if_pos e, Int32.add_comm] at key
      rw [if_pos e]
      simp only [gd_t i9, rn_bV, rn_lt, iN_1, x9, hco]
      exact key
    · rw [if_neg e, Int32.add_comm] at key
      rw [if_neg e]
      simp only [h2'.2.1, gd_t q.1, gd_t q.2.1, gd_t i9, rn_bV, rn_lt, iN_1, x9, hco, hsp]
      exact key
theorem C_leak {c : Nat} {A : Nat → Nat → Int32} (hN : 30000 ≤ N) (ho : isCu o) (hc : c < 9) (hm : CE p n lk fr sp S) (h : CU o A S) (hf : 0 ≤ (A 1 c).toInt) :
    rn (fX1_leak N p o (iN c) S) (fun q => q.1 = (match lk with | none => 0 | some L => bndS (valS L A sp c) (A 1 c)) ∧ FC stC S q.2) := by
  have hi : inr (iN c) 9 := inr_iN hc (by omega)
  have hx : ix (iN c) = c := ix_iN (by omega)
  obtain ⟨m0, m1, m2, m3, m4, m5⟩ := hm
  obtain ⟨q1, q2, q3, q4, q5, q6⟩ := p_ob m0
  cases lk with
  | none =>
    have m4' : S.1 (sr p 2) 3 = 0 := m4
    simp only [fX1_leak, gd_t q1, gd_t q3, m4', if_true, rn_some]
    first | exact ⟨rfl, FC.rfl⟩ | exact ⟨trivial, FC.rfl⟩
  | some L =>
    have m4' : ¬ S.1 (sr p 2) 3 = 0 := m4.1
    simp only [fX1_leak, gd_t q1, gd_t q2, gd_t q3, m4', if_false, gd_t ho.ob, gd_t (ho.ar (k := 1) (by omega)), gd_t hi, hx, m3 c hc, rn_bI, rn_lt, h.1 1 (by omega) c hc, rn_some]
    refine rn_mono (C_rule hN ho q5 hc h m4) (fun q hq => ?_)
    rw [hq.1, bnd_c hf]
    exact ⟨rfl, hq.2⟩
theorem C_lk (hN : 30000 ≤ N) (ho : isCu o) (hw : WF n X.1) (h5 : S.2.2 5 4 = o) (hm : CE p n lk fr sp S) (h : HC o T L0 X S) :
    rn (fX3_passHour_70 N (iN w) N 0 S) (fun q => HC o T L0 (lkS lk sp n X) q.2 ∧ FC (hcC o) S q.2) := by
  have hn := hw.1
  have hsr1 : sr o 1 = 50 + 6 * (o - 18) + 1 := ho.sr (by omega)
  have hrg := ho.rg
  refine forG (f := fun n k s => fX3_passHour_70 N (iN w) n (iN k) s) n (J := fun k U => HC o T L0 (lkS lk sp k X) U ∧ CE p n lk fr sp U ∧ U.2.2 5 4 = o ∧ FC (hcC o) S U) ?_ ?_ N 0 S (Nat.zero_le _) ⟨?_, hm, h5, FC.rfl⟩ (by omega)
  · rintro m U ⟨h1, h2, h3, h4⟩
    have q := p_ob h2.1
    simp only [fX3_passHour_70, rn_lt, h2.2.1, gd_t q.1, h2.2.2.1]
    rw [if_pos (Int32.le_refl _), rn_some]
    exact ⟨h1, h4⟩
  · rintro m k U hk ⟨h1, h2, h3, h4⟩ ih
    have q := p_ob h2.1
    have hii : ¬ iN n ≤ iN k := by rw [iN_le (by omega) (by omega)]; omega
    have i9 : inr (iN k) 9 := inr_iN (by omega) (by omega)
    have x9 : ix (iN k) = k := ix_iN (by omega)
    have hwk : WF n (lkS lk sp k X).1 := by
      cases lk with
      | none => exact hw
      | some L => exact lkL_WF hw k (by omega)
    simp only [fX3_passHour_70, rn_lt, h2.2.1, gd_t q.1, h2.2.2.1, if_neg hii, h3, rn_bI]
    refine rn_mono (C_leak hN ho (by omega) h2 h1.1 (hwk.2 k (by omega)).2.1.1) (fun r hr => ?_)
    have h1' := h1.fc ho hr.2
    have hF : FC (hcC o) U r.2 := hc_st hr.2
    have h3' : r.2.2.2 5 4 = o := by rw [hr.2.2]; exact h3
    have hfl := h1'.1.1 1 (by omega) k (by omega)
    have p6 : ∀ v, u2 r.2.1 (sr o 1) k v 5 6 = L0 + (lkS lk sp k X).2.2.2.2 := fun v => by rw [u2_o (by rw [hsr1]; omega)]; exact h1'.2.2.2
    simp only [h3', gd_t ho.ob, gd_t (ho.ar (k := 1) (by omega)), gd_t i9, rn_lt, x9, hfl, p6, iN_1]
    rw [hr.1]
    have hcu1 : cuC o (sr o 1) := Or.inr (by rw [hsr1]; omega)
    have hst : ∀ v, HC o T L0 (u2 (lkS lk sp k X).1 1 k ((lkS lk sp k X).1 1 k - v), (lkS lk sp k X).2.1, (lkS lk sp k X).2.2.1, (lkS lk sp k X).2.2.2.1, (lkS lk sp k X).2.2.2.2 + v) (u2 (u2 r.2.1 (sr o 1) k ((lkS lk sp k X).1 1 k - v)) 5 6 (L0 + (lkS lk sp k X).2.2.2.2 + v), r.2.2) := fun v => by
      have hA := h1'.row ho hcu1 (h1'.1.u (k := 1) (c := k) (x := (lkS lk sp k X).1 1 k - v) ho (by omega))
      have hB := hA.ls (y := (lkS lk sp k X).2.2.2.2 + v) ho
      rw [Int32.add_assoc]
      exact hB
    have hFF : ∀ v, FC (hcC o) U (u2 (u2 r.2.1 (sr o 1) k ((lkS lk sp k X).1 1 k - v)) 5 6 (L0 + (lkS lk sp k X).2.2.2.2 + v), r.2.2) := fun v => (hF.u (Or.inr (Or.inr (Or.inr (Or.inr hcu1))))).u (Or.inl rfl)
    cases lk with
    | none =>
      refine ih _ ⟨?_, h2.fc ho (hFF 0), h3', h4.tr (hFF 0)⟩
      have := hst 0
      simp only [lkS, Int32.sub_zero, Int32.add_zero, u2_self] at this ⊢
      exact this
    | some L =>
      exact ih _ ⟨hst _, h2.fc ho (hFF _), h3', h4.tr (hFF _)⟩
  · cases lk with
    | none => exact h
    | some L => exact h
/-- the class's hour -/
theorem C_hour {A : Nat → Nat → Int32} (hN : 30000 ≤ N) (hw3 : w < 3) (ho : isCu o) (hs : SPR sp) (hw : WF n A) (h5 : S.2.2 5 4 = o) (hm : CE p n lk fr sp S) (h : CU o A S) (hT : ∀ c, c < 9 → S.1 28 c = T c) (hL : S.1 5 6 = L0) :
    rn (fX3_passHour N (iN w) S) (fun U => HC o T L0 (hourS n w lk fr sp A) U ∧ FC (hcC o) S U) := by
  simp only [fX3_passHour, rn_lt, rn_bV, rn_bT, rn_some]
  refine rn_mono (C_fill hN ar27 (by omega)) (fun U hU => ?_)
  obtain ⟨u1, -, u3⟩ := hU
  have hFa : FC (hcC o) S U := u3.mono (fun a ha => Or.inr (Or.inl ha))
  have hcu : CU o A U := h.fr ho u3.1 (fun a ha e => cuC_ne ho ha (b := 27) (by omega) e)
  have hX : HC o T L0 (begS A) (u2 U.1 5 5 0, U.2) := by
    have h0 : HC o T L0 (A, fun _ => 0, fun _ => 0, U.1 5 5, 0) U := by
      refine ⟨hcu, fun c hc => ⟨u1 c hc, ?_⟩, rfl, ?_⟩
      · show U.1 28 c = T c + 0
        rw [u3.1 28 (by decide), hT c hc, Int32.add_zero]
      · show U.1 5 6 = L0 + 0
        rw [u3.1 5 (by decide), hL, Int32.add_zero]
    exact h0.tp ho
  have hFb : FC (hcC o) S (u2 U.1 5 5 0, U.2) := hFa.u (Or.inl rfl)
  have h5b : U.2.2 5 4 = o := by rw [u3.2]; exact h5
  refine rn_mono (C_up hN hw3 ho hs (HI_0 hw) h5b (hm.fc ho hFb) hX) (fun q hq => ?_)
  have hi := HI_up (w := w) (fr := fr) hs (HI_0 hw) n (Nat.le_refl _)
  have hFc := hFb.tr hq.2
  have h5c : q.2.2.2 5 4 = o := by rw [hq.2.2]; exact h5b
  refine rn_mono (C_lk hN ho hi.1 h5c (hm.fc ho hFc) hq.1) (fun r hr => ?_)
  have hFd := hFc.tr hr.2
  have h5d : r.2.2.2 5 4 = o := by rw [hr.2.2]; exact h5c
  simp only [h5d, gd_t ho.ob, rn_some, rn_lt]
  have h6 : r.2.1 o 6 = (lkS lk sp n (upS w fr sp n (begS A))).1 7 0 := hr.1.1.2.1
  rw [h6]
  exact ⟨hr.1.row ho (Or.inl rfl) (hr.1.1.u6 ho), hFd.u (Or.inr (Or.inr (Or.inr (Or.inr (Or.inl rfl)))))⟩
end CH
