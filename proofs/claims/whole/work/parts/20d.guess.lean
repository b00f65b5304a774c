/-! ===== phase 2: led elsewhere: the guesses, in the model; the question ===== -/
section GUE
variable {N m : Nat} {V : Cv} {A : Rw} {H : Nat → Nat → Int32} {S : PS}
/-- what follows once a guess is one: c is led by x -/
theorem M_try {c : Nat} {x : Int32} (q : QM N V A S) (hh : HMd m H S) (hv : WH V.1 m H) (hc : c < V.1) (hxw : x = -1 ∨ ∃ d, x = iN d ∧ c < d ∧ d < V.1) :
    rn (bV (fX12_tries N S) fun S8 => bV (fX12_leads N 64 (iN c) x S8) fun S11 => bI (fX12_isHeard N S11) fun x13 S14 => gd (b01 x13) <| some (x13, S14)) (fun r => (r.1 = 0 ∨ r.1 = 1) ∧ (r.1 = 1 ↔ fitA V (ledS A c x) m H) ∧ (r.1 = 1 → ∀ i, i < 40 → r.2.1 106 i = tpK V (ledS A c x) (i + 1)) ∧ FG S r.2) := by
  have hw := q.2.2.1
  have hn := hw.1
  rw [rn_bV]
  refine rn_mono q.tries (fun U hU => ?_)
  rw [rn_bV, show (64 : Int32) = iN 64 from rfl]
  refine rn_mono (M_leads hn (by omega) hc hU.1.1) (fun W hW => ?_)
  have F1 : FG S W := (FG.fh hU.2).tr (FG.fh hW.2)
  have tW : TM V (ledS A c x) 0 W := ⟨hW.1, hU.1.2.fh hW.2⟩
  rw [rn_bI]
  refine rn_mono (M_isHeard q.1 q.2.1 (led_WF hw hc hxw) tW (F1.hm hh) hv) (fun r hr => ?_)
  rw [gd_t hr.1, rn_some]
  exact ⟨hr.1, hr.2.1, hr.2.2.1, F1.tr hr.2.2.2⟩
theorem M_guess {v : Nat} (q : QM N V A S) (hh : HMd m H S) (hv : WH V.1 m H) (hv10 : v < 10 * V.1) : rn (fX12_isGuess N (iN v) S) (fun r => (r.1 = 0 ∨ r.1 = 1) ∧ (r.1 = 1 ↔ gsB V A m H v = true) ∧ (r.1 = 1 → ∀ i, i < 40 → r.2.1 106 i = tpK V (ledS A (v / 10) (gsX v)) (i + 1)) ∧ FG S r.2) := by
  have hw := q.2.2.1
  have hn := hw.1
  have hmr := q.2.2.2.1
  have h80 : S.1 80 1 = iN V.1 := q.2.2.2.2.1
  have hc : v / 10 < V.1 := by omega
  have e1 : iN v / 10 = iN (v / 10) := by rw [show (10 : Int32) = iN 10 from rfl, iN_div (by omega) (by omega) (by omega)]
  have e2 : iN v - iN v / 10 * 10 = iN (v % 10) := by
    rw [e1, show (10 : Int32) = iN 10 from rfl, iN_mul, iN_sub (by omega)]
    congr 1
    omega
  have o1 : (19 : Int32) + iN (v / 10) = iN (0 + 19 + v / 10) := by rw [show (19 : Int32) = iN 19 from rfl, iN_add]
  have i1 : inr (iN (0 + 19 + v / 10)) 128 := inr_iN (by omega) (by omega)
  have x1 : ix (iN (0 + 19 + v / 10)) = 0 + 19 + v / 10 := ix_iN (by omega)
  have o2 : (28 : Int32) + iN (v / 10) = iN (0 + 28 + v / 10) := by rw [show (28 : Int32) = iN 28 from rfl, iN_add]
  have i2 : inr (iN (0 + 28 + v / 10)) 128 := inr_iN (by omega) (by omega)
  have x2 : ix (iN (0 + 28 + v / 10)) = 0 + 28 + v / 10 := ix_iN (by omega)
  have r1 : S.1 91 (0 + 19 + v / 10) = A 2 (v / 10) := (hmr.2 _ hc).2.2.1
  have r2 : S.1 91 (0 + 28 + v / 10) = A 3 (v / 10) := (hmr.2 _ hc).2.2.2.1
  have nob : ¬ gsP V A m H v → rn (some ((0 : Int32), S)) (fun r => (r.1 = 0 ∨ r.1 = 1) ∧ (r.1 = 1 ↔ gsB V A m H v = true) ∧ (r.1 = 1 → ∀ i, i < 40 → r.2.1 106 i = tpK V (ledS A (v / 10) (gsX v)) (i + 1)) ∧ FG S r.2) := by
    intro h
    rw [rn_some]
    exact ⟨Or.inl rfl, ⟨fun q => absurd q n01, fun q => absurd (of_decide_eq_true q) h⟩, fun q => absurd q n01, FG.rfl⟩
  have yes : ∀ x, x = gsX v → (v % 10 = 9 ∨ (v / 10 < v % 10 ∧ v % 10 < V.1)) → ¬ (A 2 (v / 10) = x ∧ A 3 (v / 10) = -1) → rn (bV (fX12_tries N S) fun S8 => bV (fX12_leads N 64 (iN (v / 10)) x S8) fun S11 => bI (fX12_isHeard N S11) fun x13 S14 => gd (b01 x13) <| some (x13, S14)) (fun r => (r.1 = 0 ∨ r.1 = 1) ∧ (r.1 = 1 ↔ gsB V A m H v = true) ∧ (r.1 = 1 → ∀ i, i < 40 → r.2.1 106 i = tpK V (ledS A (v / 10) (gsX v)) (i + 1)) ∧ FG S r.2) := by
    intro x hx hd hne
    have hxw : x = -1 ∨ ∃ d, x = iN d ∧ v / 10 < d ∧ d < V.1 := by
      rw [hx]
      unfold gsX
      rcases hd with e | e
      · rw [if_pos e]; exact Or.inl rfl
      · rw [if_neg (by omega)]; exact Or.inr ⟨v % 10, rfl, e⟩
    refine rn_mono (M_try q hh hv hc hxw) (fun r hr => ⟨hr.1, ?_, ?_, hr.2.2.2⟩)
    · rw [hr.2.1]
      unfold gsB
      rw [decide_eq_true_iff]
      unfold gsP
      rw [← hx]
      exact ⟨fun g => ⟨hd, hne, g⟩, fun g => g.2.2⟩
    · rw [← hx]; exact hr.2.2.1
  unfold fX12_isGuess
  rw [e2, e1, lt_b]
  have n9 : iN (v % 10) = 9 ↔ v % 10 = 9 := iN_eq (b := 9) (by omega) (by omega)
  by_cases e : v % 10 = 9
  · have hx : (-1 : Int32) = gsX v := by unfold gsX; rw [if_pos e]
    rw [if_pos (n9.mpr e), if_pos rfl, o2, gd_t i2, x2, r2]
    by_cases e3 : A 3 (v / 10) = -1
    · rw [if_pos e3, o1, gd_t i1, x1, r1]
      by_cases e4 : A 2 (v / 10) = -1
      · rw [if_pos e4]
        exact nob (fun g => g.2.1 ⟨by rw [← hx]; exact e4, e3⟩)
      · rw [if_neg e4]
        exact yes _ hx (Or.inl e) (fun g => e4 g.1)
    · rw [if_neg e3]
      exact yes _ hx (Or.inl e) (fun g => e3 g.2)
  · have hx : iN (v % 10) = gsX v := by unfold gsX; rw [if_neg e]
    have lt9 : v % 10 < 10 := Nat.mod_lt _ (by omega)
    rw [if_neg (fun g => e (n9.mp g)), lt_b, if_neg (iN_n1 (by omega))]
    by_cases e5 : v % 10 ≤ v / 10
    · rw [if_pos (by rw [iN_le (by omega) (by omega)]; exact e5)]
      exact nob (fun g => by rcases g.1 with g | g <;> omega)
    · rw [if_neg (by rw [iN_le (by omega) (by omega)]; exact e5), h80]
      by_cases e6 : V.1 ≤ v % 10
      · rw [if_pos (by rw [iN_le (by omega) (by omega)]; exact e6)]
        exact nob (fun g => by rcases g.1 with g | g <;> omega)
      · rw [if_neg (by rw [iN_le (by omega) (by omega)]; exact e6), o2, gd_t i2, x2, r2]
        by_cases e3 : A 3 (v / 10) = -1
        · rw [if_pos e3, o1, gd_t i1, x1, r1]
          by_cases e4 : A 2 (v / 10) = iN (v % 10)
          · rw [if_pos e4]
            exact nob (fun g => g.2.1 ⟨by rw [← hx]; exact e4, e3⟩)
          · rw [if_neg e4]
            exact yes _ hx (Or.inr (by omega)) (fun g => e4 g.1)
        · rw [if_neg e3]
          exact yes _ hx (Or.inr (by omega)) (fun g => e3 g.2)
end GUE
/-- by the cave, the row, what was heard -/
def aLed (V : Cv) (M : Mi) (w : Int32) : Int32 ⊕ String :=
  if btw w 0 2 then .inl (if w = 2 then (if decide (fitA V M.1 M.2.2.1 M.2.2.2) = true then 1 else 0) else if w = 0 then iN (cnQ (gsB V M.1 M.2.2.1 M.2.2.2) (10 * V.1)) else fsQ (gsB V M.1 M.2.2.1 M.2.2.2) (10 * V.1)) else .inr nNSE
section LEQ
variable {N : Nat} {V : Cv} {M : Mi} {S : PS}
theorem C_led {w : Int32} (q : QC N V M.1 S) (hh : HCd M.2.2.1 M.2.2.2 S) (hv : WH V.1 M.2.2.1 M.2.2.2) : rn (fX11_led N w S) (fun r => r.1 = aLed V M w ∧ FQ S r.2) := by
  have ob3 : obj 3 6 := ⟨rfl, by decide⟩
  unfold aLed fX11_led
  by_cases h2 : btw w 0 2
  · rw [nw_t h2, bU_l, if_pos h2]
    by_cases k2 : w = 2
    · rw [if_pos k2, if_pos k2, rn_bI]
      unfold fX9_fitsAsItIs
      rw [gd_t ob3, sr10.2.2.1, rn_bV]
      refine rn_mono (C_wocT (V := V) q.1 q.2.2.2.1 q.2.2.2.2) (fun U hU => ?_)
      rw [gd_t ob3, sr10.2.2.2, rn_bI]
      refine rn_mono (C_fits q.1 q.2.1 q.2.2.1 hU.1 ((FS.ft hU.2).hc hh) hv) (fun r hr => ?_)
      obtain ⟨r1, r2, -, r4⟩ := hr
      have FR : FS S r.2 := (FS.ft hU.2).tr (FS.fc r4 (fun a ha => Or.inl ha))
      rw [gd_t r1, rn_some, rn_lt, rn_some]
      refine ⟨congrArg Sum.inl ?_, FR.fq⟩
      rcases r1 with e | e
      · rw [if_pos e, if_neg (fun g => by have := r2.mpr (of_decide_eq_true g); rw [e] at this; exact n01 this)]
      · rw [if_neg (show ¬ r.1 = 0 by rw [e]; decide), if_pos (decide_eq_true (r2.mp e))]
    · rw [if_neg k2, if_neg k2, rn_bV]
      refine rn_mono (C_search q hh hv) (fun U hU => ?_)
      by_cases k0 : w = 0
      · rw [if_pos k0, if_pos k0, rn_some, hU.1.1]
        exact ⟨rfl, hU.2.fq⟩
      · rw [if_neg k0, if_neg k0, rn_some, hU.1.2.1]
        exact ⟨rfl, hU.2.fq⟩
  · rw [nw_f h2, bU_r, if_neg h2, rn_some]
    exact ⟨rfl, FQ.rfl⟩
theorem M_led {w : Int32} (q : QM N V M.1 S) (hh : HMd M.2.2.1 M.2.2.2 S) (hv : WH V.1 M.2.2.1 M.2.2.2) : rn (fX12_led N w S) (fun r => MA k1 (aLed V M w) r.1 (r.2.1 80 0) ∧ FP S r.2) := by
  have hF : FP S (u2 S.1 80 0 0, S.2) := zFP
  have q0 := q.fp hF
  have hz := z0 (S := S)
  have hh0 : HMd M.2.2.1 M.2.2.2 (u2 S.1 80 0 0, S.2) := by
    unfold HMd
    rw [hF.1.1 105 (by simp [pm]), hF.1.2.2 49 (by simp [pf])]
    exact hh
  unfold aLed fX12_led
  refine rn_l (fun T eT => ?_)
  rw [← eT] at q0 hF hz hh0
  clear eT
  have hN := q0.1
  have hn := q0.2.2.1.1
  have h80 : T.1 80 1 = iN V.1 := q0.2.2.2.2.1
  by_cases h2 : btw w 0 2
  · rw [iw_t hz h2, bI_s, if_neg (by decide), if_pos h2]
    by_cases k2 : w = 2
    · rw [if_pos k2, if_pos k2, rn_bV]
      refine rn_mono q0.tries (fun U hU => ?_)
      have F1 := FG.fh hU.2
      rw [rn_bI]
      refine rn_mono (M_isHeard hN q0.2.1 q0.2.2.1 hU.1 (F1.hm hh0) hv) (fun r hr => ?_)
      obtain ⟨r1, r2, -, r4⟩ := hr
      have F2 := F1.tr r4
      rw [rn_lt, rn_some]
      refine ⟨⟨(F2.1.2.1 0 (by unfold hfM; omega)).trans hz, ?_⟩, hF.tr F2.fp⟩
      rcases r1 with e | e
      · rw [if_pos e, if_neg (fun g => by have := r2.mpr (of_decide_eq_true g); rw [e] at this; exact n01 this)]
      · rw [if_neg (show ¬ r.1 = 0 by rw [e]; decide), if_pos (decide_eq_true (r2.mp e))]
    · rw [if_neg k2, if_neg k2, rn_bT]
      refine for3 (f := fun f' j a b s => fX12_led_45 N w f' a b (iN j) s) (10 * V.1) (J := fun j a b W => a = iN (cnQ (gsB V M.1 M.2.2.1 M.2.2.2) j) ∧ b = fsQ (gsB V M.1 M.2.2.1 M.2.2.2) j ∧ FG T W) ?_ ?_ N 0 0 (-1) T (by omega) ⟨by rw [cnQ]; rfl, by rw [fsQ], FG.rfl⟩ (by omega)
      · rintro f' a b W ⟨g1, g2, g3⟩
        have m1 : W.1 80 1 = iN V.1 := by rw [g3.1.2.1 1 (by unfold hfM; omega)]; exact h80
        have o10 : (10 : Int32) * iN V.1 = iN (10 * V.1) := iN_mul 10 V.1
        simp only [fX12_led_45]
        rw [m1, o10, if_pos (Int32.le_refl _), rn_some, rn_lt, rn_lt, rn_lt, rn_lt, rn_lt, rn_some]
        refine ⟨⟨(g3.1.2.1 0 (by unfold hfM; omega)).trans hz, ?_⟩, hF.tr g3.fp⟩
        rw [g1, g2]
      · rintro f' j a b W hj ⟨g1, g2, g3⟩ ih
        have m1 : W.1 80 1 = iN V.1 := by rw [g3.1.2.1 1 (by unfold hfM; omega)]; exact h80
        have o10 : (10 : Int32) * iN V.1 = iN (10 * V.1) := iN_mul 10 V.1
        simp only [fX12_led_45]
        rw [m1, o10, if_neg (by rw [iN_le (by omega) (by omega)]; omega), rn_bI]
        refine rn_mono (M_guess (q0.fp g3.fp) (g3.hm hh0) hv hj) (fun r hr => ?_)
        obtain ⟨r1, r2, -, r4⟩ := hr
        rcases r1 with e | e
        · have ng : ¬ gsB V M.1 M.2.2.1 M.2.2.2 j = true := fun g => by have := r2.mpr g; rw [e] at this; exact n01 this
          rw [if_pos e, rn_lt, iN_1]
          exact ih a b r.2 ⟨by rw [cnQ_s, if_neg ng]; exact g1, by rw [fsQ_s, if_neg ng]; exact g2, g3.tr r4⟩
        · have yg := r2.mp e
          rw [if_neg (show ¬ r.1 = 0 by rw [e]; decide), rn_lt]
          by_cases e2 : b = -1
          · rw [if_pos e2, rn_lt, iN_1]
            exact ih _ _ r.2 ⟨by rw [cnQ_s, if_pos yg, g1, iN_1], by rw [fsQ_s, if_pos yg, ← g2, if_pos e2], g3.tr r4⟩
          · rw [if_neg e2, rn_lt, iN_1]
            exact ih _ _ r.2 ⟨by rw [cnQ_s, if_pos yg, g1, iN_1], by rw [fsQ_s, if_pos yg, ← g2, if_neg e2], g3.tr r4⟩
  · rw [iw_f hz h2, bI_s, if_pos rfl, if_neg h2, rn_some]
    exact ⟨MAx (T := T) (x := 1) (by decide), hF.tr zFP⟩
end LEQ
