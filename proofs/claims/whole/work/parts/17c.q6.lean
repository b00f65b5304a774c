/-! ===== phase 2: office ===== -/
def odS (a b : Int32) : Int32 := if b ≤ a then a - b else b - a
theorem abs_od {t m : Int32} (ht : 0 ≤ t.toInt) (hm : 0 ≤ m.toInt) : (if 0 ≤ (t - m) then (t - m) else 0 - (t - m)) = odS t m := by
  rw [abs_e ht hm]
  unfold odS
  by_cases a : t ≤ m
  · rw [if_pos a]
    by_cases b : m ≤ t
    · rw [if_pos b, Int32.le_antisymm a b]
    · rw [if_neg b]
  · rw [if_neg a, if_pos (Int32.le_of_lt (Int32.not_le.mp a))]
/-- the least cup of a set -/
def lsS (x : Int32) : Int32 := rfn (fnd (fun c => (ix x).testBit c) 9 0)
theorem i9l {k : Nat} (h : k < 2147483648) : (9 : Int32) ≤ iN k ↔ 9 ≤ k := by
  have : (9 : Int32) = iN 9 := rfl
  rw [this, iN_le (by omega) h]
theorem C_least {N m : Nat} {S : PS} (hN : 30000 ≤ N) (hm : m < 512) : fX11_leastOf N (iN m) S = some (lsS (iN m), S) := by
  have xm : ix (iN m) = m := ix_iN (by omega)
  have key : ∀ c, c ≤ 9 → ∀ n, 9 < n + c → fnd (fun c => m.testBit c) (9 - c) c = fnd (fun c => m.testBit c) 9 0 → ∃ t x, fX11_leastOf_2 N (iN m) n (iN c) S = some (t, x, S) ∧ (if t = 0 then (-1) else x) = rfn (fnd (fun c => m.testBit c) 9 0) := by
    intro c hc n
    induction n generalizing c with
    | zero => intro h; omega
    | succ n ih =>
      intro h hf
      rw [fX11_leastOf_2]
      by_cases e : c = 9
      · subst e
        rw [if_pos (by rw [i9l (by omega)]; omega)]
        refine ⟨0, iN 9, rfl, ?_⟩
        rw [if_pos rfl, ← hf]
        rfl
      · rw [if_neg (by rw [i9l (by omega)]; omega), has_m hm (by omega), bI_s]
        have e2 : 9 - c = (8 - c) + 1 := by omega
        rw [e2] at hf
        by_cases eb : m.testBit c = true
        · rw [eb]
          simp only [cond_true]
          rw [if_neg (by decide)]
          refine ⟨1, iN c, rfl, ?_⟩
          rw [if_neg (by decide), ← hf, fnd_t (P := fun c => m.testBit c) eb]
          rfl
        · have e' : m.testBit c = false := by
            cases h : m.testBit c with
            | true => exact absurd h eb
            | false => rfl
          rw [e']
          simp only [cond_false, if_true, lt_b, iN_1]
          refine ih (c + 1) (by omega) (by omega) ?_
          rw [← hf, fnd_f (P := fun c => m.testBit c) eb]
          congr 1
          omega
  obtain ⟨t, x, h1, h2⟩ := key 0 (by omega) N (by omega) rfl
  unfold fX11_leastOf
  rw [show fX11_leastOf_2 N (iN m) N 0 S = fX11_leastOf_2 N (iN m) N (iN 0) S from rfl, h1]
  unfold lsS
  rw [xm, ← h2]
  show (if t = 0 then some (-1, S) else some (x, S)) = _
  split <;> rfl
theorem M_least {N m : Nat} {S : PS} {v1 v2 v4 v5 : Int32} (hN : 30000 ≤ N) (hm : m < 512) (h0 : m ≠ 0) (hS : S.1 80 38 = iN m) : fX12_office_93 N v1 v2 v4 v5 N 0 S = some (lsS (iN m), S) := by
  have xm : ix (iN m) = m := ix_iN (by omega)
  have key : ∀ c, c ≤ 9 → (∀ i, i < c → m.testBit i = false) → ∀ n, 9 < n + c → fnd (fun c => m.testBit c) (9 - c) c = fnd (fun c => m.testBit c) 9 0 → fX12_office_93 N v1 v2 v4 v5 n (iN c) S = some (rfn (fnd (fun c => m.testBit c) 9 0), S) := by
    intro c hc hlow n
    induction n generalizing c with
    | zero => intro h; omega
    | succ n ih =>
      intro h hf
      by_cases e : c = 9
      · subst e
        exfalso
        apply h0
        exact b_ext hm (by omega) (fun i hi => by rw [hlow i hi, Nat.zero_testBit])
      · rw [fX12_office_93, hS, b_has hm (show c < 9 by omega)]
        have e2 : 9 - c = (8 - c) + 1 := by omega
        rw [e2] at hf
        by_cases eb : m.testBit c = true
        · rw [eb]
          simp only [cond_true]
          rw [if_neg (by decide), ← hf, fnd_t (P := fun c => m.testBit c) eb]
          rfl
        · have e' : m.testBit c = false := by
            cases h : m.testBit c with
            | true => exact absurd h eb
            | false => rfl
          rw [e']
          simp only [cond_false, if_true, lt_b, iN_1]
          refine ih (c + 1) (by omega) (fun i hi => ?_) (by omega) ?_
          · by_cases ei : i = c
            · rw [ei]; exact e'
            · exact hlow i (by omega)
          · rw [← hf, fnd_f (P := fun c => m.testBit c) eb]
            congr 1
            omega
  have := key 0 (by omega) (fun i hi => by omega) N (by omega) rfl
  unfold lsS
  rw [xm]
  exact this
section Q6
variable {N : Nat} {V : Cv} {A : Rw} {S : PS}
/-- when, and who, nearest to the n-th hour -/
def ofS (V : Cv) (A : Rw) (n : Int32) : Nat → Int32 × Int32
  | 0 => (-1, 0)
  | k + 1 => if tpK V A (k + 1) = 0 then ofS V A n k else if (ofS V A n k).1 = -1 then (iN (k + 1), tpK V A (k + 1)) else if odS (iN (k + 1)) n < odS (ofS V A n k).1 n then (iN (k + 1), tpK V A (k + 1)) else ofS V A n k
theorem ofS_p {n : Int32} {k : Nat} (hh : 1 ≤ k) : ofS V A n k = if tpK V A k = 0 then ofS V A n (k - 1) else if (ofS V A n (k - 1)).1 = -1 then (iN k, tpK V A k) else if odS (iN k) n < odS (ofS V A n (k - 1)).1 n then (iN k, tpK V A k) else ofS V A n (k - 1) := by
  obtain ⟨j, rfl⟩ : ∃ j, k = j + 1 := ⟨k - 1, by omega⟩
  rw [Nat.add_sub_cancel, ofS]
theorem ofS_r {n : Int32} (hs : SPR V.2.1) (hw : WF V.1 A) : ∀ k, ((ofS V A n k).1 = -1 ∨ ∃ j, j ≤ k ∧ (ofS V A n k).1 = iN j) ∧ ∃ m, m < 512 ∧ (ofS V A n k).2 = iN m
  | 0 => ⟨Or.inl (by rw [ofS]), 0, by omega, by rw [ofS]; rfl⟩
  | k + 1 => by
    have ih := ofS_r (n := n) hs hw k
    obtain ⟨m, hm, ht⟩ := tp_m hs hw (k + 1)
    have up : ((ofS V A n k).1 = -1 ∨ ∃ j, j ≤ k + 1 ∧ (ofS V A n k).1 = iN j) := by
      rcases ih.1 with h | ⟨j, h1, h2⟩
      · exact Or.inl h
      · exact Or.inr ⟨j, by omega, h2⟩
    rw [ofS]
    split
    · exact ⟨up, ih.2⟩
    · split
      · exact ⟨Or.inr ⟨k + 1, by omega, rfl⟩, m, hm, ht⟩
      · split
        · exact ⟨Or.inr ⟨k + 1, by omega, rfl⟩, m, hm, ht⟩
        · exact ⟨up, ih.2⟩
theorem i120 {k : Nat} (h : k < 2147483648) : 120 < iN k ↔ 120 < k := iN_gt rfl h (by omega)
def aOffice (V : Cv) (A : Rw) (n w : Int32) : Int32 ⊕ String :=
  if btw w 0 1 then (if btw n 1 60 then (.inl (if w = 0 then lsS (ofS V A n 120).2 else (ofS V A n 120).1)) else .inr nIAE) else .inr nNSE
theorem C_office {n w : Int32} (q : QC N V A S) : rn (fX11_office N n w S) (fun r => r.1 = aOffice V A n w ∧ FQ S r.2) := by
  obtain ⟨p, hp⟩ := q.2.2.2.2
  have hn := q.2.2.1.1
  have hN := q.1
  unfold aOffice
  by_cases h1 : btw w 0 1
  · by_cases h2 : btw n 1 60
    · obtain ⟨m, rfl, hml, hm⟩ := btw_nat (l := 1) (h := 60) rfl rfl (by omega) (by omega) h2
      have hm0 : 0 ≤ (iN m).toInt := by rw [iN_ti (by omega)]; omega
      simp only [fX11_office, nw_t h1, nr_t h2, bU_l, if_pos h1, if_pos h2, rn_bV, rn_bT, rn_lt]
      refine rn_mono q.look0 (fun U hU => ?_)
      refine for3 (f := fun n k a b s => fX11_office_25 N (iN m) w n a b (iN k) s) 121 (J := fun k a b W => 1 ≤ k ∧ a = (ofS V A (iN m) (k - 1)).1 ∧ b = (ofS V A (iN m) (k - 1)).2 ∧ TR V A (fun _ => 0) 0 (k - 1) W ∧ FQ S W) ?_ ?_ N 1 (-1) 0 U (by omega) ⟨by omega, by rw [ofS], by rw [ofS], hU.1, hU.2⟩ (by omega)
      · rintro j a b W ⟨g0, g1, g2, g3, g4⟩
        simp only [fX11_office_25]
        rw [if_pos (by rw [i120 (by omega)]; omega), rn_some]
        have g1' : a = (ofS V A (iN m) 120).1 := g1
        have g2' : b = (ofS V A (iN m) 120).2 := g2
        obtain ⟨mm, hmm, hmt⟩ := (ofS_r (n := iN m) q.2.1 q.2.2.1 120).2
        by_cases e : w = 0
        · simp only [if_pos e, rn_bI]
          rw [g2', hmt, C_least hN hmm, rn_some, rn_some]
          exact ⟨rfl, g4⟩
        · simp only [if_neg e, rn_some]
          exact ⟨by rw [g1'], g4⟩
      · rintro j k a b W hk ⟨g0, g1, g2, g3, g4⟩ ih
        have hii : ¬ 120 < iN k := by rw [i120 (by omega)]; omega
        simp only [fX11_office_25, if_neg hii, rn_bV]
        refine rn_mono (q.go g3) (fun Y hY => ?_)
        have e1 : k - 1 + 1 = k := by omega
        rw [e1] at hY
        rw [hY.1.2.2.2.1 (by omega)]
        have hk0 : 0 ≤ (iN k).toInt := by rw [iN_ti (by omega)]; omega
        have hs := ofS_p (V := V) (A := A) (n := iN m) g0
        have hr := (ofS_r (n := iN m) q.2.1 q.2.2.1 (k - 1)).1
        rw [← g1] at hs hr
        have hT : TR V A (fun _ => 0) 0 (k + 1 - 1) Y := by rw [Nat.add_sub_cancel]; exact hY.1
        simp only [lt_b, iN_1, show ¬ ((1 : Int32) = 0) from by decide, if_false]
        by_cases et : tpK V A k = 0
        · rw [if_pos et] at hs
          have fin : rn (fX11_office_25 N (iN m) w j a b (iN (k + 1)) Y) _ := ih _ _ _ ⟨by omega, by rw [Nat.add_sub_cancel, hs]; exact g1, by rw [Nat.add_sub_cancel, hs]; exact g2, hT, g4.tr hY.2⟩
          by_cases ea : a = -1
          · rw [if_pos ea, if_pos et]; exact fin
          · rw [if_neg ea, if_pos et]; exact fin
        · rw [if_neg et] at hs
          by_cases ea : a = -1
          · rw [if_pos ea] at hs
            rw [if_pos ea, if_neg et]
            exact ih _ _ _ ⟨by omega, by rw [Nat.add_sub_cancel, hs], by rw [Nat.add_sub_cancel, hs], hT, g4.tr hY.2⟩
          · rw [if_neg ea] at hs
            obtain ⟨i, hi1, hi2⟩ := hr.resolve_left ea
            have ha0 : 0 ≤ a.toInt := by rw [hi2, iN_ti (by omega)]; omega
            rw [if_neg ea, if_neg et, abs_od hk0 hm0, abs_od ha0 hm0]
            by_cases el : odS (iN k) (iN m) < odS a (iN m)
            · rw [if_pos el] at hs
              rw [if_neg (Int32.not_le.mpr el), if_neg (by decide)]
              exact ih _ _ _ ⟨by omega, by rw [Nat.add_sub_cancel, hs], by rw [Nat.add_sub_cancel, hs], hT, g4.tr hY.2⟩
            · rw [if_neg el] at hs
              rw [if_pos (Int32.not_lt.mp el), if_pos rfl]
              exact ih _ _ _ ⟨by omega, by rw [Nat.add_sub_cancel, hs]; exact g1, by rw [Nat.add_sub_cancel, hs]; exact g2, hT, g4.tr hY.2⟩
    · simp only [fX11_office, nw_t h1, nr_f h2, bU_l, bU_r, if_pos h1, if_neg h2, rn_some]
      first | exact ⟨trivial, FQ.rfl⟩ | exact ⟨rfl, FQ.rfl⟩
  · simp only [fX11_office, nw_f h1, bU_l, bU_r, if_neg h1, rn_some]
    first | exact ⟨trivial, FQ.rfl⟩ | exact ⟨rfl, FQ.rfl⟩
theorem M_office {n w : Int32} (q : QM N V A S) : rn (fX12_office N n w S) (fun r => MA k2 (aOffice V A n w) r.1 (r.2.1 80 0) ∧ FP S r.2) := by
  have hn := q.2.2.1.1
  have hN := q.1
  have q0 := q.fp (zFP (k := 0))
  have hF := zFP (S := S) (k := 0)
  have h80 := q0.2.2.2.2.1
  have hz := z0 (S := S)
  unfold aOffice
  by_cases h1 : btw w 0 1
  · by_cases h2 : btw n 1 60
    · obtain ⟨m, rfl, hml, hm⟩ := btw_nat (l := 1) (h := 60) rfl rfl (by omega) (by omega) h2
      simp only [fX12_office, rn_lt, iw_t hz h1, wi_t h2, bI_s, if_pos h1, if_pos h2, rt_t hz (show (1 : Int32) ≠ 0 by decide), show ¬ ((1 : Int32) = 0) from by decide, if_false, rn_bV, rn_bT, rn_some]
      refine rn_mono q0.tries (fun U hU => ?_)
      refine for3 (f := fun n k a b s => fX12_office_43 N (iN m) w n a b (iN k) s) 121 (J := fun k a b W => 1 ≤ k ∧ a = lsS (ofS V A (iN m) (k - 1)).2 ∧ b = (ofS V A (iN m) (k - 1)).1 ∧ TM V A (k - 1) W ∧ FH 64 (u2 S.1 80 0 0, S.2) W) ?_ ?_ N 1 (-1) (-1) U (by omega) ⟨by omega, by rw [ofS]; rfl, by rw [ofS], hU.1, hU.2⟩ (by omega)
      · rintro j a b W ⟨g0, g1, g2, g3, g4⟩
        simp only [fX12_office_43]
        rw [if_pos (by rw [i120 (by omega)]; omega), rn_some]
        have g1' : a = lsS (ofS V A (iN m) 120).2 := g1
        have g2' : b = (ofS V A (iN m) 120).1 := g2
        exact ⟨⟨g4.t0.trans hz, by rw [g1', g2']⟩, hF.tr (FP.fh g4)⟩
      · rintro j k a b W hk ⟨g0, g1, g2, g3, g4⟩ ih
        have hii : ¬ 120 < iN k := by rw [i120 (by omega)]; omega
        simp only [fX12_office_43, if_neg hii, rn_bV]
        refine rn_mono (q.hour g3) (fun Y hY => ?_)
        have e1 : k - 1 + 1 = k := by omega
        have e3 : Y.1 80 38 = tpK V A k := by
          rw [hY.2.1.2.2.1]
          have := tpK_s (V := V) (A := A) (k := k - 1)
          rw [e1] at this
          exact this.symm
        rw [e1] at hY
        obtain ⟨mm, hmm, hmt⟩ := tp_m q.2.1 q.2.2.1 k
        have hs := ofS_p (V := V) (A := A) (n := iN m) g0
        rw [← g2] at hs
        have hT : TM V A (k + 1 - 1) Y := by rw [Nat.add_sub_cancel]; exact hY.1
        have hFF := g4.tr hY.2.2
        rw [e3]
        by_cases et : tpK V A k = 0
        · rw [if_pos et] at hs ⊢
          rw [rn_lt, iN_1]
          exact ih _ _ _ ⟨by omega, by rw [Nat.add_sub_cancel, hs]; exact g1, by rw [Nat.add_sub_cancel, hs]; exact g2, hT, hFF⟩
        · rw [if_neg et] at hs ⊢
          have hm0 : mm ≠ 0 := fun e => et (by rw [hmt, e]; rfl)
          have hle : ∀ v4 v5 : Int32, fX12_office_93 N (iN m) w v4 v5 N 0 Y = some (lsS (tpK V A k), Y) := fun v4 v5 => by
            rw [hmt]
            exact M_least hN hmm hm0 (by rw [e3, hmt])
          by_cases ea : b = -1
          · rw [if_pos ea] at hs ⊢
            rw [hle]
            simp only [rn_bT, rn_some, rn_lt, iN_1]
            exact ih _ _ _ ⟨by omega, by rw [Nat.add_sub_cancel, hs], by rw [Nat.add_sub_cancel, hs], hT, hFF⟩
          · rw [if_neg ea] at hs ⊢
            simp only [fX12_offBy, lt_b, bI_s]
            by_cases el : odS (iN k) (iN m) < odS b (iN m)
            · have el' : (if iN m ≤ iN k then iN k - iN m else iN m - iN k) < (if iN m ≤ b then b - iN m else iN m - b) := el
              rw [if_pos el] at hs
              rw [if_pos el', hle]
              simp only [rn_bT, rn_some, iN_1]
              exact ih _ _ _ ⟨by omega, by rw [Nat.add_sub_cancel, hs], by rw [Nat.add_sub_cancel, hs], hT, hFF⟩
            · have el' : ¬ (if iN m ≤ iN k then iN k - iN m else iN m - iN k) < (if iN m ≤ b then b - iN m else iN m - b) := el
              rw [if_neg el] at hs
              rw [if_neg el', iN_1]
              exact ih _ _ _ ⟨by omega, by rw [Nat.add_sub_cancel, hs]; exact g1, by rw [Nat.add_sub_cancel, hs]; exact g2, hT, hFF⟩
    · simp only [fX12_office, rn_lt, iw_t hz h1, wi_f h2, bI_s, if_pos h1, if_neg h2, rt_f hz (show (2 : Int32) ≠ 0 by decide), rn_some, show ¬ ((1 : Int32) = 0) from by decide, if_false, if_true]
      exact ⟨by show u2 _ 80 0 _ 80 0 = _; rw [u2_at, upd_at]; decide, hF.tr zFP⟩
  · simp only [fX12_office, rn_lt, iw_f hz h1, bI_s, if_neg h1, rn_some, if_true]
    exact ⟨by show u2 _ 80 0 _ 80 0 = _; rw [u2_at, upd_at]; decide, hF.tr zFP⟩
end Q6
