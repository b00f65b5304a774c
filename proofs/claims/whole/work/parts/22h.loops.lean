/-! ===== phase 2: rules: the class's loops ===== -/
section LPD
variable {N : Nat} {b : Nat → Int32} {L : Nat} {o p : Nat} {K : List Int32} {S : PS} {rec : RecT} {w : Int32} {f i l : Nat} {Q : PS → Prop}
theorem lpC_op (hN : 30000 ≤ N) (ho : isRu o) (hl : l = 1 ∨ l = 2 ∨ l = 5 ∨ l = 6) (h : XC b L o p K S) (e : (opL b L p).1 = l) (hi : i < 700)
    (fin : rn (fX10_take N S) (fun S1 => rn (rec l w S1) (fun S2 => S2.2.2 1 2 = o ∧ rn (fX8_add N o (opL b L p).2 S2) (fun S3 => rn (lpC N rec l w f (iN (i + 1)) S3) Q)))) : rn (lpC N rec l w (f + 1) (iN i) S) Q := by
  have i7 : ¬ (700 : Int32) ≤ iN i := by rw [show (700 : Int32) = iN 700 from rfl, iN_le (by omega) (by omega)]; omega
  have ob := (ru_ob ho).1
  have wd : ∀ k, k < 12 → fX10_isWord N k S = some ((if wdP b L p k then 1 else 0), S) := fun k hk => C_isWd hN hk h.1
  have sg : ∀ c : Int32, 0 ≤ c.toInt ∧ c.toInt < 128 → fX10_isSign N c S = some ((if sgP b L p c then 1 else 0), S) := fun c hc => C_isSg h.1 hc
  unfold lpC at fin ⊢
  rcases hl with rfl | rfl | rfl | rfl
  · have w10 := op_1.mp e
    have ec : opL b L p = (1, -8) := if_pos w10
    rw [ec] at fin
    rw [if_pos rfl, rn_bT, fX7_readExpr_68, if_neg i7, if_pos h.2.1, wd 10 (by omega), if_pos w10, bI_s, if_neg (by decide), rn_bV]
    refine rn_mono fin (fun S1 h1 => ?_)
    rw [rn_bV]
    refine rn_mono h1 (fun S2 h2 => ?_)
    rw [h2.1, lt_b, gd_t ob, rn_bV]
    refine rn_mono h2.2 (fun S3 h3 => ?_)
    rw [if_pos rfl, rn_bT] at h3
    rw [rn_lt, iN_1]
    exact h3
  · have w9 := op_2.mp e
    have ec : opL b L p = (2, -9) := by
      have n10 : ¬ wdP b L p 10 := wd_2 (j := 9) (k := 10) (by omega) (by omega) (by omega) w9
      unfold opL; rw [if_neg n10, if_pos w9]
    rw [ec] at fin
    rw [if_neg (by decide), if_pos rfl, rn_bT, fX7_readAnd_7, if_neg i7, if_pos h.2.1, wd 9 (by omega), if_pos w9, bI_s, if_neg (by decide), rn_bV]
    refine rn_mono fin (fun S1 h1 => ?_)
    rw [rn_bV]
    refine rn_mono h1 (fun S2 h2 => ?_)
    rw [h2.1, lt_b, gd_t ob, rn_bV]
    refine rn_mono h2.2 (fun S3 h3 => ?_)
    rw [if_neg (by decide), if_pos rfl, rn_bT] at h3
    rw [rn_lt, iN_1]
    exact h3
  · rw [if_neg (by decide), if_neg (by decide), if_pos rfl, rn_bT, fX7_readSum_7, if_neg i7, if_pos h.2.1, sg 43 (by decide), bI_s]
    by_cases s43 : sgP b L p 43
    · have ec := op_sg.2.2.1.mpr s43
      rw [ec] at fin
      rw [if_pos s43, if_neg (by decide), if_neg (by decide), rn_bV]
      refine rn_mono fin (fun S1 h1 => ?_)
      rw [rn_bV]
      refine rn_mono h1 (fun S2 h2 => ?_)
      rw [h2.1, lt_b, gd_t ob, rn_bV]
      refine rn_mono h2.2 (fun S3 h3 => ?_)
      rw [if_neg (by decide), if_neg (by decide), if_pos rfl, rn_bT] at h3
      rw [rn_lt, iN_1]
      exact h3
    · have ec : opL b L p = (5, -13) := by
        rcases op_all (b := b) (L := L) (p := p) with g | g | g | g | g | g | g | g | g
        · rw [g] at e; exact absurd e (by decide)
        · rw [g] at e; exact absurd e (by decide)
        · rw [g] at e; exact absurd e (by decide)
        · rw [g] at e; exact absurd e (by decide)
        · rw [g] at e; exact absurd e (by decide)
        · exact absurd (op_sg.2.2.1.mp g) s43
        · exact g
        · rw [g] at e; exact absurd e (by decide)
        · rw [g] at e; exact absurd e (by decide)
      have s45 := op_sg.2.2.2.1.mp ec
      rw [ec] at fin
      rw [if_neg s43, if_pos rfl, sg 45 (by decide), if_pos s45, bI_s, lt_b, if_neg (show ¬ (1 : Int32) = 0 by decide), if_neg (show ¬ (-13 : Int32) = 0 by decide), rn_bV]
      refine rn_mono fin (fun S1 h1 => ?_)
      rw [rn_bV]
      refine rn_mono h1 (fun S2 h2 => ?_)
      rw [h2.1, lt_b, gd_t ob, rn_bV]
      refine rn_mono h2.2 (fun S3 h3 => ?_)
      rw [if_neg (by decide), if_neg (by decide), if_pos rfl, rn_bT] at h3
      rw [rn_lt, iN_1]
      exact h3
  · rw [if_neg (by decide), if_neg (by decide), if_neg (by decide), rn_bT, fX7_readProduct_7, if_neg i7, if_pos h.2.1, sg 42 (by decide), bI_s]
    by_cases s42 : sgP b L p 42
    · have ec := op_sg.2.2.2.2.1.mpr s42
      rw [ec] at fin
      rw [if_pos s42, if_neg (by decide), if_neg (by decide), rn_bV]
      refine rn_mono fin (fun S1 h1 => ?_)
      rw [rn_bV]
      refine rn_mono h1 (fun S2 h2 => ?_)
      rw [h2.1, lt_b, gd_t ob, rn_bV]
      refine rn_mono h2.2 (fun S3 h3 => ?_)
      rw [if_neg (by decide), if_neg (by decide), if_neg (by decide), rn_bT] at h3
      rw [rn_lt, iN_1]
      exact h3
    · have ec : opL b L p = (6, -15) := by
        rcases op_all (b := b) (L := L) (p := p) with g | g | g | g | g | g | g | g | g
        · rw [g] at e; exact absurd e (by decide)
        · rw [g] at e; exact absurd e (by decide)
        · rw [g] at e; exact absurd e (by decide)
        · rw [g] at e; exact absurd e (by decide)
        · rw [g] at e; exact absurd e (by decide)
        · rw [g] at e; exact absurd e (by decide)
        · rw [g] at e; exact absurd e (by decide)
        · exact absurd (op_sg.2.2.2.2.1.mp g) s42
        · exact g
      have s47 := op_sg.2.2.2.2.2.mp ec
      rw [ec] at fin
      rw [if_neg s42, if_pos rfl, sg 47 (by decide), if_pos s47, bI_s, lt_b, if_neg (show ¬ (1 : Int32) = 0 by decide), if_neg (show ¬ (-15 : Int32) = 0 by decide), rn_bV]
      refine rn_mono fin (fun S1 h1 => ?_)
      rw [rn_bV]
      refine rn_mono h1 (fun S2 h2 => ?_)
      rw [h2.1, lt_b, gd_t ob, rn_bV]
      refine rn_mono h2.2 (fun S3 h3 => ?_)
      rw [if_neg (by decide), if_neg (by decide), if_neg (by decide), rn_bT] at h3
      rw [rn_lt, iN_1]
      exact h3
theorem lpC_no (hN : 30000 ≤ N) (hl : l = 1 ∨ l = 2 ∨ l = 5 ∨ l = 6) (h : XC b L o p K S) (e : (opL b L p).1 ≠ l) (fin : Q S) : rn (lpC N rec l w (f + 1) (iN i) S) Q := by
  have wd : ∀ k, k < 12 → fX10_isWord N k S = some ((if wdP b L p k then 1 else 0), S) := fun k hk => C_isWd hN hk h.1
  have sg : ∀ c : Int32, 0 ≤ c.toInt ∧ c.toInt < 128 → fX10_isSign N c S = some ((if sgP b L p c then 1 else 0), S) := fun c hc => C_isSg h.1 hc
  unfold lpC
  rcases hl with rfl | rfl | rfl | rfl
  · have n : ¬ wdP b L p 10 := fun q => e (op_1.mpr q)
    rw [if_pos rfl, rn_bT, fX7_readExpr_68]
    by_cases g : (700 : Int32) ≤ iN i
    · rw [if_pos g, rn_some, rn_some]; exact fin
    · rw [if_neg g, if_pos h.2.1, wd 10 (by omega), if_neg n, bI_s, if_pos rfl, rn_some, rn_some]; exact fin
  · have n : ¬ wdP b L p 9 := fun q => e (op_2.mpr q)
    rw [if_neg (by decide), if_pos rfl, rn_bT, fX7_readAnd_7]
    by_cases g : (700 : Int32) ≤ iN i
    · rw [if_pos g, rn_some, rn_some]; exact fin
    · rw [if_neg g, if_pos h.2.1, wd 9 (by omega), if_neg n, bI_s, if_pos rfl, rn_some, rn_some]; exact fin
  · have n1 : ¬ sgP b L p 43 := fun q => e (by rw [op_sg.2.2.1.mpr q])
    have n2 : ¬ sgP b L p 45 := fun q => e (by rw [op_sg.2.2.2.1.mpr q])
    rw [if_neg (by decide), if_neg (by decide), if_pos rfl, rn_bT, fX7_readSum_7]
    by_cases g : (700 : Int32) ≤ iN i
    · rw [if_pos g, rn_some, rn_some]; exact fin
    · rw [if_neg g, if_pos h.2.1, sg 43 (by decide), if_neg n1, bI_s, if_pos rfl, sg 45 (by decide), if_neg n2, bI_s, if_pos rfl, lt_b, if_pos rfl, rn_some, rn_some]; exact fin
  · have n1 : ¬ sgP b L p 42 := fun q => e (by rw [op_sg.2.2.2.2.1.mpr q])
    have n2 : ¬ sgP b L p 47 := fun q => e (by rw [op_sg.2.2.2.2.2.mpr q])
    rw [if_neg (by decide), if_neg (by decide), if_neg (by decide), rn_bT, fX7_readProduct_7]
    by_cases g : (700 : Int32) ≤ iN i
    · rw [if_pos g, rn_some, rn_some]; exact fin
    · rw [if_neg g, if_pos h.2.1, sg 42 (by decide), if_neg n1, bI_s, if_pos rfl, sg 47 (by decide), if_neg n2, bI_s, if_pos rfl, lt_b, if_pos rfl, rn_some, rn_some]; exact fin
theorem lpC_bad {fa pl : Int32} (hl : l = 1 ∨ l = 2 ∨ l = 5 ∨ l = 6) (h : XF b L o fa pl S) (fin : Q S) : rn (lpC N rec l w (f + 1) (iN i) S) Q := by
  have nz : ¬ S.1 1 3 = 0 := by rw [h.2.1]; exact h.2.2.1
  unfold lpC
  rcases hl with rfl | rfl | rfl | rfl
  · rw [if_pos rfl, rn_bT, fX7_readExpr_68]
    by_cases g : (700 : Int32) ≤ iN i
    · rw [if_pos g, rn_some, rn_some]; exact fin
    · rw [if_neg g, if_neg nz, rn_some, rn_some]; exact fin
  · rw [if_neg (by decide), if_pos rfl, rn_bT, fX7_readAnd_7]
    by_cases g : (700 : Int32) ≤ iN i
    · rw [if_pos g, rn_some, rn_some]; exact fin
    · rw [if_neg g, if_neg nz, rn_some, rn_some]; exact fin
  · rw [if_neg (by decide), if_neg (by decide), if_pos rfl, rn_bT, fX7_readSum_7]
    by_cases g : (700 : Int32) ≤ iN i
    · rw [if_pos g, rn_some, rn_some]; exact fin
    · rw [if_neg g, if_neg nz, rn_some, rn_some]; exact fin
  · rw [if_neg (by decide), if_neg (by decide), if_neg (by decide), rn_bT, fX7_readProduct_7]
    by_cases g : (700 : Int32) ≤ iN i
    · rw [if_pos g, rn_some, rn_some]; exact fin
    · rw [if_neg g, if_neg nz, rn_some, rn_some]; exact fin
/-- a level with a loop -/
theorem rd_lv {dd wn : Nat} (hl : l = 1 ∨ l = 2 ∨ l = 5 ∨ l = 6) (hw : wn ≤ 5) (fin : rn (fRD N dd l (iN wn) S) (fun S2 => rn (lpC N (fRD N dd) l (iN wn) N (iN 0) S2) Q)) : rn (fRD N (dd + 1) (l - 1) (iN wn) S) Q := by
  unfold lpC at fin
  rcases hl with rfl | rfl | rfl | rfl
  · rw [fRD, if_pos rfl]
    unfold fX7_readExpr
    rw [if_pos (by rw [show (6 : Int32) = iN 6 from rfl, iN_lt (by omega) (by omega)]; omega), rn_bV]
    refine rn_mono fin (fun S2 h2 => ?_)
    rw [if_pos rfl, rn_bT] at h2
    rw [rn_bT]
    exact rn_mono h2 (fun q hq => hq)
  · rw [fRD, if_neg (by decide), if_pos rfl]
    unfold fX7_readAnd
    rw [rn_bV]
    refine rn_mono fin (fun S2 h2 => ?_)
    rw [if_neg (by decide), if_pos rfl, rn_bT] at h2
    rw [rn_bT]
    exact rn_mono h2 (fun q hq => hq)
  · rw [fRD, if_neg (by decide), if_neg (by decide), if_neg (by decide), if_neg (by decide), if_pos rfl]
    unfold fX7_readSum
    rw [rn_bV]
    refine rn_mono fin (fun S2 h2 => ?_)
    rw [if_neg (by decide), if_neg (by decide), if_pos rfl, rn_bT] at h2
    rw [rn_bT]
    refine rn_mono h2 (fun q hq => ?_)
    rw [rn_lt, rn_lt, rn_lt]
    split <;> exact hq
  · rw [fRD, if_neg (by decide), if_neg (by decide), if_neg (by decide), if_neg (by decide), if_neg (by decide), if_pos rfl]
    unfold fX7_readProduct
    rw [rn_bV]
    refine rn_mono fin (fun S2 h2 => ?_)
    rw [if_neg (by decide), if_neg (by decide), if_neg (by decide), rn_bT] at h2
    rw [rn_bT]
    refine rn_mono h2 (fun q hq => ?_)
    rw [rn_lt, rn_lt, rn_lt]
    split <;> exact hq
end LPD
