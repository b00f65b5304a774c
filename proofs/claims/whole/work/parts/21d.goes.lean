/-! ===== phase 2: the next token, in the model, all of it; signs ===== -/
section GO2
variable {N : Nat} {b : Nat → Int32} {L : Nat}
theorem M_go0 {p : Nat} {S : PS} (hN : 30000 ≤ N) (hT : MTB b L S) (hp : p ≤ L) (h4 : S.1 80 12 = iN p) : rn (fX12_goes N S) (fun T => MTk b L p T ∧ FW S T) := by
  have hL := hT.1
  unfold fX12_goes
  rw [rn_bT]
  refine rn_mono (M_g0 (L - p) p N S hT h4 hp (Nat.le_refl _) (by omega)) (fun U hU => ?_)
  have FU := hU.2
  have hf := tfr_le (b := b) hp
  have u12 : U.1 80 12 = iN (tfr b L p) := hU.1
  rw [u12]
  refine rn_u (fun W w => ?_)
  have FW1 := FU.tr (FW.ur w (by omega))
  refine rn_l (fun X eX => ?_)
  have FX := FW1.tr (FW.ul eX)
  refine rn_u (fun Y y => ?_)
  have FY := FX.tr (FW.ur y (by omega))
  have y12 : Y.1 80 12 = iN (tfr b L p) := by rw [y.1, upd_o (by decide), eX, show (W.1, u2L W.2.1 80 18 0, W.2.2).1 80 12 = W.1 80 12 from rfl, w.1, upd_o (by decide)]; exact u12
  have y14 : Y.1 80 14 = iN (tfr b L p) := by rw [y.1, upd_o (by decide), eX, show (W.1, u2L W.2.1 80 18 0, W.2.2).1 80 14 = W.1 80 14 from rfl, w.1, upd_at]
  have y18 : Y.2.1 80 18 = 0 := by rw [y.2.2]; exact ul_at eX
  have y16 : Y.1 80 16 = 0 := by rw [y.1, upd_at]
  have hY := hT.fw FY
  rw [y12, M_byte hY (by omega), bI_s]
  refine rn_u (fun Z z => ?_)
  have FZ := FY.tr (FW.ur z (by omega))
  have hZ := hT.fw FZ
  have z12 : Z.1 80 12 = iN (tfr b L p) := by rw [z.1, upd_o (by decide)]; exact y12
  have z14 : Z.1 80 14 = iN (tfr b L p) := by rw [z.1, upd_o (by decide)]; exact y14
  have z16 : Z.1 80 16 = 0 := by rw [z.1, upd_o (by decide)]; exact y16
  have z17 : Z.1 80 17 = bA b L (tfr b L p) := by rw [z.1, upd_at]
  have z18 : Z.2.1 80 18 = 0 := by rw [z.2.2]; exact y18
  -- the last two fields
  have fin : ∀ (T : PS) (v : Int32), FW S T → T.1 80 12 = iN (tto b L p) → T.1 80 14 = iN (tfr b L p) → T.1 80 17 = bA b L (tfr b L p) → (tkd b L p = 2 → T.1 80 16 = tvl b L p) → (tkd b L p = 1 → T.2.1 80 18 = pkL b (tfr b L p) (tto b L p - tfr b L p)) → v = mkd b L p →
      rn (lt ((u2 T.1 80 13 v, T.2) : PS) fun S43 => lt ((u2 S43.1 80 15 ((S43.1 80 12) - (S43.1 80 14)), S43.2) : PS) fun S44 => some S44) (fun T => MTk b L p T ∧ FW S T) := by
    intro T v FT t12 t14 t17 t16 t18 hv
    refine rn_u (fun A a => ?_)
    have a12 : A.1 80 12 = iN (tto b L p) := by rw [a.1, upd_o (by decide)]; exact t12
    have a14 : A.1 80 14 = iN (tfr b L p) := by rw [a.1, upd_o (by decide)]; exact t14
    rw [a12, a14, iN_sub (tto_le hp).1]
    refine rn_u (fun B c => ?_)
    have FB := (FT.tr (FW.ur a (by omega))).tr (FW.ur c (by omega))
    rw [rn_some]
    refine ⟨⟨hT.fw FB, hp, ?_, ?_, ?_, fun q => ?_, ?_, ?_, fun q => ?_⟩, FB⟩
    · rw [c.1, upd_o (by decide)]; exact a14
    · rw [c.1, upd_o (by decide)]; exact a12
    · rw [c.1, upd_o (by decide), a.1, upd_at, hv]
    · rw [c.1, upd_o (by decide), a.1, upd_o (by decide)]; exact t16 q
    · rw [c.1, upd_at]
    · rw [c.1, upd_o (by decide), a.1, upd_o (by decide)]; exact t17
    · rw [c.2.2, a.2.2]; exact t18 q
  rw [z12, hZ.2.1]
  by_cases e : tfr b L p < L
  · have eb : bA b L (tfr b L p) = b (tfr b L p) := if_pos e
    rw [if_pos (by rw [iN_lt (by omega) (by omega)]; exact e), M_isL, bI_s, eb]
    by_cases eL : isL (b (tfr b L p)) = true
    · have kd : tkd b L p = 1 := by unfold tkd; rw [if_pos e, if_pos eL]
      have to : tto b L p = rU isL b L (tfr b L p) := by unfold tto; rw [kd, if_neg (by decide), if_pos rfl]
      rw [if_pos eL, if_neg (by decide), rn_bT]
      refine rn_mono (M_g108 (fr := tfr b L p) (L - tfr b L p) (tfr b L p) N Z hZ (Nat.le_refl _) z14 z12 (by rw [Nat.sub_self, pkL]; exact z18) hf.2 (Nat.le_refl _) (by omega)) (fun T h => ?_)
      refine fin T 1 (FZ.tr h.2.2.2) (by rw [to]; exact h.1) (by rw [h.2.2.1 14 (by decide)]; exact z14) (by rw [h.2.2.1 17 (by decide)]; exact z17) (fun q => by omega) (fun _ => by rw [to]; exact h.2.1) ?_
      unfold mkd
      rw [kd, if_neg (by decide)]
      rfl
    · rw [if_neg eL, if_pos rfl, M_isD, bI_s]
      by_cases eD : isD (b (tfr b L p)) = true
      · have kd : tkd b L p = 2 := by unfold tkd; rw [if_pos e, if_neg eL, if_pos eD]
        have to : tto b L p = rU isD b L (tfr b L p) := by unfold tto; rw [kd, if_neg (by decide), if_neg (by decide), if_pos rfl]
        rw [if_pos eD, if_neg (by decide), rn_bT]
        refine rn_mono (M_g187 (fr := tfr b L p) (L - tfr b L p) (tfr b L p) N Z hZ (Nat.le_refl _) z14 z12 (by rw [Nat.sub_self, vD]; exact z16) hf.2 (Nat.le_refl _) (by omega)) (fun T h => ?_)
        refine fin T 2 (FZ.tr h.2.2.2) (by rw [to]; exact h.1) (by rw [h.2.2.1 14 (by decide) (by decide)]; exact z14) (by rw [h.2.2.1 17 (by decide) (by decide)]; exact z17) (fun _ => by unfold tvl; rw [to]; exact h.2.1) (fun q => by omega) ?_
        unfold mkd
        rw [kd, if_neg (by decide)]
        rfl
      · have kd : tkd b L p = 3 := by unfold tkd; rw [if_pos e, if_neg eL, if_neg eD]
        have to : tto b L p = tfr b L p + 1 := by unfold tto; rw [kd, if_neg (by decide), if_neg (by decide), if_neg (by decide)]
        rw [if_neg eD, if_pos rfl, z12, iN_1]
        refine rn_u (fun T t => ?_)
        rw [lt_b]
        refine fin T _ (FZ.tr (FW.ur t (by omega))) (by rw [t.1, upd_at, to]) (by rw [t.1, upd_o (by decide)]; exact z14) (by rw [t.1, upd_o (by decide)]; exact z17) (fun q => by omega) (fun q => by omega) ?_
        unfold mkd
        rw [kd, if_pos rfl]
        rfl
  · have kd : tkd b L p = 0 := tkd_0.mpr e
    have to : tto b L p = tfr b L p := by unfold tto; rw [if_pos kd]
    rw [if_neg (by rw [iN_lt (by omega) (by omega)]; exact e)]
    refine fin Z 0 FZ (by rw [to]; exact z12) z14 z17 (fun q => by omega) (fun q => by omega) ?_
    unfold mkd
    rw [kd, if_neg (by decide)]
    rfl
theorem M_goN {p : Nat} {S : PS} (hN : 30000 ≤ N) (h : MTk b L p S) : rn (fX12_goes N S) (fun T => MTk b L (tto b L p) T ∧ FW S T) :=
  M_go0 hN h.1 (tto_le h.2.1).2.1 h.2.2.2.1
/-- the token is this sign -/
abbrev sgP (b : Nat → Int32) (L p : Nat) (c : Int32) : Prop := tkd b L p = 3 ∧ b (tfr b L p) = c
theorem C_isSg {p : Nat} {c : Int32} {S : PS} (h : CTk b L p S) (hc : 0 ≤ c.toInt ∧ c.toInt < 128) : fX10_isSign N c S = some ((if sgP b L p c then 1 else 0), S) := by
  obtain ⟨h1, hp, h3, h4, h5, h6⟩ := h
  have hL := h1.1
  have hk := tkd_lt (b := b) (L := L) (p := p)
  unfold fX10_isSign
  rw [h5, h3, h1.2.1, show (3 : Int32) = iN 3 from rfl]
  by_cases e : tkd b L p = 3
  · have hl : tfr b L p < L := by
      rcases Nat.lt_or_ge (tfr b L p) L with q | q
      · exact q
      · have := tkd_0 (b := b) (L := L) (p := p) |>.mpr (by omega)
        omega
    have eb := BY_eq (h1.2.2 _ hl) hc
    rw [if_pos (by rw [e]), if_neg (by rw [iN_le (by omega) (by omega)]; omega), gd_t (inr_iN (by omega) (by omega)), ix_iN (by omega), lt_b, gd_t if_01]
    by_cases g : b (tfr b L p) = c
    · rw [if_pos (eb.mpr g), if_pos ⟨e, g⟩]
    · rw [if_neg (fun q => g (eb.mp q)), if_neg (fun q => g q.2)]
  · rw [if_neg (by rw [iN_eq (by omega) (by omega)]; exact e), if_neg (fun q => e q.1)]
theorem M_isSg {p : Nat} {c : Int32} {S : PS} (h : MTk b L p S) (hc : sgK c = 3) : fX12_isSign N c S = some ((if sgP b L p c then 1 else 0), S) := by
  obtain ⟨h1, hp, h3, h4, h5, h6, h7, h8, -⟩ := h
  have hk := tkd_lt (b := b) (L := L) (p := p)
  unfold fX12_isSign
  rw [h5, h8]
  unfold mkd
  by_cases e : tkd b L p = 3
  · have hl : tfr b L p < L := by
      rcases Nat.lt_or_ge (tfr b L p) L with q | q
      · exact q
      · have := tkd_0 (b := b) (L := L) (p := p) |>.mpr (by omega)
        omega
    have eb : bA b L (tfr b L p) = b (tfr b L p) := if_pos hl
    rw [if_pos e, eb]
    by_cases e2 : b (tfr b L p) = c
    · have e4 : sgK (b (tfr b L p)) = 3 := by rw [e2]; exact hc
      rw [if_pos e4, if_pos e2, if_pos ⟨e, e2⟩, lt_b]
      exact gd_t (Or.inr rfl)
    · rw [if_neg (fun q : sgP b L p c => e2 q.2)]
      by_cases e3 : sgK (b (tfr b L p)) = 3
      · rw [if_pos e3, if_neg e2, lt_b]
        exact gd_t (Or.inl rfl)
      · rw [if_neg e3]
  · rw [if_neg e, if_neg (fun q : sgP b L p c => e q.1), if_neg (by rw [show (3 : Int32) = iN 3 from rfl, iN_eq (by omega) (by omega)]; exact e)]
end GO2
