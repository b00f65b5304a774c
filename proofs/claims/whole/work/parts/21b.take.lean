/-! ===== phase 2: the next token, in the class ===== -/
/-- nothing but these fields of the object o is changed -/
def FO (o : Nat) (js : Nat → Prop) (S T : PS) : Prop := (∀ a, a ≠ o → T.1 a = S.1 a) ∧ (∀ j, ¬ js j → T.1 o j = S.1 o j) ∧ T.2 = S.2
theorem FO.rfl {o : Nat} {js : Nat → Prop} {S : PS} : FO o js S S := ⟨fun _ _ => Eq.refl _, fun _ _ => Eq.refl _, Eq.refl _⟩
theorem FO.tr {o : Nat} {js : Nat → Prop} {S T U : PS} (h : FO o js S T) (h' : FO o js T U) : FO o js S U := ⟨fun a ha => (h'.1 a ha).trans (h.1 a ha), fun j hj => (h'.2.1 j hj).trans (h.2.1 j hj), h'.2.2.trans h.2.2⟩
theorem FO.mono {o : Nat} {js ks : Nat → Prop} {S T : PS} (h : FO o js S T) (hk : ∀ j, js j → ks j) : FO o ks S T := ⟨h.1, fun j hj => h.2.1 j (fun q => hj (hk j q)), h.2.2⟩
theorem FO.ur {o k : Nat} {js : Nat → Prop} {S T U : PS} {x : Int32} (h : FO o js S T) (u : UR T U o (upd (T.1 o) k x)) (hk : js k) : FO o js S U :=
  ⟨fun a ha => (u.2.1 a ha).trans (h.1 a ha), fun j hj => by rw [u.1, upd_o (fun e => hj (by rw [e]; exact hk))]; exact h.2.1 j hj, u.2.2.trans h.2.2⟩
theorem FO.fc {o : Nat} {js : Nat → Prop} {S T : PS} (h : FO o js S T) : FC (fun a => a = o) S T := ⟨fun a ha => h.1 a ha, h.2.2⟩
section TAK
variable {N : Nat} {b : Nat → Int32} {L : Nat}
theorem TB.fo {js : Nat → Prop} {S T : PS} (h : TB b L S) (f : FO 2 js S T) (hj : ¬ js 2) : TB b L T := by
  obtain ⟨h1, h2, h3⟩ := h
  exact ⟨h1, (f.2.1 2 hj).trans h2, fun k hk => by rw [f.1 26 (by decide)]; exact h3 k hk⟩
theorem C_t8 : ∀ k q m S, TB b L S → S.1 2 3 = iN q → q ≤ L → L - q ≤ k → k < m → rn (fX10_take_8 N m S) (fun T => T.1 2 3 = iN (rU isB b L q) ∧ FO 2 (fun j => j = 3) S T)
  | k, q, 0, S, _, _, _, _, hm => by omega
  | k, q, m + 1, S, hT, h3, hq, hk, hm => by
    have hL := hT.1
    rw [fX10_take_8, hT.2.1, h3]
    by_cases e : q < L
    · have iq : inr (iN q) 700 := inr_iN (by omega) (by omega)
      have xq : ix (iN q) = q := ix_iN (by omega)
      rw [if_neg (by rw [iN_le (by omega) (by omega)]; omega), gd_t iq, xq, C_isB (hT.2.2 q e), bI_s]
      by_cases e2 : isB (b q) = true
      · rw [if_pos e2, if_neg (by decide), h3, iN_1]
        refine rn_u (fun U u => ?_)
        have F : FO 2 (fun j => j = 3) S U := FO.rfl.ur u rfl
        obtain ⟨k', rfl⟩ : ∃ k', k = k' + 1 := ⟨k - 1, by omega⟩
        refine rn_mono (C_t8 k' (q + 1) m U (hT.fo F (by decide)) (by rw [u.1, upd_at]) (by omega) (by omega) (by omega)) (fun T h => ⟨?_, F.tr h.2⟩)
        rw [rU_t e e2]; exact h.1
      · rw [if_neg e2, if_pos rfl, rn_some]
        exact ⟨by rw [rU_f (fun g => e2 g.2)]; exact h3, FO.rfl⟩
    · rw [if_pos (by rw [iN_le (by omega) (by omega)]; omega), rn_some]
      exact ⟨by rw [rU_f (fun g => e g.1)]; exact h3, FO.rfl⟩
theorem C_t94 : ∀ k q m S, TB b L S → S.1 2 4 = iN q → q ≤ L → L - q ≤ k → k < m → rn (fX10_take_94 N m S) (fun T => T.1 2 4 = iN (rU isL b L q) ∧ FO 2 (fun j => j = 4) S T)
  | k, q, 0, S, _, _, _, _, hm => by omega
  | k, q, m + 1, S, hT, h3, hq, hk, hm => by
    have hL := hT.1
    rw [fX10_take_94, hT.2.1, h3]
    by_cases e : q < L
    · have iq : inr (iN q) 700 := inr_iN (by omega) (by omega)
      have xq : ix (iN q) = q := ix_iN (by omega)
      rw [if_neg (by rw [iN_le (by omega) (by omega)]; omega), gd_t iq, xq, C_isL (hT.2.2 q e), bI_s]
      by_cases e2 : isL (b q) = true
      · rw [if_pos e2, if_neg (by decide), h3, iN_1]
        refine rn_u (fun U u => ?_)
        have F : FO 2 (fun j => j = 4) S U := FO.rfl.ur u rfl
        obtain ⟨k', rfl⟩ : ∃ k', k = k' + 1 := ⟨k - 1, by omega⟩
        refine rn_mono (C_t94 k' (q + 1) m U (hT.fo F (by decide)) (by rw [u.1, upd_at]) (by omega) (by omega) (by omega)) (fun T h => ⟨?_, F.tr h.2⟩)
        rw [rU_t e e2]; exact h.1
      · rw [if_neg e2, if_pos rfl, rn_some]
        exact ⟨by rw [rU_f (fun g => e2 g.2)]; exact h3, FO.rfl⟩
    · rw [if_pos (by rw [iN_le (by omega) (by omega)]; omega), rn_some]
      exact ⟨by rw [rU_f (fun g => e g.1)]; exact h3, FO.rfl⟩
theorem C_t158 {fr : Nat} : ∀ k q m S, TB b L S → fr ≤ q → S.1 2 3 = iN fr → S.1 2 4 = iN q → S.1 2 6 = vD b fr (q - fr) → q ≤ L → L - q ≤ k → k < m → rn (fX10_take_158 N m S) (fun T => T.1 2 4 = iN (rU isD b L q) ∧ T.1 2 6 = vD b fr (rU isD b L q - fr) ∧ FO 2 (fun j => j = 4 ∨ j = 6) S T)
  | k, q, 0, S, _, _, _, _, _, _, _, hm => by omega
  | k, q, m + 1, S, hT, hf, h3, h4, h6, hq, hk, hm => by
    have hL := hT.1
    rw [fX10_take_158, hT.2.1, h4]
    by_cases e : q < L
    · have iq : inr (iN q) 700 := inr_iN (by omega) (by omega)
      have xq : ix (iN q) = q := ix_iN (by omega)
      rw [if_neg (by rw [iN_le (by omega) (by omega)]; omega), gd_t iq, xq, C_isD (hT.2.2 q e), bI_s]
      by_cases e2 : isD (b q) = true
      · obtain ⟨k', rfl⟩ : ∃ k', k = k' + 1 := ⟨k - 1, by omega⟩
        have ev : S.1 26 q = b q := by
          have g := of_decide_eq_true e2
          have h2 := (hT.2.2 q e).2.1
          refine h2 ?_
          have := g.2
          rw [le_ti, show (57 : Int32).toInt = 57 from by decide] at this
          omega
        have es : iN q - iN fr = iN (q - fr) := iN_sub hf
        have vs : vD b fr (q + 1 - fr) = if q - fr < 4 then vD b fr (q - fr) * 10 + b q - 48 else vD b fr (q - fr) := by
          rw [show q + 1 - fr = (q - fr) + 1 from by omega, vD_s, show fr + (q - fr) = q from by omega]
        rw [if_pos e2, if_neg (by decide), h4, h3, es, show (4 : Int32) = iN 4 from rfl]
        by_cases e4 : q - fr < 4
        · rw [if_neg (by rw [iN_le (by omega) (by omega)]; omega), gd_t iq, xq, ev, h6]
          refine rn_u (fun U u => ?_)
          have u4 : U.1 2 4 = iN q := by rw [u.1, upd_o (by decide)]; exact h4
          rw [u4, iN_1]
          refine rn_u (fun W w => ?_)
          have F : FO 2 (fun j => j = 4 ∨ j = 6) S W := (FO.rfl.ur u (Or.inr rfl)).ur w (Or.inl rfl)
          refine rn_mono (C_t158 (fr := fr) k' (q + 1) m W (hT.fo F (by decide)) (by omega) (by rw [F.2.1 3 (by decide)]; exact h3) (by rw [w.1, upd_at]) ?_ (by omega) (by omega) (by omega)) (fun T h => ⟨?_, ?_, F.tr h.2.2⟩)
          · rw [w.1, upd_o (by decide), u.1, upd_at, vs, if_pos e4]
          · rw [rU_t e e2]; exact h.1
          · rw [rU_t e e2]; exact h.2.1
        · rw [if_pos (by rw [iN_le (by omega) (by omega)]; omega), h6]
          refine rn_u (fun U u => ?_)
          have u4 : U.1 2 4 = iN q := by rw [u.1, upd_o (by decide)]; exact h4
          rw [u4, iN_1]
          refine rn_u (fun W w => ?_)
          have F : FO 2 (fun j => j = 4 ∨ j = 6) S W := (FO.rfl.ur u (Or.inr rfl)).ur w (Or.inl rfl)
          refine rn_mono (C_t158 (fr := fr) k' (q + 1) m W (hT.fo F (by decide)) (by omega) (by rw [F.2.1 3 (by decide)]; exact h3) (by rw [w.1, upd_at]) ?_ (by omega) (by omega) (by omega)) (fun T h => ⟨?_, ?_, F.tr h.2.2⟩)
          · rw [w.1, upd_o (by decide), u.1, upd_at, vs, if_neg e4]
          · rw [rU_t e e2]; exact h.1
          · rw [rU_t e e2]; exact h.2.1
      · rw [if_neg e2, if_pos rfl, rn_some]
        rw [rU_f (fun g => e2 g.2)]
        exact ⟨h4, h6, FO.rfl⟩
    · rw [if_pos (by rw [iN_le (by omega) (by omega)]; omega), rn_some]
      rw [rU_f (fun g => e g.1)]
      exact ⟨h4, h6, FO.rfl⟩
/-- the class stands at the token behind p -/
def CTk (b : Nat → Int32) (L p : Nat) (S : PS) : Prop := TB b L S ∧ p ≤ L ∧ S.1 2 3 = iN (tfr b L p) ∧ S.1 2 4 = iN (tto b L p) ∧ S.1 2 5 = iN (tkd b L p) ∧ (tkd b L p = 2 → S.1 2 6 = tvl b L p)
theorem C_tk0 {p : Nat} {S : PS} (hN : 30000 ≤ N) (hT : TB b L S) (hp : p ≤ L) (h4 : S.1 2 4 = iN p) : rn (fX10_take N S) (fun T => CTk b L p T ∧ FO 2 (fun j => j = 3 ∨ j = 4 ∨ j = 5 ∨ j = 6) S T) := by
  have hL := hT.1
  unfold fX10_take
  rw [h4]
  refine rn_u (fun U u => ?_)
  have FU : FO 2 (fun j => j = 3 ∨ j = 4 ∨ j = 5 ∨ j = 6) S U := FO.rfl.ur u (Or.inl rfl)
  have hU := hT.fo FU (by decide)
  rw [rn_bT]
  refine rn_mono (C_t8 (L - p) p N U hU (by rw [u.1, upd_at]) hp (Nat.le_refl _) (by omega)) (fun W hW => ?_)
  have FW := FU.tr (hW.2.mono (fun j hj => Or.inl hj))
  have w3 : W.1 2 3 = iN (tfr b L p) := hW.1
  rw [w3]
  refine rn_u (fun X x => ?_)
  have FX := FW.ur x (Or.inr (Or.inl rfl))
  have x3 : X.1 2 3 = iN (tfr b L p) := by rw [x.1, upd_o (by decide)]; exact w3
  have x4 : X.1 2 4 = iN (tfr b L p) := by rw [x.1, upd_at]
  have hX := hT.fo FX (by decide)
  have hf := tfr_le (b := b) hp
  rw [x3, hX.2.1]
  by_cases e : tfr b L p < L
  · have iq : inr (iN (tfr b L p)) 700 := inr_iN (by omega) (by omega)
    have xq : ix (iN (tfr b L p)) = tfr b L p := ix_iN (by omega)
    rw [if_pos (by rw [iN_lt (by omega) (by omega)]; exact e), gd_t iq, xq, C_isL (hX.2.2 _ e), bI_s]
    by_cases eL : isL (b (tfr b L p)) = true
    · have kd : tkd b L p = 1 := by unfold tkd; rw [if_pos e, if_pos eL]
      have to : tto b L p = rU isL b L (tfr b L p) := by unfold tto; rw [kd, if_neg (by decide), if_pos rfl]
      rw [if_pos eL, if_neg (by decide)]
      refine rn_u (fun Y y => ?_)
      have FY := FX.ur y (Or.inr (Or.inr (Or.inl rfl)))
      rw [rn_bT]
      refine rn_mono (C_t94 (L - tfr b L p) (tfr b L p) N Y (hT.fo FY (by decide)) (by rw [y.1, upd_o (by decide)]; exact x4) hf.2 (Nat.le_refl _) (by omega)) (fun Z hZ => ?_)
      have FZ := FY.tr (hZ.2.mono (fun j hj => Or.inr (Or.inl hj)))
      rw [rn_some]
      refine ⟨⟨hT.fo FZ (by decide), hp, ?_, by rw [to]; exact hZ.1, ?_, fun q => by omega⟩, FZ⟩
      · rw [hZ.2.2.1 3 (by decide), y.1, upd_o (by decide)]; exact x3
      · rw [hZ.2.2.1 5 (by decide), y.1, upd_at, kd]; rfl
    · rw [if_neg eL, if_pos rfl, x3, gd_t iq, xq, C_isD (hX.2.2 _ e), bI_s]
      by_cases eD : isD (b (tfr b L p)) = true
      · have kd : tkd b L p = 2 := by unfold tkd; rw [if_pos e, if_neg eL, if_pos eD]
        have to : tto b L p = rU isD b L (tfr b L p) := by unfold tto; rw [kd, if_neg (by decide), if_neg (by decide), if_pos rfl]
        rw [if_pos eD, if_neg (by decide)]
        refine rn_u (fun Y y => ?_)
        refine rn_u (fun Y2 y2 => ?_)
        have FY := (FX.ur y (Or.inr (Or.inr (Or.inl rfl)))).ur y2 (Or.inr (Or.inr (Or.inr rfl)))
        rw [rn_bT]
        refine rn_mono (C_t158 (fr := tfr b L p) (L - tfr b L p) (tfr b L p) N Y2 (hT.fo FY (by decide)) (Nat.le_refl _) ?_ ?_ ?_ hf.2 (Nat.le_refl _) (by omega)) (fun Z hZ => ?_)
        · rw [y2.1, upd_o (by decide), y.1, upd_o (by decide)]; exact x3
        · rw [y2.1, upd_o (by decide), y.1, upd_o (by decide)]; exact x4
        · rw [y2.1, upd_at, Nat.sub_self, vD]
        · have FZ := FY.tr (hZ.2.2.mono (fun j hj => by rcases hj with hj | hj; exact Or.inr (Or.inl hj); exact Or.inr (Or.inr (Or.inr hj))))
          rw [rn_some]
          refine ⟨⟨hT.fo FZ (by decide), hp, ?_, by rw [to]; exact hZ.1, ?_, fun _ => ?_⟩, FZ⟩
          · rw [hZ.2.2.2.1 3 (by decide), y2.1, upd_o (by decide), y.1, upd_o (by decide)]; exact x3
          · rw [hZ.2.2.2.1 5 (by decide), y2.1, upd_o (by decide), y.1, upd_at, kd]; rfl
          · unfold tvl
            rw [to]; exact hZ.2.1
      · have kd : tkd b L p = 3 := by unfold tkd; rw [if_pos e, if_neg eL, if_neg eD]
        have to : tto b L p = tfr b L p + 1 := by unfold tto; rw [kd, if_neg (by decide), if_neg (by decide), if_neg (by decide)]
        rw [if_neg eD, if_pos rfl]
        refine rn_u (fun Y y => ?_)
        have y4 : Y.1 2 4 = iN (tfr b L p) := by rw [y.1, upd_o (by decide)]; exact x4
        rw [y4, iN_1]
        refine rn_u (fun Z z => ?_)
        have FZ := (FX.ur y (Or.inr (Or.inr (Or.inl rfl)))).ur z (Or.inr (Or.inl rfl))
        rw [rn_some]
        refine ⟨⟨hT.fo FZ (by decide), hp, ?_, by rw [to, z.1, upd_at], ?_, fun q => by omega⟩, FZ⟩
        · rw [z.1, upd_o (by decide), y.1, upd_o (by decide)]; exact x3
        · rw [z.1, upd_o (by decide), y.1, upd_at, kd]; rfl
  · have kd : tkd b L p = 0 := tkd_0.mpr e
    have to : tto b L p = tfr b L p := by unfold tto; rw [if_pos kd]
    rw [if_neg (by rw [iN_lt (by omega) (by omega)]; exact e)]
    refine rn_u (fun Y y => ?_)
    have FY := FX.ur y (Or.inr (Or.inr (Or.inl rfl)))
    rw [rn_some]
    refine ⟨⟨hT.fo FY (by decide), hp, ?_, ?_, ?_, fun q => by omega⟩, FY⟩
    · rw [y.1, upd_o (by decide)]; exact x3
    · rw [y.1, upd_o (by decide), to]; exact x4
    · rw [y.1, upd_at, kd]; rfl
/-- taken: the class stands at the next token -/
theorem C_takeN {p : Nat} {S : PS} (hN : 30000 ≤ N) (h : CTk b L p S) : rn (fX10_take N S) (fun T => CTk b L (tto b L p) T ∧ FO 2 (fun j => j = 3 ∨ j = 4 ∨ j = 5 ∨ j = 6) S T) :=
  C_tk0 hN h.1 (tto_le h.2.1).2.1 h.2.2.2.1
end TAK
