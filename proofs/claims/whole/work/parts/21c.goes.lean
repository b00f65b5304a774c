/-! ===== phase 2: the next token, in the model ===== -/
def FW (S T : PS) : Prop := (∀ a, a ≠ 80 → T.1 a = S.1 a) ∧ (∀ j, ¬ (12 ≤ j ∧ j ≤ 17) → T.1 80 j = S.1 80 j) ∧ (∀ a k, ¬ (a = 80 ∧ k = 18) → T.2.1 a k = S.2.1 a k) ∧ T.2.2 = S.2.2
theorem FW.rfl {S : PS} : FW S S := ⟨fun _ _ => Eq.refl _, fun _ _ => Eq.refl _, fun _ _ _ => Eq.refl _, Eq.refl _⟩
theorem FW.tr {S T U : PS} (h : FW S T) (h' : FW T U) : FW S U := ⟨fun a ha => (h'.1 a ha).trans (h.1 a ha), fun j hj => (h'.2.1 j hj).trans (h.2.1 j hj), fun a k hk => (h'.2.2.1 a k hk).trans (h.2.2.1 a k hk), h'.2.2.2.trans h.2.2.2⟩
theorem FW.ur {k : Nat} {S T : PS} {x : Int32} (u : UR S T 80 (upd (S.1 80) k x)) (hk : 12 ≤ k ∧ k ≤ 17) : FW S T :=
  ⟨fun a ha => u.2.1 a ha, fun j hj => by rw [u.1, upd_o (fun e => hj (by rw [e]; exact hk))], fun a j _ => by rw [u.2.2], by rw [u.2.2]⟩
theorem FW.ul {S T : PS} {x : Int64} (e : T = (S.1, u2L S.2.1 80 18 x, S.2.2)) : FW S T := by
  subst e
  refine ⟨fun _ _ => Eq.refl _, fun _ _ => Eq.refl _, fun a k hk => ?_, Eq.refl _⟩
  show u2L S.2.1 80 18 x a k = _
  rw [u2L_2, if_neg hk]
theorem ul_at {S T : PS} {x : Int64} (e : T = (S.1, u2L S.2.1 80 18 x, S.2.2)) : T.2.1 80 18 = x := by
  rw [e]
  simp [u2L, vp_updL]
def MTB (b : Nat → Int32) (L : Nat) (S : PS) : Prop := L ≤ 700 ∧ S.1 80 11 = iN L ∧ ∀ k, k < L → S.1 83 k = b k
def pkL (b : Nat → Int32) (fr : Nat) : Nat → Int64
  | 0 => 0
  | k + 1 => if k < 6 then (pkL b fr k <<< ((5 : Int32).toInt64 &&& 63)) ||| (b (fr + k) - 96).toInt64 else pkL b fr k
theorem pkL_s {b : Nat → Int32} {fr k : Nat} : pkL b fr (k + 1) = if k < 6 then (pkL b fr k <<< ((5 : Int32).toInt64 &&& 63)) ||| (b (fr + k) - 96).toInt64 else pkL b fr k := by rw [pkL]
def sgK (x : Int32) : Int32 := if x = 59 then 3 else (if x = 40 then 3 else (if x = 41 then 3 else (if x = 43 then 3 else (if x = 45 then 3 else (if x = 42 then 3 else (if x = 47 then 3 else (if x = 60 then 3 else (if x = 61 then 3 else 4))))))))
def mkd (b : Nat → Int32) (L p : Nat) : Int32 := if tkd b L p = 3 then sgK (b (tfr b L p)) else iN (tkd b L p)
def bA (b : Nat → Int32) (L q : Nat) : Int32 := if q < L then b q else 0
def MTk (b : Nat → Int32) (L p : Nat) (S : PS) : Prop := MTB b L S ∧ p ≤ L ∧ S.1 80 14 = iN (tfr b L p) ∧ S.1 80 12 = iN (tto b L p) ∧ S.1 80 13 = mkd b L p ∧ (tkd b L p = 2 → S.1 80 16 = tvl b L p) ∧ S.1 80 15 = iN (tto b L p - tfr b L p) ∧ S.1 80 17 = bA b L (tfr b L p) ∧ (tkd b L p = 1 → S.2.1 80 18 = pkL b (tfr b L p) (tto b L p - tfr b L p))
theorem i0L : ¬ isL 0 = true := by decide
theorem i0D : ¬ isD 0 = true := by decide
section GOE
variable {N : Nat} {b : Nat → Int32} {L : Nat}
theorem MTB.fw {S T : PS} (h : MTB b L S) (f : FW S T) : MTB b L T := by
  obtain ⟨h1, h2, h3⟩ := h
  exact ⟨h1, (f.2.1 11 (by omega)).trans h2, fun k hk => by rw [f.1 83 (by decide)]; exact h3 k hk⟩
theorem M_byte {q : Nat} {S : PS} (h : MTB b L S) (hq : q < 2147483648) : fX12_byteAt N (iN q) S = some (bA b L q, S) := by
  have hL := h.1
  unfold fX12_byteAt bA
  rw [h.2.1]
  by_cases e : q < L
  · rw [if_neg (by rw [iN_le (by omega) (by omega)]; omega), gd_t (inr_iN (by omega) (by omega)), ix_iN (by omega), h.2.2 q e, if_pos e]
  · rw [if_pos (by rw [iN_le (by omega) (by omega)]; omega), if_neg e]
theorem M_g0 : ∀ k q m S, MTB b L S → S.1 80 12 = iN q → q ≤ L → L - q ≤ k → k < m → rn (fX12_goes_0 N m S) (fun T => T.1 80 12 = iN (rU isB b L q) ∧ FW S T)
  | k, q, 0, S, _, _, _, _, hm => by omega
  | k, q, m + 1, S, hT, h3, hq, hk, hm => by
    have hL := hT.1
    rw [fX12_goes_0, hT.2.1, h3]
    by_cases e : q < L
    · have eb : bA b L q = b q := if_pos e
      rw [if_neg (by rw [iN_le (by omega) (by omega)]; omega), M_byte hT (by omega), bI_s, eb, h3]
      have go : isB (b q) = true → rn (lt ((u2 S.1 80 12 (iN q + 1), S.2) : PS) fun S6 => fX12_goes_0 N m S6) (fun T => T.1 80 12 = iN (rU isB b L q) ∧ FW S T) := by
        intro e2
        rw [iN_1]
        refine rn_u (fun U u => ?_)
        have F : FW S U := FW.ur u (by omega)
        obtain ⟨k', rfl⟩ : ∃ k', k = k' + 1 := ⟨k - 1, by omega⟩
        refine rn_mono (M_g0 k' (q + 1) m U (hT.fw F) (by rw [u.1, upd_at]) (by omega) (by omega) (by omega)) (fun T h => ⟨?_, F.tr h.2⟩)
        rw [rU_t e e2]; exact h.1
      by_cases a : b q = 32
      · rw [if_pos a]; exact go (decide_eq_true (Or.inl a))
      · rw [if_neg a, M_byte hT (by omega), bI_s, eb, h3]
        by_cases c : b q = 10
        · rw [if_pos c]; exact go (decide_eq_true (Or.inr c))
        · rw [if_neg c, rn_some]
          exact ⟨by rw [rU_f (fun g => by rcases of_decide_eq_true g.2 with q | q; exact a q; exact c q)]; exact h3, FW.rfl⟩
    · rw [if_pos (by rw [iN_le (by omega) (by omega)]; omega), rn_some]
      exact ⟨by rw [rU_f (fun g => e g.1)]; exact h3, FW.rfl⟩
theorem M_g108 {fr : Nat} {v1 : Int32} : ∀ k q m S, MTB b L S → fr ≤ q → S.1 80 14 = iN fr → S.1 80 12 = iN q → S.2.1 80 18 = pkL b fr (q - fr) → q ≤ L → L - q ≤ k → k < m → rn (fX12_goes_108 N v1 m S) (fun T => T.1 80 12 = iN (rU isL b L q) ∧ T.2.1 80 18 = pkL b fr (rU isL b L q - fr) ∧ (∀ j, j ≠ 12 → T.1 80 j = S.1 80 j) ∧ FW S T)
  | k, q, 0, S, _, _, _, _, _, _, _, hm => by omega
  | k, q, m + 1, S, hT, hf, h3, h4, h6, hq, hk, hm => by
    have hL := hT.1
    rw [fX12_goes_108, h4, M_byte hT (by omega), bI_s, M_isL, bI_s]
    by_cases e2 : isL (bA b L q) = true
    · have e : q < L := by
        rcases Nat.lt_or_ge q L with g | g
        · exact g
        · unfold bA at e2
          rw [if_neg (by omega)] at e2
          exact absurd e2 i0L
      have eb : bA b L q = b q := if_pos e
      rw [eb] at e2
      obtain ⟨k', rfl⟩ : ∃ k', k = k' + 1 := ⟨k - 1, by omega⟩
      have es : iN q - iN fr = iN (q - fr) := iN_sub hf
      have vs : pkL b fr (q + 1 - fr) = if q - fr < 6 then (pkL b fr (q - fr) <<< ((5 : Int32).toInt64 &&& 63)) ||| (b q - 96).toInt64 else pkL b fr (q - fr) := by
        rw [show q + 1 - fr = (q - fr) + 1 from by omega, pkL_s, show fr + (q - fr) = q from by omega]
      rw [eb, if_pos e2, if_neg (by decide), h4, h3, es, show (6 : Int32) = iN 6 from rfl]
      by_cases e4 : q - fr < 6
      · rw [if_neg (by rw [iN_le (by omega) (by omega)]; omega), M_byte hT (by omega), bI_s, eb, h6]
        refine rn_l (fun U eU => ?_)
        have FU := FW.ul eU
        have u12 : U.1 80 12 = iN q := by rw [eU]; exact h4
        rw [u12, iN_1]
        refine rn_u (fun W w => ?_)
        have F := FU.tr (FW.ur w (by omega))
        refine rn_mono (M_g108 (fr := fr) k' (q + 1) m W (hT.fw F) (by omega) (by rw [w.1, upd_o (by decide), eU]; exact h3) (by rw [w.1, upd_at]) ?_ (by omega) (by omega) (by omega)) (fun T h => ⟨?_, ?_, fun j hj => ?_, F.tr h.2.2.2⟩)
        · rw [w.2.2, ul_at eU, vs, if_pos e4]
        · rw [rU_t e e2]; exact h.1
        · rw [rU_t e e2]; exact h.2.1
        · rw [h.2.2.1 j hj, w.1, upd_o hj, eU]
      · rw [if_pos (by rw [iN_le (by omega) (by omega)]; omega), iN_1]
        refine rn_u (fun W w => ?_)
        have F : FW S W := FW.ur w (by omega)
        refine rn_mono (M_g108 (fr := fr) k' (q + 1) m W (hT.fw F) (by omega) (by rw [w.1, upd_o (by decide)]; exact h3) (by rw [w.1, upd_at]) ?_ (by omega) (by omega) (by omega)) (fun T h => ⟨?_, ?_, fun j hj => ?_, F.tr h.2.2.2⟩)
        · rw [w.2.2, vs, if_neg e4]; exact h6
        · rw [rU_t e e2]; exact h.1
        · rw [rU_t e e2]; exact h.2.1
        · rw [h.2.2.1 j hj, w.1, upd_o hj]
    · rw [if_neg e2, if_pos rfl, rn_some]
      have ng : ¬ (q < L ∧ isL (b q) = true) := fun g => e2 (by unfold bA; rw [if_pos g.1]; exact g.2)
      rw [rU_f ng]
      exact ⟨h4, h6, fun _ _ => rfl, FW.rfl⟩
theorem M_g187 {fr : Nat} {v1 : Int32} : ∀ k q m S, MTB b L S → fr ≤ q → S.1 80 14 = iN fr → S.1 80 12 = iN q → S.1 80 16 = vD b fr (q - fr) → q ≤ L → L - q ≤ k → k < m → rn (fX12_goes_187 N v1 m S) (fun T => T.1 80 12 = iN (rU isD b L q) ∧ T.1 80 16 = vD b fr (rU isD b L q - fr) ∧ (∀ j, j ≠ 12 → j ≠ 16 → T.1 80 j = S.1 80 j) ∧ FW S T)
  | k, q, 0, S, _, _, _, _, _, _, _, hm => by omega
  | k, q, m + 1, S, hT, hf, h3, h4, h6, hq, hk, hm => by
    have hL := hT.1
    rw [fX12_goes_187, h4, M_byte hT (by omega), bI_s, M_isD, bI_s]
    by_cases e2 : isD (bA b L q) = true
    · have e : q < L := by
        rcases Nat.lt_or_ge q L with g | g
        · exact g
        · unfold bA at e2
          rw [if_neg (by omega)] at e2
          exact absurd e2 i0D
      have eb : bA b L q = b q := if_pos e
      rw [eb] at e2
      obtain ⟨k', rfl⟩ : ∃ k', k = k' + 1 := ⟨k - 1, by omega⟩
      have es : iN q - iN fr = iN (q - fr) := iN_sub hf
      have vs : vD b fr (q + 1 - fr) = if q - fr < 4 then vD b fr (q - fr) * 10 + b q - 48 else vD b fr (q - fr) := by
        rw [show q + 1 - fr = (q - fr) + 1 from by omega, vD_s, show fr + (q - fr) = q from by omega]
      rw [eb, if_pos e2, if_neg (by decide), h4, h3, es, show (4 : Int32) = iN 4 from rfl]
      by_cases e4 : q - fr < 4
      · rw [if_neg (by rw [iN_le (by omega) (by omega)]; omega), M_byte hT (by omega), bI_s, eb, h6]
        refine rn_u (fun U u => ?_)
        have u12 : U.1 80 12 = iN q := by rw [u.1, upd_o (by decide)]; exact h4
        rw [u12, iN_1]
        refine rn_u (fun W w => ?_)
        have F := (FW.ur u (by omega)).tr (FW.ur w (by omega))
        refine rn_mono (M_g187 (fr := fr) k' (q + 1) m W (hT.fw F) (by omega) (by rw [w.1, upd_o (by decide), u.1, upd_o (by decide)]; exact h3) (by rw [w.1, upd_at]) ?_ (by omega) (by omega) (by omega)) (fun T h => ⟨?_, ?_, fun j hj hj2 => ?_, F.tr h.2.2.2⟩)
        · rw [w.1, upd_o (by decide), u.1, upd_at, vs, if_pos e4, Int32.mul_comm]
        · rw [rU_t e e2]; exact h.1
        · rw [rU_t e e2]; exact h.2.1
        · rw [h.2.2.1 j hj hj2, w.1, upd_o hj, u.1, upd_o hj2]
      · rw [if_pos (by rw [iN_le (by omega) (by omega)]; omega), iN_1]
        refine rn_u (fun W w => ?_)
        have F : FW S W := FW.ur w (by omega)
        refine rn_mono (M_g187 (fr := fr) k' (q + 1) m W (hT.fw F) (by omega) (by rw [w.1, upd_o (by decide)]; exact h3) (by rw [w.1, upd_at]) ?_ (by omega) (by omega) (by omega)) (fun T h => ⟨?_, ?_, fun j hj hj2 => ?_, F.tr h.2.2.2⟩)
        · rw [w.1, upd_o (by decide), vs, if_neg e4]; exact h6
        · rw [rU_t e e2]; exact h.1
        · rw [rU_t e e2]; exact h.2.1
        · rw [h.2.2.1 j hj hj2, w.1, upd_o hj]
    · rw [if_neg e2, if_pos rfl, rn_some]
      have ng : ¬ (q < L ∧ isD (b q) = true) := fun g => e2 (by unfold bA; rw [if_pos g.1]; exact g.2)
      rw [rU_f ng]
      exact ⟨h4, h6, fun _ _ _ => rfl, FW.rfl⟩
end GOE
