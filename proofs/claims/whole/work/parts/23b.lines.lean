/-! ===== phase 2: lines of a cave: tokens without a fault, numbers, signs ===== -/
/-- only the tokens and the fault of the class are changed -/
def F12 (S T : PS) : Prop := (∀ a, a ≠ 1 → a ≠ 2 → T.1 a = S.1 a) ∧ T.2 = S.2
theorem F12.rfl {S : PS} : F12 S S := ⟨fun _ _ _ => Eq.refl _, Eq.refl _⟩
theorem F12.tr {S T U : PS} (h : F12 S T) (h' : F12 T U) : F12 S U := ⟨fun a h1 h2 => (h'.1 a h1 h2).trans (h.1 a h1 h2), h'.2.trans h.2⟩
/-- only the tokens and the fault of the model are changed -/
def F89 (S T : PS) : Prop := (∀ a, a ≠ 80 → T.1 a = S.1 a) ∧ (∀ j, ¬ (j = 8 ∨ j = 9 ∨ (12 ≤ j ∧ j ≤ 17)) → T.1 80 j = S.1 80 j) ∧ (∀ a k, ¬ (a = 80 ∧ k = 18) → T.2.1 a k = S.2.1 a k) ∧ T.2.2 = S.2.2
theorem F89.rfl {S : PS} : F89 S S := ⟨fun _ _ => Eq.refl _, fun _ _ => Eq.refl _, fun _ _ _ => Eq.refl _, Eq.refl _⟩
theorem F89.tr {S T U : PS} (h : F89 S T) (h' : F89 T U) : F89 S U := ⟨fun a ha => (h'.1 a ha).trans (h.1 a ha), fun j hj => (h'.2.1 j hj).trans (h.2.1 j hj), fun a k hk => (h'.2.2.1 a k hk).trans (h.2.2.1 a k hk), h'.2.2.2.trans h.2.2.2⟩
theorem F89.fw {S T : PS} (h : FW S T) : F89 S T := ⟨h.1, fun j hj => h.2.1 j (by omega), h.2.2.1, h.2.2.2⟩
section LIN
variable {N : Nat} {b : Nat → Int32} {L : Nat} {p : Nat} {S : PS}
def TC (b : Nat → Int32) (L p : Nat) (S : PS) : Prop := CTk b L p S ∧ S.1 1 3 = 0 ∧ S.1 1 4 = -1
def TF (f pl : Int32) (S : PS) : Prop := S.1 1 3 = f ∧ f ≠ 0 ∧ S.1 1 4 = pl
def MT0 (b : Nat → Int32) (L p : Nat) (S : PS) : Prop := MTk b L p S ∧ S.1 80 8 = 0 ∧ S.1 80 9 = -1
def MF0 (b : Nat → Int32) (L : Nat) (f pl : Int32) (S : PS) : Prop := (∃ q, MTk b L q S) ∧ S.1 80 8 = f ∧ f ≠ 0 ∧ S.1 80 9 = pl
theorem TC.take (hN : 30000 ≤ N) (h : TC b L p S) : rn (fX10_take N S) (fun T => TC b L (tto b L p) T ∧ F12 S T) :=
  rn_mono (C_takeN hN h.1) (fun T hT => ⟨⟨hT.1, by rw [hT.2.1 1 (by decide)]; exact h.2.1, by rw [hT.2.1 1 (by decide)]; exact h.2.2⟩, fun a _ h2 => hT.2.1 a h2, hT.2.2.2⟩)
theorem TC.fail {f : Int32} (hf : f ≠ 0) (h : TC b L p S) : rn (fX7_fail N f S) (fun r => r.1 = -1 ∧ TF f (iN (tfr b L p)) r.2 ∧ (∃ q, CTk b L q r.2) ∧ F12 S r.2) := by
  unfold fX7_fail
  rw [if_pos h.2.1]
  refine rn_u (fun U u => ?_)
  have u2 : U.1 2 3 = iN (tfr b L p) := by rw [u.2.1 2 (by decide)]; exact h.1.2.2.1
  rw [u2]
  refine rn_u (fun W w => ?_)
  have e : ∀ a, a ≠ 1 → W.1 a = S.1 a := fun a ha => (w.2.1 a ha).trans (u.2.1 a ha)
  rw [rn_some]
  exact ⟨rfl, ⟨by rw [w.1, upd_o (by decide), u.1, upd_at], hf, by rw [w.1, upd_at]⟩, ⟨p, h.1.fr (e 2 (by decide)) (e 26 (by decide))⟩, fun a h1 _ => e a h1, w.2.2.trans u.2.2⟩
theorem MT0.good (h : MT0 b L p S) : fX12_isGood N S = some (1, S) := by
  unfold fX12_isGood
  rw [if_pos h.2.1, lt_b]
  exact gd_t (Or.inr rfl)
theorem MF0.bad {f pl : Int32} (h : MF0 b L f pl S) : fX12_isGood N S = some (0, S) := by
  unfold fX12_isGood
  rw [if_neg (by rw [h.2.1]; exact h.2.2.1), lt_b]
  exact gd_t (Or.inl rfl)
theorem MT0.go (hN : 30000 ≤ N) (h : MT0 b L p S) : rn (fX12_goes N S) (fun T => MT0 b L (tto b L p) T ∧ F89 S T) :=
  rn_mono (M_goN hN h.1) (fun T hT => ⟨⟨hT.1, by rw [hT.2.2.1 8 (by omega)]; exact h.2.1, by rw [hT.2.2.1 9 (by omega)]; exact h.2.2⟩, F89.fw hT.2⟩)
theorem MT0.wrong {f : Int32} (hf : f ≠ 0) (h : MT0 b L p S) : rn (fX12_wrong N f S) (fun T => MF0 b L f (iN (tfr b L p)) T ∧ F89 S T) := by
  obtain ⟨h1, h2, h3⟩ := h
  unfold fX12_wrong
  rw [if_pos h2]
  refine rn_u (fun U u => ?_)
  have u14 : U.1 80 14 = iN (tfr b L p) := by rw [u.1, upd_o (by decide)]; exact h1.2.2.1
  rw [u14]
  refine rn_u (fun W w => ?_)
  have e : ∀ j, j ≠ 8 → j ≠ 9 → W.1 80 j = S.1 80 j := fun j h8 h9 => by rw [w.1, upd_o h9, u.1, upd_o h8]
  rw [rn_some]
  refine ⟨⟨⟨p, h1.fr (fun j hj => e j (by omega) (by omega)) (by rw [w.2.1 83 (by decide), u.2.1 83 (by decide)]) (by rw [w.2.2, u.2.2])⟩, ?_, hf, ?_⟩, ⟨fun a ha => (w.2.1 a ha).trans (u.2.1 a ha), fun j hj => e j (by omega) (by omega), fun a k _ => by rw [w.2.2, u.2.2], by rw [w.2.2, u.2.2]⟩⟩
  · rw [w.1, upd_o (by decide), u.1, upd_at]
  · rw [w.1, upd_at]
theorem MF0.wrong {f g pl : Int32} (h : MF0 b L f pl S) : fX12_wrong N g S = some S := by
  unfold fX12_wrong
  rw [if_neg (by rw [h.2.1]; exact h.2.2.1)]
abbrev numOK (b : Nat → Int32) (L p : Nat) (lo hi : Int32) : Prop := tkd b L p = 2 ∧ tto b L p - tfr b L p ≤ 4 ∧ lo ≤ tvl b L p ∧ tvl b L p ≤ hi
def numF (b : Nat → Int32) (L p : Nat) : Int32 := if tkd b L p = 2 then 2 else 1
theorem numF_0 : numF b L p ≠ 0 := by unfold numF; split <;> decide
theorem C_lng (h : CTk b L p S) : fX10_isTooLong N S = some ((if tto b L p - tfr b L p ≤ 4 then 0 else 1), S) := by
  have hp := h.2.1
  have hL := h.1.1
  have t := tto_le (b := b) hp
  unfold fX10_isTooLong
  rw [h.2.2.2.1, h.2.2.1, iN_sub t.1, lt_b]
  by_cases e : tto b L p - tfr b L p ≤ 4
  · rw [if_pos e, if_pos (by rw [show (4 : Int32) = iN 4 from rfl, iN_le (by omega) (by omega)]; exact e)]
    exact gd_t (Or.inl rfl)
  · rw [if_neg e, if_neg (by rw [show (4 : Int32) = iN 4 from rfl, iN_le (by omega) (by omega)]; exact e)]
    exact gd_t (Or.inr rfl)
theorem TC.num {lo hi : Int32} (hN : 30000 ≤ N) (h : TC b L p S) : rn (fX7_readNumber N lo hi S) (fun r => F12 S r.2 ∧ (numOK b L p lo hi → r.1 = tvl b L p ∧ TC b L (tto b L p) r.2) ∧ (¬ numOK b L p lo hi → TF (numF b L p) (iN (tfr b L p)) r.2)) := by
  have hk := tkd_lt (b := b) (L := L) (p := p)
  have bad : ∀ f, f = numF b L p → ¬ numOK b L p lo hi → rn (bI (fX7_fail N f S) fun x12 S13 => some (x12, S13)) (fun r => F12 S r.2 ∧ (numOK b L p lo hi → r.1 = tvl b L p ∧ TC b L (tto b L p) r.2) ∧ (¬ numOK b L p lo hi → TF (numF b L p) (iN (tfr b L p)) r.2)) := by
    intro f hf no
    rw [hf, rn_bI]
    exact rn_mono (h.fail numF_0) (fun r hr => by rw [rn_some]; exact ⟨hr.2.2.2, fun g => absurd g no, fun _ => hr.2.1⟩)
  unfold fX7_readNumber
  rw [if_pos h.2.1, h.1.2.2.2.2.1]
  by_cases k2 : tkd b L p = 2
  · rw [if_pos (by rw [k2]; rfl), lt_b, C_lng h.1, bI_s, h.1.2.2.2.2.2 k2]
    by_cases e4 : tto b L p - tfr b L p ≤ 4
    · rw [if_pos e4, if_pos rfl]
      by_cases el : tvl b L p < lo
      · rw [if_pos el]
        exact bad 2 (by unfold numF; rw [if_pos k2]) (fun g => absurd g.2.2.1 (Int32.not_le.mpr el))
      · rw [if_neg el]
        by_cases eh : tvl b L p ≤ hi
        · rw [if_pos eh, rn_bV]
          exact rn_mono (h.take hN) (fun T hT => by rw [rn_some]; exact ⟨hT.2, fun _ => ⟨rfl, hT.1⟩, fun g => absurd ⟨k2, e4, Int32.not_lt.mp el, eh⟩ g⟩)
        · rw [if_neg eh]
          exact bad 2 (by unfold numF; rw [if_pos k2]) (fun g => eh g.2.2.2)
    · rw [if_neg e4, if_neg (by decide)]
      exact bad 2 (by unfold numF; rw [if_pos k2]) (fun g => e4 g.2.1)
  · rw [if_neg (by rw [show (2 : Int32) = iN 2 from rfl, iN_eq (by omega) (by omega)]; exact k2)]
    exact bad 1 (by unfold numF; rw [if_neg k2]) (fun g => k2 g.1)
theorem TF.num {f pl lo hi : Int32} (h : TF f pl S) : fX7_readNumber N lo hi S = some (-1, S) := by
  unfold fX7_readNumber
  rw [if_neg (by rw [h.1]; exact h.2.1)]
theorem MT0.num {lo hi : Int32} (hN : 30000 ≤ N) (h : MT0 b L p S) : rn (fX12_number N lo hi S) (fun r => F89 S r.2 ∧ (numOK b L p lo hi → r.1 = tvl b L p ∧ MT0 b L (tto b L p) r.2) ∧ (¬ numOK b L p lo hi → MF0 b L (numF b L p) (iN (tfr b L p)) r.2)) := by
  have hp := h.1.2.1
  have hL := h.1.1.1
  have t := tto_le (b := b) hp
  have k13 : S.1 80 13 = 2 ↔ tkd b L p = 2 := by rw [h.1.2.2.2.2.1]; exact mkd_12 2 (Or.inr rfl)
  have bad : ∀ f, f = numF b L p → ¬ numOK b L p lo hi → rn (bV (fX12_wrong N f S) fun S8 => lt ((S8.1 80 16) : Int32) fun x10 => bI (fX12_isGood N S8) fun x11 S12 => (if x11 = 0 then some (x10, S12) else bV (fX12_goes N S12) fun S16 => some (x10, S16))) (fun r => F89 S r.2 ∧ (numOK b L p lo hi → r.1 = tvl b L p ∧ MT0 b L (tto b L p) r.2) ∧ (¬ numOK b L p lo hi → MF0 b L (numF b L p) (iN (tfr b L p)) r.2)) := by
    intro f hf no
    rw [hf, rn_bV]
    refine rn_mono (h.wrong numF_0) (fun T hT => ?_)
    rw [lt_b, hT.1.bad, bI_s, if_pos rfl, rn_some]
    exact ⟨hT.2, fun g => absurd g no, fun _ => hT.1⟩
  unfold fX12_number
  rw [h.good, bI_s, if_neg (by decide)]
  by_cases k2 : tkd b L p = 2
  · have e16 := h.1.2.2.2.2.2.1 k2
    rw [if_pos (k13.mpr k2), h.1.2.2.2.2.2.2.1]
    by_cases e4 : tto b L p - tfr b L p ≤ 4
    · rw [if_neg (by rw [show (4 : Int32) = iN 4 from rfl, iN_lt (by omega) (by omega)]; omega), e16]
      by_cases el : tvl b L p < lo
      · rw [if_pos el]
        exact bad 2 (by unfold numF; rw [if_pos k2]) (fun g => absurd g.2.2.1 (Int32.not_le.mpr el))
      · rw [if_neg el]
        by_cases eh : tvl b L p ≤ hi
        · rw [if_pos eh, lt_b, h.good, bI_s, if_neg (by decide), rn_bV]
          exact rn_mono (h.go hN) (fun T hT => by rw [rn_some]; exact ⟨hT.2, fun _ => ⟨rfl, hT.1⟩, fun g => absurd ⟨k2, e4, Int32.not_lt.mp el, eh⟩ g⟩)
        · rw [if_neg eh]
          exact bad 2 (by unfold numF; rw [if_pos k2]) (fun g => eh g.2.2.2)
    · rw [if_pos (by rw [show (4 : Int32) = iN 4 from rfl, iN_lt (by omega) (by omega)]; omega)]
      exact bad 2 (by unfold numF; rw [if_pos k2]) (fun g => e4 g.2.1)
  · rw [if_neg (fun q => k2 (k13.mp q))]
    exact bad 1 (by unfold numF; rw [if_neg k2]) (fun g => k2 g.1)
theorem MF0.num {f pl lo hi : Int32} (h : MF0 b L f pl S) : fX12_number N lo hi S = some (0, S) := by
  unfold fX12_number
  rw [h.bad, bI_s, if_pos rfl]
theorem TC.sign {c : Int32} (hN : 30000 ≤ N) (hc : 0 ≤ c.toInt ∧ c.toInt < 128) (h : TC b L p S) : rn (fX7_readSign N c S) (fun T => F12 S T ∧ (sgP b L p c → TC b L (tto b L p) T) ∧ (¬ sgP b L p c → TF 1 (iN (tfr b L p)) T)) := by
  unfold fX7_readSign
  rw [if_pos h.2.1, C_isSg h.1 hc, bI_s]
  by_cases e : sgP b L p c
  · rw [if_pos e, if_neg (by decide), rn_bV]
    exact rn_mono (h.take hN) (fun T hT => by rw [rn_some]; exact ⟨hT.2, fun _ => hT.1, fun g => absurd e g⟩)
  · rw [if_neg e, if_pos rfl, rn_bI]
    exact rn_mono (h.fail (by decide)) (fun r hr => by rw [rn_some]; exact ⟨hr.2.2.2, fun g => absurd g e, fun _ => hr.2.1⟩)
theorem TF.sign {f pl c : Int32} (h : TF f pl S) : fX7_readSign N c S = some S := by
  unfold fX7_readSign
  rw [if_neg (by rw [h.1]; exact h.2.1)]
/-- the sign at a line's end, in the model -/
theorem MT0.need (hN : 30000 ≤ N) (h : MT0 b L p S) : rn (bI (fX12_isSign N 59 S) fun x95 S96 => bV (fX12_need N x95 S96) fun S99 => some S99) (fun T => F89 S T ∧ (sgP b L p 59 → MT0 b L (tto b L p) T) ∧ (¬ sgP b L p 59 → MF0 b L 1 (iN (tfr b L p)) T)) := by
  rw [M_isSg h.1 (by decide), bI_s]
  unfold fX12_need
  rw [h.good, bI_s, if_neg (by decide)]
  by_cases e : sgP b L p 59
  · rw [if_pos e, if_neg (by decide), rn_bV, rn_bV]
    exact rn_mono (h.go hN) (fun T hT => by rw [rn_some, rn_some]; exact ⟨hT.2, fun _ => hT.1, fun g => absurd e g⟩)
  · rw [if_neg e, if_pos rfl, rn_bV, rn_bV]
    exact rn_mono (h.wrong (by decide)) (fun T hT => by rw [rn_some, rn_some]; exact ⟨hT.2, fun g => absurd g e, fun _ => hT.1⟩)
theorem MF0.need {f pl : Int32} (h : MF0 b L f pl S) : rn (bI (fX12_isSign N 59 S) fun x95 S96 => bV (fX12_need N x95 S96) fun S99 => some S99) (fun T => T = S) := by
  obtain ⟨q, hq⟩ := h.1
  rw [M_isSg hq (by decide), bI_s]
  unfold fX12_need
  rw [h.bad, bI_s, if_pos rfl, rn_bV, rn_some, rn_some]
end LIN
