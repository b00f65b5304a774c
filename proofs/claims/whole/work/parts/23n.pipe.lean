/-! ===== phase 2: the line of a pipe, in the model ===== -/
/-- behind the first cup of a pipe -/
def mpg2 (N : Nat) (x : Int32) (S : PS) : Option PS := (if (S.1 80 13) = 2 then bI (fX12_isCupHere N S) fun x32 S33 => (if x32 = 0 then some S33 else (if (S33.1 80 16) ≤ x then bV (fX12_wrong N 4 S33) fun S38 => bI (fX12_isGood N S38) fun x40 S41 => (if x40 = 0 then some S41 else gd (inr (28 + x) 64) <| lt ((u2 S41.1 86 (ix (28 + x)) (S41.1 80 16), S41.2) : PS) fun S45 => bV (fX12_goes N S45) fun S47 => some S47) else gd (inr (19 + x) 64) <| (if (S33.1 80 16) = (S33.1 86 (ix (19 + x))) then bV (fX12_wrong N 4 S33) fun S61 => bI (fX12_isGood N S61) fun x63 S64 => (if x63 = 0 then some S64 else gd (inr (28 + x) 64) <| lt ((u2 S64.1 86 (ix (28 + x)) (S64.1 80 16), S64.2) : PS) fun S68 => bV (fX12_goes N S68) fun S70 => some S70) else bI (fX12_isGood N S33) fun x1 S52 => (if x1 = 0 then some S52 else gd (inr (28 + x) 64) <| lt ((u2 S52.1 86 (ix (28 + x)) (S52.1 80 16), S52.2) : PS) fun S56 => bV (fX12_goes N S56) fun S58 => some S58)))) else some S)
section PIM
variable {N : Nat} {b : Nat → Int32} {L : Nat} {q d : Nat} {V : Cv} {A : Rw} {X : List Int32} {S : PS}
/-- the model behind the second cup of a pipe, or without one -/
theorem M_pip2 {x1 : Int32} (hN : 30000 ≤ N) (hd : d < 9) (h : MT0 b L q S) (h19 : S.1 80 19 = iN V.1) (h86 : S.1 86 (19 + d) = x1) : rn (mpg2 N (iN d) S) (fun T => FMd S T ∧ (¬ tkd b L q = 2 → T = S) ∧ (tkd b L q = 2 → ¬ cuOK b L q V.1 → MF0 b L (cuF b L q) (iN (tfr b L q)) T) ∧ (tkd b L q = 2 → cuOK b L q V.1 → (tvl b L q ≤ iN d ∨ tvl b L q = x1) → MF0 b L 4 (iN (tfr b L q)) T) ∧ (tkd b L q = 2 → cuOK b L q V.1 → ¬ (tvl b L q ≤ iN d ∨ tvl b L q = x1) → MT0 b L (tto b L q) T ∧ T.1 86 = upd (S.1 86) (28 + d) (tvl b L q) ∧ (∀ a, a ≠ 80 → a ≠ 86 → T.1 a = S.1 a) ∧ ∀ j, ¬ (j = 8 ∨ j = 9 ∨ (12 ≤ j ∧ j ≤ 17)) → T.1 80 j = S.1 80 j)) := by
  have k13 : S.1 80 13 = 2 ↔ tkd b L q = 2 := by rw [h.1.2.2.2.2.1]; exact mkd_12 2 (Or.inr rfl)
  have o19 : (19 : Int32) + iN d = iN (19 + d) := by rw [show (19 : Int32) = iN 19 from rfl, iN_add]
  have o28 : (28 : Int32) + iN d = iN (28 + d) := by rw [show (28 : Int32) = iN 28 from rfl, iN_add]
  unfold mpg2
  by_cases k2 : tkd b L q = 2
  · rw [if_pos (k13.mpr k2), rn_bI]
    refine rn_mono (M_here (V := V) h h19) (fun r hr => ?_)
    by_cases j1 : cuOK b L q V.1
    · obtain ⟨e1, e2⟩ := hr.2.1 j1
      have e16 := h.1.2.2.2.2.2.1 k2
      rw [e1, e2, if_neg (by decide), e16]
      by_cases c1 : tvl b L q ≤ iN d
      · rw [if_pos c1, rn_bV]
        refine rn_mono (h.wrong (by decide)) (fun T hT => ?_)
        rw [hT.1.bad, bI_s, if_pos rfl, rn_some]
        exact ⟨FMd.f89 hT.2, fun g => absurd k2 g, fun _ g => absurd j1 g, fun _ _ _ => hT.1, fun _ _ g => absurd (Or.inl c1) g⟩
      · rw [if_neg c1, o19, gd_t (inr_iN (by omega) (by omega)), ix_iN (by omega), h86]
        by_cases c2 : tvl b L q = x1
        · rw [if_pos c2, rn_bV]
          refine rn_mono (h.wrong (by decide)) (fun T hT => ?_)
          rw [hT.1.bad, bI_s, if_pos rfl, rn_some]
          exact ⟨FMd.f89 hT.2, fun g => absurd k2 g, fun _ g => absurd j1 g, fun _ _ _ => hT.1, fun _ _ g => absurd (Or.inr c2) g⟩
        · rw [if_neg c2, h.good, bI_s, if_neg (by decide), o28, gd_t (inr_iN (by omega) (by omega)), ix_iN (by omega), e16]
          refine rn_u (fun U u => ?_)
          have fw := FRw.ua u (by omega)
          rw [rn_bV]
          refine rn_mono ((h.rw fw).go hN) (fun T hT => ?_)
          rw [rn_some]
          refine ⟨fw.md.tr (FMd.f89 hT.2), fun g => absurd k2 g, fun _ g => absurd j1 g, fun _ _ g => by rcases g with g | g; exact absurd g c1; exact absurd g c2, fun _ _ _ => ⟨hT.1, by rw [hT.2.1 86 (by decide), u.1], fun a a1 a2 => (hT.2.1 a a1).trans (u.2.1 a a2), fun j hj => (hT.2.2.1 j hj).trans (by rw [u.2.1 80 (by decide)])⟩⟩
    · obtain ⟨e1, e2⟩ := hr.2.2 j1
      rw [e1, if_pos rfl, rn_some]
      exact ⟨FMd.f89 hr.1, fun g => absurd k2 g, fun _ _ => e2, fun _ g => absurd g j1, fun _ g => absurd g j1⟩
  · rw [if_neg (fun g => k2 (k13.mp g)), rn_some]
    exact ⟨FMd.rfl, fun _ => rfl, fun g => absurd g k2, fun g => absurd g k2, fun g => absurd g k2⟩
end PIM
