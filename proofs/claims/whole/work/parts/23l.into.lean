/-! ===== phase 2: the line of a pipe, in the class ===== -/
section PIC
variable {N : Nat} {b : Nat → Int32} {L : Nat} {q c : Nat} {V : Cv} {A : Rw} {S : PS}
/-- into which cup: not below from, not as the other one -/
theorem C_intoP {d0 : Nat} {x : Int32} (hN : 30000 ≤ N) (hn : V.1 ≤ 9) (hd : d0 < 9) (h : TC b L q S) (hv : CVs c V A S) : rn (fX7_readInto N (iN d0) x S) (fun r => F12 S r.2 ∧ (¬ cuOK b L q V.1 → r.1 = -1 ∧ TF (cuF b L q) (iN (tfr b L q)) r.2) ∧ (cuOK b L q V.1 → (tvl b L q ≤ iN d0 ∨ tvl b L q = x) → r.1 = -1 ∧ TF 4 (iN (tfr b L q)) r.2) ∧ (cuOK b L q V.1 → ¬ (tvl b L q ≤ iN d0 ∨ tvl b L q = x) → r.1 = tvl b L q ∧ TC b L (tto b L q) r.2)) := by
  unfold fX7_readInto
  rw [rn_bI]
  refine rn_mono (C_lookC h hv) (fun r hr => ?_)
  by_cases k : cuOK b L q V.1
  · obtain ⟨e1, e2⟩ := hr.2.1 k
    obtain ⟨d, hd2, ed⟩ := cu_n h.1.2.1 hn k
    rw [e1, e2, if_neg (by rw [ed]; exact iN_n1 (by omega))]
    have f4 : rn (bI (fX7_fail N 4 S) fun x6 S7 => some (x6, S7)) (fun r => r.1 = -1 ∧ TF 4 (iN (tfr b L q)) r.2 ∧ F12 S r.2) := by
      rw [rn_bI]
      exact rn_mono (h.fail (by decide)) (fun r hr => by rw [rn_some]; exact ⟨hr.1, hr.2.1, hr.2.2.2⟩)
    by_cases a : tvl b L q ≤ iN d0
    · rw [if_pos a]
      exact rn_mono f4 (fun r hr => ⟨hr.2.2, fun g => absurd k g, fun _ _ => ⟨hr.1, hr.2.1⟩, fun _ g => absurd (Or.inl a) g⟩)
    · rw [if_neg a]
      by_cases e : tvl b L q = x
      · rw [if_pos e]
        exact rn_mono f4 (fun r hr => ⟨hr.2.2, fun g => absurd k g, fun _ _ => ⟨hr.1, hr.2.1⟩, fun _ g => absurd (Or.inr e) g⟩)
      · rw [if_neg e, rn_bV]
        refine rn_mono (h.take hN) (fun T hT => ?_)
        rw [rn_some]
        exact ⟨hT.2, fun g => absurd k g, fun _ g => by rcases g with g | g; exact absurd g a; exact absurd g e, fun _ _ => ⟨rfl, hT.1⟩⟩
  · obtain ⟨e1, e2⟩ := hr.2.2 k
    rw [e1, if_pos rfl, rn_some]
    exact ⟨hr.1, fun _ => ⟨rfl, e2⟩, fun g => absurd g k, fun g => absurd g k⟩
end PIC
