/-! ===== phase 2: all lines, both ===== -/
abbrev Fin2 : Type := (Cv × Rw) ⊕ (Int32 × Int32)
def enC (b : Nat → Int32) (L c : Nat) (S : PS) : Fin2 → PS → Prop
  | .inl q, T => (∃ p, TC b L p T) ∧ CVs c q.1 q.2 T ∧ FRd c S T
  | .inr q, T => TF q.1 q.2 T ∧ FRd c S T
def enM (b : Nat → Int32) (L : Nat) (S : PS) : Fin2 → PS → Prop
  | .inl q, T => (∃ p, MT0 b L p T) ∧ (∃ X, X.length ≤ 1400 ∧ MVs q.1 q.2 X T) ∧ FMd S T
  | .inr q, T => MF0 b L q.1 q.2 T ∧ FMd S T
def fiOK : Fin2 → Prop
  | .inl q => WV q.1 q.2
  | .inr q => q.1 ≠ 0
section ALL
variable {N : Nat} {b : Nat → Int32} {L : Nat}
theorem enC_f {c : Nat} {S T : PS} {out : Fin2} (f : FRd c S T) : ∀ U, enC b L c T out U → enC b L c S out U := by
  intro U h
  cases out with
  | inl q => exact ⟨h.1, h.2.1, f.tr h.2.2⟩
  | inr q => exact ⟨h.1, f.tr h.2⟩
theorem enM_f {S T : PS} {out : Fin2} (f : FMd S T) : ∀ U, enM b L T out U → enM b L S out U := by
  intro U h
  cases out with
  | inl q => exact ⟨h.1, h.2.1, f.tr h.2.2⟩
  | inr q => exact ⟨h.1, f.tr h.2⟩
/-- one turn of the class's loop -/
theorem rd_turn {c p i f : Nat} {v : Int32} {V : Cv} {A : Rw} {S : PS} {Q : Int32 × PS → Prop} (hN : 30000 ≤ N) (hi : i < 700) (h : TC b L p S) (hv : CVs c V A S) (hk : ¬ tkd b L p = 0) (fin : rn (lnP N c S) (fun T => rn (fX7_read_27 N v f (iN (i + 1)) T) Q)) : rn (fX7_read_27 N v (f + 1) (iN i) S) Q := by
  have hk3 := tkd_lt (b := b) (L := L) (p := p)
  have ob := (cvR hv.1).1
  have wd : ∀ k, k < 12 → fX10_isWord N k S = some ((if wdP b L p k then 1 else 0), S) := fun k hk => C_isWd hN hk h.1
  rw [fX7_read_27, if_neg (by rw [show (700 : Int32) = iN 700 from rfl, iN_le (by omega) (by omega)]; omega), if_pos h.2.1, h.1.2.2.2.2.1, if_neg (by rw [show (0 : Int32) = iN 0 from rfl, iN_eq (by omega) (by omega)]; exact hk), wd 0 (by omega), bI_s]
  unfold lnP at fin
  rw [wd 0 (by omega), bI_s] at fin
  by_cases a0 : wdP b L p 0
  · rw [if_pos a0, if_neg (by decide)] at fin ⊢
    rw [rn_bV]
    exact rn_mono fin (fun T hT => by rw [rn_lt, iN_1]; exact hT)
  · rw [if_neg a0, if_pos rfl, wd 1 (by omega), bI_s] at fin ⊢
    by_cases a1 : wdP b L p 1
    · rw [if_pos a1, if_neg (by decide)] at fin ⊢
      rw [rn_bV]
      exact rn_mono fin (fun T hT => by rw [rn_lt, iN_1]; exact hT)
    · rw [if_neg a1, if_pos rfl, wd 2 (by omega), bI_s] at fin ⊢
      by_cases a2 : wdP b L p 2
      · rw [if_pos a2, if_neg (by decide)] at fin ⊢
        rw [hv.2.1, lt_b, gd_t ob, rn_bV]
        exact rn_mono fin (fun T hT => by rw [rn_lt, iN_1]; exact hT)
      · rw [if_neg a2, if_pos rfl, wd 11 (by omega), bI_s] at fin ⊢
        by_cases a3 : wdP b L p 11
        · rw [if_pos a3, if_neg (by decide)] at fin ⊢
          rw [hv.2.1, lt_b, gd_t ob, rn_bV]
          exact rn_mono fin (fun T hT => by rw [rn_lt, iN_1]; exact hT)
        · rw [if_neg a3, if_pos rfl, rn_bI] at fin ⊢
          exact rn_mono fin (fun r hr => by rw [rn_some] at hr; rw [rn_lt, iN_1]; exact hr)
theorem rd_end {c p i f : Nat} {v : Int32} {S : PS} {Q : Int32 × PS → Prop} (h : TC b L p S) (hk : tkd b L p = 0) (fin : ∀ x, Q (x, S)) : rn (fX7_read_27 N v (f + 1) (iN i) S) Q := by
  rw [fX7_read_27]
  by_cases g : (700 : Int32) ≤ iN i
  · rw [if_pos g, rn_some]; exact fin _
  · rw [if_neg g, if_pos h.2.1, h.1.2.2.2.2.1, hk, if_pos (show iN 0 = 0 from rfl), rn_some]; exact fin _
theorem rd_bad {i f : Nat} {v fa pl : Int32} {S : PS} {Q : Int32 × PS → Prop} (h : TF fa pl S) (fin : ∀ x, Q (x, S)) : rn (fX7_read_27 N v (f + 1) (iN i) S) Q := by
  rw [fX7_read_27]
  by_cases g : (700 : Int32) ≤ iN i
  · rw [if_pos g, rn_some]; exact fin _
  · rw [if_neg g, if_neg (by rw [h.1]; exact h.2.1), rn_some]; exact fin _
theorem lines_both (hN : 30000 ≤ N) (hL : L ≤ 700) : ∀ m p V A, p ≤ L → L - p < m → WV V A → ∃ out, fiOK out ∧ (∀ c i f v S, i ≤ p → L - p < f → TC b L p S → CVs c V A S → rn (fX7_read_27 N v (f + 1) (iN i) S) (fun r => enC b L c S out r.2)) ∧ ∀ X f v1 v2 S, X.length ≤ 2 * p → L - p < f → MT0 b L p S → MVs V A X S → rn (fX12_cave_102 N v1 v2 (f + 1) S) (enM b L S out)
  | 0, p, V, A, hp, hm, hw => by omega
  | m + 1, p, V, A, hp, hm, hw => by
    by_cases hk : tkd b L p = 0
    · refine ⟨.inl (V, A), hw, fun c i f v S hi hf h hv => rd_end h hk (fun x => ⟨⟨p, h⟩, hv, FRd.rfl⟩) (c := c), fun X f v1 v2 S hX hf h hv => ?_⟩
      have e13 : S.1 80 13 = 0 := by rw [h.1.2.2.2.2.1]; unfold mkd; rw [hk, if_neg (by decide)]; rfl
      rw [fX12_cave_102, h.good, bI_s, if_neg (by decide), if_pos e13, rn_some]
      exact ⟨⟨p, h⟩, ⟨X, by omega, hv⟩, FMd.rfl⟩
    · obtain ⟨o1, ok, oc, om⟩ := any_line (N := N) (b := b) hN hL hp hw hk
      have hlt : p < L := by
        have := tfr_le (b := b) hp
        have t := tto_le (b := b) hp
        have := t.2.2 hk
        omega
      have n13 : ∀ S, MT0 b L p S → ¬ S.1 80 13 = 0 := fun S h => by
        have hk3 := tkd_lt (b := b) (L := L) (p := p)
        rw [h.1.2.2.2.2.1]
        unfold mkd
        by_cases k3 : tkd b L p = 3
        · rw [if_pos k3]
          unfold sgK
          repeat (first | (split; decide) | decide)
        · rw [if_neg k3, show (0 : Int32) = iN 0 from rfl, iN_eq (by omega) (by omega)]
          exact hk
      cases o1 with
      | inr q =>
        refine ⟨.inr q, ok, fun c i f v S hi hf h hv => ?_, fun X f v1 v2 S hX hf h hv => ?_⟩
        · refine rd_turn hN (by omega) h hv hk (rn_mono (oc c S h hv) (fun T hT => ?_))
          obtain ⟨f', rfl⟩ : ∃ f', f = f' + 1 := ⟨f - 1, by omega⟩
          exact rd_bad hT.1 (fun x => hT)
        · rw [fX12_cave_102, h.good, bI_s, if_neg (by decide), if_neg (n13 S h), rn_bV]
          refine rn_mono (om X S hX h hv) (fun T hT => ?_)
          obtain ⟨f', rfl⟩ : ∃ f', f = f' + 1 := ⟨f - 1, by omega⟩
          rw [fX12_cave_102, hT.1.bad, bI_s, if_pos rfl, rn_some]
          exact hT
      | inl q =>
        obtain ⟨w1, w2, w3⟩ := ok
        obtain ⟨out, z1, z2, z3⟩ := lines_both hN hL m q.1 q.2.1 q.2.2 w3 (by omega) w1
        refine ⟨out, z1, fun c i f v S hi hf h hv => ?_, fun X f v1 v2 S hX hf h hv => ?_⟩
        · refine rd_turn hN (by omega) h hv hk (rn_mono (oc c S h hv) (fun T hT => ?_))
          obtain ⟨f', rfl⟩ : ∃ f', f = f' + 1 := ⟨f - 1, by omega⟩
          exact rn_mono (z2 c (i + 1) f' v T (by omega) (by omega) hT.1 hT.2.1) (fun r hr => enC_f hT.2.2 _ hr)
        · rw [fX12_cave_102, h.good, bI_s, if_neg (by decide), if_neg (n13 S h), rn_bV]
          refine rn_mono (om X S hX h hv) (fun T hT => ?_)
          obtain ⟨f', rfl⟩ : ∃ f', f = f' + 1 := ⟨f - 1, by omega⟩
          obtain ⟨X', hX', hv'⟩ := hT.2.1
          exact rn_mono (z3 X' f' v1 v2 T hX' (by omega) hT.1 hv') (enM_f hT.2.2)
end ALL
