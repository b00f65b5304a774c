/-! ===== phase 2: the model takes a cave ===== -/
theorem CDL_cg {f g : Nat → Int32} : ∀ (X : List Int32) (i : Nat), (∀ k, i ≤ k → k < i + X.length → g k = f k) → CDL f i X → CDL g i X
  | [], i, _, _ => by rw [CDL]; trivial
  | x :: X, i, e, h => by
    rw [CDL] at h ⊢
    rw [List.length_cons] at e
    exact ⟨by rw [e i (Nat.le_refl i) (by omega)]; exact h.1, CDL_cg X (i + 1) (fun k h1 h2 => e k (by omega) (by omega)) h.2⟩
theorem MC_cd {f : Nat → Int32} : ∀ (L : List Int32) (i : Nat), CDL f i (mcL L ++ [0]) → i + (mcL L ++ [0]).length ≤ 1400 → MC f i L
  | [], i, h, hl => by
    rw [mcL, List.nil_append, CDL] at h
    rw [mcL, List.nil_append, List.length_singleton] at hl
    rw [MC]
    exact ⟨h.1, by omega⟩
  | x :: r, i, h, hl => by
    rw [mcL, List.append_assoc, CDL_app] at h
    rw [mcL, List.append_assoc, List.length_append] at hl
    rw [MC]
    by_cases h7 : x ≤ -7
    · rw [if_pos h7] at h hl ⊢
      rw [CDL, List.length_singleton] at h
      rw [List.length_singleton] at hl
      exact ⟨h.1.1, MC_cd r (i + 1) h.2 (by omega)⟩
    · rw [if_neg h7] at h hl ⊢
      by_cases h0 : x < 0
      · rw [if_pos h0] at h hl ⊢
        rw [CDL, CDL] at h
        exact ⟨h.1.1, h.1.2.1, MC_cd r (i + 2) h.2 (by have e : ([2, mv x] : List Int32).length = 2 := rfl; omega)⟩
      · rw [if_neg h0] at h hl ⊢
        rw [CDL, CDL] at h
        exact ⟨h.1.1, h.1.2.1, MC_cd r (i + 2) h.2 (by have e : ([1, x] : List Int32).length = 2 := rfl; omega)⟩
theorem RM_x {lk : Option (List Int32)} {v : Int32} {X : List Int32} {f : Nat → Int32} (h : RMx lk v X) (hX : X.length ≤ 1400) (hd : CDL f 0 X) : RM lk v f := by
  cases lk with
  | none => exact h
  | some L =>
    obtain ⟨⟨X1, X2, e, ev⟩, h2, h3⟩ := h
    have hl : X.length = X1.length + ((mcL L ++ [0]).length + X2.length) := by rw [e, List.length_append, List.length_append]
    have l1 : 1 ≤ (mcL L ++ [0]).length := by rw [List.length_append, List.length_singleton]; omega
    rw [e, CDL_app, CDL_app, Nat.zero_add] at hd
    exact ⟨X1.length, by omega, ev, MC_cd L X1.length hd.2.1 (by omega), h2, h3⟩
/-- before the lines -/
def PRm (S T : PS) : Prop := (∀ a, a ≠ 80 → a ≠ 86 → T.1 a = S.1 a) ∧ (∀ j, ¬ (7 ≤ j ∧ j ≤ 22) → T.1 80 j = S.1 80 j) ∧ T.1 80 7 = 0 ∧ (∀ a k, ¬ (a = 80 ∧ k = 18) → T.2.1 a k = S.2.1 a k) ∧ T.2.2 = S.2.2
section MCV
variable {N : Nat} {b : Nat → Int32} {L : Nat} {S : PS} {G : Gs}
theorem M_c74 {v : Int32} (hN : 30000 ≤ N) : rn (fX12_cave_74 N v N 0 S) (fun r => (∀ k, k < 64 → r.2.1 86 k = 0) ∧ FC (fun a => a = 86) S r.2) := by
  refine forG (f := fun f' j s => fX12_cave_74 N v f' (iN j) s) 64 (J := fun j T => (∀ k, k < j → T.1 86 k = 0) ∧ FC (fun a => a = 86) S T) ?_ ?_ N 0 S (by omega) ⟨fun i h => by omega, FC.rfl⟩ (by omega)
  · rintro f' W ⟨g1, g2⟩
    show rn (fX12_cave_74 N v (f' + 1) (iN 64) W) _
    rw [fX12_cave_74, if_pos (show (64 : Int32) ≤ iN 64 from Int32.le_refl _), rn_some]
    exact ⟨g1, g2⟩
  · rintro f' j W hj ⟨g1, g2⟩ hn
    show rn (fX12_cave_74 N v (f' + 1) (iN j) W) _
    rw [fX12_cave_74, if_neg (by rw [show (64 : Int32) = iN 64 from rfl, iN_le (by omega) (by omega)]; omega), gd_t (inr_iN hj (by omega)), ix_iN (by omega)]
    refine rn_u (fun U u => ?_)
    rw [rn_lt, iN_1]
    refine hn U ⟨fun k hk => ?_, FC.ur g2 u rfl⟩
    rw [u.1]
    by_cases e : k = j
    · rw [e, upd_at]
    · rw [upd_o e]; exact g1 k (by omega)
theorem M_c195 {v : Int32} (hN : 30000 ≤ N) : rn (fX12_cave_195 N v N 0 S) (fun r => (∀ k, k < 64 → r.2.1 91 k = S.1 86 k) ∧ FC (fun a => a = 91) S r.2) := by
  refine forG (f := fun f' j s => fX12_cave_195 N v f' (iN j) s) 64 (J := fun j T => (∀ k, k < j → T.1 91 k = S.1 86 k) ∧ FC (fun a => a = 91) S T) ?_ ?_ N 0 S (by omega) ⟨fun i h => by omega, FC.rfl⟩ (by omega)
  · rintro f' W ⟨g1, g2⟩
    show rn (fX12_cave_195 N v (f' + 1) (iN 64) W) _
    rw [fX12_cave_195, if_pos (show (64 : Int32) ≤ iN 64 from Int32.le_refl _), rn_some]
    exact ⟨g1, g2⟩
  · rintro f' j W hj ⟨g1, g2⟩ hn
    show rn (fX12_cave_195 N v (f' + 1) (iN j) W) _
    rw [fX12_cave_195, if_neg (by rw [show (64 : Int32) = iN 64 from rfl, iN_le (by omega) (by omega)]; omega), gd_t (inr_iN hj (by omega)), gd_t (inr_iN (show j < 128 by omega) (by omega)), ix_iN (by omega)]
    refine rn_u (fun U u => ?_)
    rw [rn_lt, iN_1]
    refine hn U ⟨fun k hk => ?_, FC.ur g2 u rfl⟩
    rw [u.1]
    by_cases e : k = j
    · rw [e, upd_at, g2.1 86 (by decide)]
    · rw [upd_o e]; exact g1 k (by omega)
theorem M_prep {Q : Int32 × PS → Prop} {F : Int32 → PS → Option (Int32 × PS)} (hN : 30000 ≤ N) (hL : L ≤ 700) (hb : ∀ k, k < L → S.1 83 k = b k) (fin : ∀ v T, MT0 b L 0 T → MVs V0 A0 [] T → PRm S T → rn (F v T) Q) :
    rn (lt ((u2 S.1 80 7 0, S.2) : PS) fun S73 =>
      lt ((u2 S73.1 80 9 (-1), S73.2) : PS) fun S74 =>
      lt ((u2 S74.1 80 8 0, S74.2) : PS) fun S75 =>
      lt ((u2 S75.1 80 11 (iN L), S75.2) : PS) fun S76 =>
      lt ((u2 S76.1 80 12 0, S76.2) : PS) fun S77 =>
      lt ((u2 S77.1 80 19 0, S77.2) : PS) fun S78 =>
      lt ((u2 S78.1 80 20 (-1), S78.2) : PS) fun S79 =>
      lt ((u2 S79.1 80 21 (-1), S79.2) : PS) fun S80 =>
      bT (fX12_cave_74 N (iN L) N 0 S80) fun q81 =>
      lt (q81.1 : Int32) fun x82 =>
      lt (q81.2 : PS) fun S83 =>
      lt ((u2 S83.1 80 22 0, S83.2) : PS) fun S86 =>
      bV (fX12_goes N  S86) fun S88 => F x82 S88) Q := by
  refine rn_u (fun T1 u1 => ?_)
  refine rn_u (fun T2 u2 => ?_)
  refine rn_u (fun T3 u3 => ?_)
  refine rn_u (fun T4 u4 => ?_)
  refine rn_u (fun T5 u5 => ?_)
  refine rn_u (fun T6 u6 => ?_)
  refine rn_u (fun T7 u7 => ?_)
  refine rn_u (fun T8 u8 => ?_)
  rw [rn_bT]
  refine rn_mono (M_c74 hN) (fun r hr => ?_)
  obtain ⟨r1, r2⟩ := hr
  rw [rn_lt, rn_lt]
  refine rn_u (fun T9 u9 => ?_)
  have e86 : ∀ k, k < 64 → T9.1 86 k = 0 := fun k hk => by rw [u9.2.1 86 (by decide)]; exact r1 k hk
  have ea : ∀ a, a ≠ 80 → a ≠ 86 → T9.1 a = S.1 a := fun a a1 a2 => by rw [u9.2.1 a a1, r2.1 a a2, u8.2.1 a a1, u7.2.1 a a1, u6.2.1 a a1, u5.2.1 a a1, u4.2.1 a a1, u3.2.1 a a1, u2.2.1 a a1, u1.2.1 a a1]
  have r80 : r.2.1 80 = T8.1 80 := r2.1 80 (by decide)
  have eo : ∀ j, ¬ (7 ≤ j ∧ j ≤ 22) → T9.1 80 j = S.1 80 j := fun j hj => by rw [u9.1, upd_o (by omega), r80, u8.1, upd_o (by omega), u7.1, upd_o (by omega), u6.1, upd_o (by omega), u5.1, upd_o (by omega), u4.1, upd_o (by omega), u3.1, upd_o (by omega), u2.1, upd_o (by omega), u1.1, upd_o (by omega)]
  have e7 : T9.1 80 7 = 0 := by rw [u9.1, upd_o (by omega), r80, u8.1, upd_o (by omega), u7.1, upd_o (by omega), u6.1, upd_o (by omega), u5.1, upd_o (by omega), u4.1, upd_o (by omega), u3.1, upd_o (by omega), u2.1, upd_o (by omega), u1.1, upd_at]
  have e9 : T9.1 80 9 = -1 := by rw [u9.1, upd_o (by omega), r80, u8.1, upd_o (by omega), u7.1, upd_o (by omega), u6.1, upd_o (by omega), u5.1, upd_o (by omega), u4.1, upd_o (by omega), u3.1, upd_o (by omega), u2.1, upd_at]
  have e8 : T9.1 80 8 = 0 := by rw [u9.1, upd_o (by omega), r80, u8.1, upd_o (by omega), u7.1, upd_o (by omega), u6.1, upd_o (by omega), u5.1, upd_o (by omega), u4.1, upd_o (by omega), u3.1, upd_at]
  have e11 : T9.1 80 11 = iN L := by rw [u9.1, upd_o (by omega), r80, u8.1, upd_o (by omega), u7.1, upd_o (by omega), u6.1, upd_o (by omega), u5.1, upd_o (by omega), u4.1, upd_at]
  have e12 : T9.1 80 12 = 0 := by rw [u9.1, upd_o (by omega), r80, u8.1, upd_o (by omega), u7.1, upd_o (by omega), u6.1, upd_o (by omega), u5.1, upd_at]
  have e19 : T9.1 80 19 = 0 := by rw [u9.1, upd_o (by omega), r80, u8.1, upd_o (by omega), u7.1, upd_o (by omega), u6.1, upd_at]
  have e20 : T9.1 80 20 = -1 := by rw [u9.1, upd_o (by omega), r80, u8.1, upd_o (by omega), u7.1, upd_at]
  have e21 : T9.1 80 21 = -1 := by rw [u9.1, upd_o (by omega), r80, u8.1, upd_at]
  have e22 : T9.1 80 22 = 0 := by rw [u9.1, upd_at]
  have e2 : T9.2 = S.2 := by rw [u9.2.2, r2.2, u8.2.2, u7.2.2, u6.2.2, u5.2.2, u4.2.2, u3.2.2, u2.2.2, u1.2.2]
  clear u1 u2 u3 u4 u5 u6 u7 u8 u9 r1 r2 r80
  rw [rn_bV]
  refine rn_mono (M_go0 (b := b) hN ⟨hL, e11, fun k hk => by rw [ea 83 (by decide) (by decide)]; exact hb k hk⟩ (Nat.zero_le L) (by rw [e12]; rfl)) (fun T hT => ?_)
  obtain ⟨mt, f1, f2, f3, f4⟩ := hT
  have t86 : ∀ k, k < 64 → T.1 86 k = 0 := fun k hk => by rw [f1 86 (by decide)]; exact e86 k hk
  refine fin r.1 T ⟨mt, by rw [f2 8 (by omega)]; exact e8, by rw [f2 9 (by omega)]; exact e9⟩ ⟨by rw [f2 19 (by omega), e19]; rfl, fun k hk => absurd hk (Nat.not_lt_zero k), ⟨t86 0 (by omega), fun k hk => ⟨t86 _ (by omega), t86 _ (by omega), t86 _ (by omega)⟩⟩, by rw [f2 22 (by omega), e22]; rfl, ?_, ?_, ?_⟩ ⟨fun a a1 a2 => by rw [f1 a a1]; exact ea a a1 a2, fun j hj => by rw [f2 j (by omega)]; exact eo j hj, by rw [f2 7 (by omega)]; exact e7, fun a k hk => by rw [f3 a k hk, e2], by rw [f4, e2]⟩
  · rw [CDL]; trivial
  · show T.1 80 20 = -1
    rw [f2 20 (by omega)]; exact e20
  · show T.1 80 21 = -1
    rw [f2 21 (by omega)]; exact e21
end MCV
