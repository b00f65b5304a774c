/-! ===== phase 2: rules: what the class does with its code ===== -/
abbrev isRu (o : Nat) : Prop := o = 14 ∨ o = 15 ∨ o = 16 ∨ o = 17
theorem ru_ob {o : Nat} (h : isRu o) : obj o 8 ∧ arr (sr o 0) 1 700 ∧ sr o 0 = 42 + 2 * (o - 14) := by
  rcases h with rfl | rfl | rfl | rfl
  · exact ⟨⟨rfl, by decide⟩, ⟨rfl, by decide⟩, rfl⟩
  · exact ⟨⟨rfl, by decide⟩, ⟨rfl, by decide⟩, rfl⟩
  · exact ⟨⟨rfl, by decide⟩, ⟨rfl, by decide⟩, rfl⟩
  · exact ⟨⟨rfl, by decide⟩, ⟨rfl, by decide⟩, rfl⟩
theorem CDL_app {f : Nat → Int32} : ∀ (A B : List Int32) (i : Nat), CDL f i (A ++ B) ↔ CDL f i A ∧ CDL f (i + A.length) B
  | [], B, i => by simp [CDL]
  | x :: A, B, i => by
    rw [List.cons_append, CDL, CDL, CDL_app A B (i + 1), List.length_cons, show i + 1 + A.length = i + (A.length + 1) from by omega]
    exact ⟨fun h => ⟨⟨h.1, h.2.1⟩, h.2.2⟩, fun h => ⟨h.1.1, h.1.2, h.2⟩⟩
theorem CDL_up {f : Nat → Int32} {k : Nat} {x : Int32} : ∀ (A : List Int32) (i : Nat), i + A.length ≤ k → CDL f i A → CDL (upd f k x) i A
  | [], i, _, _ => by rw [CDL]; trivial
  | y :: A, i, hk, h => by
    rw [CDL] at h ⊢
    have hk' : i + 1 + A.length ≤ k := by rw [List.length_cons] at hk; omega
    exact ⟨by rw [upd_o (by omega)]; exact h.1, CDL_up A (i + 1) hk' h.2⟩
theorem CDL_snoc {f : Nat → Int32} {A : List Int32} {x : Int32} (h : CDL f 0 A) : CDL (upd f A.length x) 0 (A ++ [x]) := by
  rw [CDL_app]
  refine ⟨CDL_up A 0 (by omega) h, ?_⟩
  rw [CDL, CDL, Nat.zero_add, upd_at]
  exact ⟨rfl, trivial⟩
/-- nothing but what reading an expression may change in the class -/
def FE (o : Nat) (S T : PS) : Prop := (∀ a, ¬ (a = 1 ∨ a = 2 ∨ a = o ∨ a = sr o 0) → T.1 a = S.1 a) ∧ (∀ j, ¬ (j = 3 ∨ j = 4) → T.1 1 j = S.1 1 j) ∧ (∀ j, ¬ (3 ≤ j ∧ j ≤ 6) → T.1 2 j = S.1 2 j) ∧ (∀ j, j ≠ 2 → T.1 o j = S.1 o j) ∧ T.2 = S.2
theorem FE.rfl {o : Nat} {S : PS} : FE o S S := ⟨fun _ _ => Eq.refl _, fun _ _ => Eq.refl _, fun _ _ => Eq.refl _, fun _ _ => Eq.refl _, Eq.refl _⟩
theorem FE.tr {o : Nat} {S T U : PS} (h : FE o S T) (h' : FE o T U) : FE o S U := ⟨fun a ha => (h'.1 a ha).trans (h.1 a ha), fun j hj => (h'.2.1 j hj).trans (h.2.1 j hj), fun j hj => (h'.2.2.1 j hj).trans (h.2.2.1 j hj), fun j hj => (h'.2.2.2.1 j hj).trans (h.2.2.2.1 j hj), h'.2.2.2.2.trans h.2.2.2.2⟩
theorem FE.fo2 {o : Nat} {S T : PS} (ho : isRu o) (h : FO 2 (fun j => j = 3 ∨ j = 4 ∨ j = 5 ∨ j = 6) S T) : FE o S T :=
  ⟨fun a ha => h.1 a (by omega), fun j _ => by rw [h.1 1 (by decide)], fun j hj => h.2.1 j (by omega), fun j _ => by rw [h.1 o (by omega)], h.2.2⟩
section RUL
variable {N : Nat} {b : Nat → Int32} {L : Nat} {o : Nat}
/-- the class stands at p in a rule, its code so far K, no fault -/
def XC (b : Nat → Int32) (L o p : Nat) (K : List Int32) (S : PS) : Prop := CTk b L p S ∧ S.1 1 3 = 0 ∧ S.1 1 4 = -1 ∧ S.2.2 1 2 = o ∧ S.1 o 2 = iN K.length ∧ CDL (S.1 (sr o 0)) 0 K ∧ K.length ≤ p
/-- a fault f at pl -/
def XF (b : Nat → Int32) (L o : Nat) (f pl : Int32) (S : PS) : Prop := (∃ q, CTk b L q S) ∧ S.1 1 3 = f ∧ f ≠ 0 ∧ S.1 1 4 = pl ∧ S.2.2 1 2 = o ∧ ∃ k, S.1 o 2 = iN k ∧ k ≤ 700
theorem CTk.fr {p : Nat} {S T : PS} (h : CTk b L p S) (e2 : T.1 2 = S.1 2) (e26 : T.1 26 = S.1 26) : CTk b L p T := by
  obtain ⟨⟨h1, h2, h3⟩, h4⟩ := h
  unfold CTk TB
  rw [e2, e26]
  exact ⟨⟨h1, h2, h3⟩, h4⟩
theorem XC.take {p : Nat} {K : List Int32} {S : PS} (hN : 30000 ≤ N) (ho : isRu o) (h : XC b L o p K S) : rn (fX10_take N S) (fun T => XC b L o (tto b L p) K T ∧ FE o S T) := by
  obtain ⟨h1, h2, h3, h4, h5, h6, h7⟩ := h
  have so := (ru_ob ho).2.2
  refine rn_mono (C_takeN hN h1) (fun T hT => ⟨⟨hT.1, ?_, ?_, ?_, ?_, ?_, ?_⟩, FE.fo2 ho hT.2⟩)
  · rw [hT.2.1 1 (by decide)]; exact h2
  · rw [hT.2.1 1 (by decide)]; exact h3
  · rw [hT.2.2.2]; exact h4
  · rw [hT.2.1 o (by omega)]; exact h5
  · rw [hT.2.1 (sr o 0) (by omega)]; exact h6
  · have := tfr_le (b := b) h1.2.1
    have := tto_le (b := b) h1.2.1
    omega
theorem XC.fail {p : Nat} {K : List Int32} {f : Int32} {S : PS} (ho : isRu o) (hf : f ≠ 0) (h : XC b L o p K S) : rn (fX7_fail N f S) (fun r => r.1 = -1 ∧ XF b L o f (iN (tfr b L p)) r.2 ∧ FE o S r.2) := by
  obtain ⟨h1, h2, h3, h4, h5, h6, h7⟩ := h
  have so := (ru_ob ho).2.2
  have hp := h1.2.1
  have hL := h1.1.1
  unfold fX7_fail
  rw [if_pos h2]
  refine rn_u (fun U u => ?_)
  have u2 : U.1 2 3 = iN (tfr b L p) := by rw [u.2.1 2 (by decide)]; exact h1.2.2.1
  rw [u2]
  refine rn_u (fun W w => ?_)
  have e : ∀ a, a ≠ 1 → W.1 a = S.1 a := fun a ha => (w.2.1 a ha).trans (u.2.1 a ha)
  rw [rn_some]
  refine ⟨rfl, ⟨⟨p, h1.fr (e 2 (by decide)) (e 26 (by decide))⟩, ?_, hf, ?_, ?_, K.length, ?_, by omega⟩, ⟨fun a ha => e a (by omega), fun j hj => ?_, fun j _ => by rw [e 2 (by decide)], fun j _ => by rw [e o (by omega)], w.2.2.trans u.2.2⟩⟩
  · rw [w.1, upd_o (by decide), u.1, upd_at]
  · rw [w.1, upd_at]
  · rw [w.2.2, u.2.2]; exact h4
  · rw [e o (by omega)]; exact h5
  · rw [w.1, upd_o (by omega), u.1, upd_o (by omega)]
theorem XF.fail {f g pl : Int32} {S : PS} (h : XF b L o f pl S) : fX7_fail N g S = some (-1, S) := by
  unfold fX7_fail
  rw [if_neg (by rw [h.2.1]; exact h.2.2.1)]
theorem XC.add {p q : Nat} {K : List Int32} {x : Int32} {S : PS} (ho : isRu o) (h : XC b L o p K S) (hq : K.length + 1 ≤ q) (hqL : q ≤ L) : rn (fX8_add N o x S) (fun T => CTk b L p T ∧ T.1 1 3 = 0 ∧ T.1 1 4 = -1 ∧ T.2.2 1 2 = o ∧ T.1 o 2 = iN (K ++ [x]).length ∧ CDL (T.1 (sr o 0)) 0 (K ++ [x]) ∧ FE o S T) := by
  obtain ⟨h1, h2, h3, h4, h5, h6, h7⟩ := h
  obtain ⟨r1, r2, so⟩ := ru_ob ho
  have hL := h1.1.1
  unfold fX8_add
  have i7 : inr (iN K.length) 700 := inr_iN (by omega) (by omega)
  have x7 : ix (iN K.length) = K.length := ix_iN (by omega)
  rw [gd_t r1, gd_t r1, gd_t r2, h5, if_neg (by rw [show (700 : Int32) = iN 700 from rfl, iN_le (by omega) (by omega)]; omega), gd_t r1, gd_t r1, gd_t r2, gd_t i7, x7]
  refine rn_u (fun U u => ?_)
  have u2 : U.1 o 2 = iN K.length := by rw [u.2.1 o (by omega)]; exact h5
  rw [gd_t r1, gd_t r1, u2, iN_1]
  refine rn_u (fun W w => ?_)
  have e : ∀ a, a ≠ o → a ≠ sr o 0 → W.1 a = S.1 a := fun a ha hb => (w.2.1 a ha).trans (u.2.1 a hb)
  rw [rn_some]
  refine ⟨h1.fr (e 2 (by omega) (by omega)) (e 26 (by omega) (by omega)), ?_, ?_, ?_, ?_, ?_, ⟨fun a ha => e a (by omega) (by omega), fun j _ => by rw [e 1 (by omega) (by omega)], fun j _ => by rw [e 2 (by omega) (by omega)], fun j hj => ?_, w.2.2.trans u.2.2⟩⟩
  · rw [e 1 (by omega) (by omega)]; exact h2
  · rw [e 1 (by omega) (by omega)]; exact h3
  · rw [w.2.2, u.2.2]; exact h4
  · rw [w.1, upd_at, List.length_append]; rfl
  · rw [w.2.1 (sr o 0) (by omega), u.1]
    exact CDL_snoc h6
  · rw [w.1, upd_o hj, u.2.1 o (by omega)]
theorem XC.add' {p : Nat} {K : List Int32} {x : Int32} {S : PS} (ho : isRu o) (h : XC b L o p K S) (hq : K.length + 1 ≤ p) : rn (fX8_add N o x S) (fun T => XC b L o p (K ++ [x]) T ∧ FE o S T) :=
  rn_mono (h.add ho hq h.1.2.1) (fun T hT => ⟨⟨hT.1, hT.2.1, hT.2.2.1, hT.2.2.2.1, hT.2.2.2.2.1, hT.2.2.2.2.2.1, by rw [List.length_append]; exact hq⟩, hT.2.2.2.2.2.2⟩)
theorem XF.add {f pl x : Int32} {S : PS} (ho : isRu o) (h : XF b L o f pl S) : rn (fX8_add N o x S) (fun T => XF b L o f pl T ∧ FE o S T) := by
  obtain ⟨⟨q, h1⟩, h2, h3, h4, h5, k, h6, h7⟩ := h
  obtain ⟨r1, r2, so⟩ := ru_ob ho
  unfold fX8_add
  rw [gd_t r1, gd_t r1, gd_t r2, h6]
  by_cases e7 : k < 700
  · have i7 : inr (iN k) 700 := inr_iN (by omega) (by omega)
    rw [if_neg (by rw [show (700 : Int32) = iN 700 from rfl, iN_le (by omega) (by omega)]; omega), gd_t r1, gd_t r1, gd_t r2, gd_t i7]
    refine rn_u (fun U u => ?_)
    have u2 : U.1 o 2 = iN k := by rw [u.2.1 o (by omega)]; exact h6
    rw [gd_t r1, gd_t r1, u2, iN_1]
    refine rn_u (fun W w => ?_)
    have e : ∀ a, a ≠ o → a ≠ sr o 0 → W.1 a = S.1 a := fun a ha hb => (w.2.1 a ha).trans (u.2.1 a hb)
    rw [rn_some]
    refine ⟨⟨⟨q, h1.fr (e 2 (by omega) (by omega)) (e 26 (by omega) (by omega))⟩, ?_, h3, ?_, ?_, k + 1, ?_, by omega⟩, ⟨fun a ha => e a (by omega) (by omega), fun j _ => by rw [e 1 (by omega) (by omega)], fun j _ => by rw [e 2 (by omega) (by omega)], fun j hj => ?_, w.2.2.trans u.2.2⟩⟩
    · rw [e 1 (by omega) (by omega)]; exact h2
    · rw [e 1 (by omega) (by omega)]; exact h4
    · rw [w.2.2, u.2.2]; exact h5
    · rw [w.1, upd_at]
    · rw [w.1, upd_o hj, u.2.1 o (by omega)]
  · rw [if_pos (by rw [show (700 : Int32) = iN 700 from rfl, iN_le (by omega) (by omega)]; omega), rn_some]
    exact ⟨⟨⟨q, h1⟩, h2, h3, h4, h5, k, h6, h7⟩, FE.rfl⟩
end RUL
