/-! ===== phase 2: rules: the model's code and pile ===== -/
def FXm (S T : PS) : Prop := (∀ a, ¬ (a = 80 ∨ a = 87 ∨ a = 88 ∨ a = 89) → T.1 a = S.1 a) ∧ (∀ j, ¬ (j = 8 ∨ j = 9 ∨ (12 ≤ j ∧ j ≤ 17) ∨ (22 ≤ j ∧ j ≤ 24)) → T.1 80 j = S.1 80 j) ∧ (∀ a k, ¬ (a = 80 ∧ k = 18) → T.2.1 a k = S.2.1 a k) ∧ T.2.2 = S.2.2
theorem FXm.rfl {S : PS} : FXm S S := ⟨fun _ _ => Eq.refl _, fun _ _ => Eq.refl _, fun _ _ _ => Eq.refl _, Eq.refl _⟩
theorem FXm.tr {S T U : PS} (h : FXm S T) (h' : FXm T U) : FXm S U := ⟨fun a ha => (h'.1 a ha).trans (h.1 a ha), fun j hj => (h'.2.1 j hj).trans (h.2.1 j hj), fun a k hk => (h'.2.2.1 a k hk).trans (h.2.2.1 a k hk), h'.2.2.2.trans h.2.2.2⟩
theorem FXm.fw {S T : PS} (h : FW S T) : FXm S T := ⟨fun a ha => h.1 a (by omega), fun j hj => h.2.1 j (by omega), h.2.2.1, h.2.2.2⟩
theorem FXm.u0 {k : Nat} {S T : PS} {x : Int32} (u : UR S T 80 (upd (S.1 80) k x)) (hk : k = 8 ∨ k = 9 ∨ (22 ≤ k ∧ k ≤ 24)) : FXm S T :=
  ⟨fun a ha => u.2.1 a (by omega), fun j hj => by rw [u.1, upd_o (by omega)], fun a j _ => by rw [u.2.2], by rw [u.2.2]⟩
theorem FXm.ua {a : Nat} {S T : PS} {r : Nat → Int32} (u : UR S T a r) (ha : a = 87 ∨ a = 88 ∨ a = 89) : FXm S T :=
  ⟨fun c hc => u.2.1 c (by omega), fun j hj => by rw [u.2.1 80 (by omega)], fun c j _ => by rw [u.2.2], by rw [u.2.2]⟩
theorem MTk.fr {b : Nat → Int32} {L p : Nat} {S T : PS} (h : MTk b L p S) (e : ∀ j, j = 11 ∨ (12 ≤ j ∧ j ≤ 17) → T.1 80 j = S.1 80 j) (e83 : T.1 83 = S.1 83) (el : T.2.1 80 18 = S.2.1 80 18) : MTk b L p T := by
  unfold MTk MTB
  rw [e 11 (by omega), e 12 (by omega), e 13 (by omega), e 14 (by omega), e 15 (by omega), e 16 (by omega), e 17 (by omega), e83, el]
  exact h
def stS (x : Int32) : Int32 := if x = 5 then 1 else (if x = 4 then 2 else (if x = 3 then 3 else (if x = 6 then 4 else (if x = 7 then 4 else (if x = 8 then 5 else (if x = 9 then 5 else 6))))))
section PIL
variable {N : Nat} {b : Nat → Int32} {L : Nat}
def XM (b : Nat → Int32) (L p : Nat) (X P : List Int32) (d : Nat) (fl : Nat → Int32) (S : PS) : Prop :=
  MTk b L p S ∧ S.1 80 8 = 0 ∧ S.1 80 9 = -1 ∧ S.1 80 22 = iN X.length ∧ CDL (S.1 87) 0 X ∧ S.1 80 23 = iN P.length ∧ SK (S.1 88) P ∧ S.1 80 24 = iN d ∧ ∀ j, 1 ≤ j → j ≤ d → S.1 89 j = fl j
def BN (p : Nat) (X P : List Int32) : Prop := X.length + 2 * P.length + 2 ≤ 2 * p
def XMF (b : Nat → Int32) (L : Nat) (f pl : Int32) (z : Nat) (S : PS) : Prop := (∃ q, MTk b L q S) ∧ S.1 80 8 = f ∧ f ≠ 0 ∧ S.1 80 9 = pl ∧ ∃ m k, S.1 80 22 = iN m ∧ S.1 80 23 = iN k ∧ m + k ≤ z ∧ k ≤ 900
theorem XM.good {p : Nat} {X P : List Int32} {d : Nat} {fl : Nat → Int32} {S : PS} (h : XM b L p X P d fl S) : fX12_isGood N S = some (1, S) := by
  unfold fX12_isGood
  rw [if_pos h.2.1, lt_b]
  exact gd_t (Or.inr rfl)
theorem XMF.bad {f pl : Int32} {z : Nat} {S : PS} (h : XMF b L f pl z S) : fX12_isGood N S = some (0, S) := by
  unfold fX12_isGood
  rw [if_neg (by rw [h.2.1]; exact h.2.2.1), lt_b]
  exact gd_t (Or.inl rfl)
theorem XMF.mono {f pl : Int32} {z y : Nat} {S : PS} (h : XMF b L f pl z S) (hy : z ≤ y) : XMF b L f pl y S := by
  obtain ⟨h1, h2, h3, h4, m, k, h5, h6, h7, h8⟩ := h
  exact ⟨h1, h2, h3, h4, m, k, h5, h6, by omega, h8⟩
theorem XM.go {p : Nat} {X P : List Int32} {d : Nat} {fl : Nat → Int32} {S : PS} (hN : 30000 ≤ N) (h : XM b L p X P d fl S) : rn (fX12_goes N S) (fun T => XM b L (tto b L p) X P d fl T ∧ FXm S T) := by
  obtain ⟨h1, h2, h3, h4, h5, h6, h7, h8, h9⟩ := h
  refine rn_mono (M_goN hN h1) (fun T hT => ⟨⟨hT.1, ?_, ?_, ?_, ?_, ?_, ?_, ?_, ?_⟩, FXm.fw hT.2⟩)
  · rw [hT.2.2.1 8 (by omega)]; exact h2
  · rw [hT.2.2.1 9 (by omega)]; exact h3
  · rw [hT.2.2.1 22 (by omega)]; exact h4
  · rw [hT.2.1 87 (by decide)]; exact h5
  · rw [hT.2.2.1 23 (by omega)]; exact h6
  · rw [hT.2.1 88 (by decide)]; exact h7
  · rw [hT.2.2.1 24 (by omega)]; exact h8
  · rw [hT.2.1 89 (by decide)]; exact h9
theorem XM.wrong {p : Nat} {X P : List Int32} {d : Nat} {fl : Nat → Int32} {f : Int32} {S : PS} (hf : f ≠ 0) (hP : P.length ≤ 900) (h : XM b L p X P d fl S) : rn (fX12_wrong N f S) (fun T => XMF b L f (iN (tfr b L p)) (X.length + P.length) T ∧ FXm S T) := by
  obtain ⟨h1, h2, h3, h4, h5, h6, h7, h8, h9⟩ := h
  unfold fX12_wrong
  rw [if_pos h2]
  refine rn_u (fun U u => ?_)
  have u14 : U.1 80 14 = iN (tfr b L p) := by rw [u.1, upd_o (by decide)]; exact h1.2.2.1
  rw [u14]
  refine rn_u (fun W w => ?_)
  have e : ∀ j, j ≠ 8 → j ≠ 9 → W.1 80 j = S.1 80 j := fun j h8 h9 => by rw [w.1, upd_o h9, u.1, upd_o h8]
  rw [rn_some]
  refine ⟨⟨⟨p, h1.fr (fun j hj => e j (by omega) (by omega)) (by rw [w.2.1 83 (by decide), u.2.1 83 (by decide)]) (by rw [w.2.2, u.2.2])⟩, ?_, hf, ?_, X.length, P.length, ?_, ?_, Nat.le_refl _, hP⟩, (FXm.u0 u (by omega)).tr (FXm.u0 w (by omega))⟩
  · rw [w.1, upd_o (by decide), u.1, upd_at]
  · rw [w.1, upd_at]
  · rw [e 22 (by omega) (by omega)]; exact h4
  · rw [e 23 (by omega) (by omega)]; exact h6
theorem XMF.wrong {f g pl : Int32} {z : Nat} {S : PS} (h : XMF b L f pl z S) : fX12_wrong N g S = some S := by
  unfold fX12_wrong
  rw [if_neg (by rw [h.2.1]; exact h.2.2.1)]
theorem XM.puts {p : Nat} {X P : List Int32} {d : Nat} {fl : Nat → Int32} {x : Int32} {S : PS} (hX : X.length < 1400) (h : XM b L p X P d fl S) : rn (fX12_puts N x S) (fun T => XM b L p (X ++ [x]) P d fl T ∧ FXm S T) := by
  obtain ⟨h1, h2, h3, h4, h5, h6, h7, h8, h9⟩ := h
  unfold fX12_puts
  rw [h4, gd_t (inr_iN hX (by omega)), ix_iN (by omega)]
  refine rn_u (fun U u => ?_)
  have u22 : U.1 80 22 = iN X.length := by rw [u.2.1 80 (by decide)]; exact h4
  rw [u22, iN_1]
  refine rn_u (fun W w => ?_)
  have e : ∀ j, j ≠ 22 → W.1 80 j = S.1 80 j := fun j hj => by rw [w.1, upd_o hj, u.2.1 80 (by decide)]
  have ea : ∀ a, a ≠ 80 → a ≠ 87 → W.1 a = S.1 a := fun a h1 h2 => (w.2.1 a h1).trans (u.2.1 a h2)
  rw [rn_some]
  refine ⟨⟨h1.fr (fun j hj => e j (by omega)) (ea 83 (by decide) (by decide)) (by rw [w.2.2, u.2.2]), ?_, ?_, ?_, ?_, ?_, ?_, ?_, ?_⟩, (FXm.ua u (by omega)).tr (FXm.u0 w (by omega))⟩
  · rw [e 8 (by omega)]; exact h2
  · rw [e 9 (by omega)]; exact h3
  · rw [w.1, upd_at, List.length_append]; rfl
  · rw [w.2.1 87 (by decide), u.1]; exact CDL_snoc h5
  · rw [e 23 (by omega)]; exact h6
  · rw [ea 88 (by decide) (by decide)]; exact h7
  · rw [e 24 (by omega)]; exact h8
  · rw [ea 89 (by decide) (by decide)]; exact h9
theorem XMF.puts {f pl x : Int32} {z : Nat} {S : PS} (hz : z < 1400) (h : XMF b L f pl z S) : rn (fX12_puts N x S) (fun T => XMF b L f pl (z + 1) T ∧ T.1 80 23 = S.1 80 23 ∧ FXm S T) := by
  obtain ⟨⟨q, h1⟩, h2, h3, h4, m, k, h5, h6, h7, hk9⟩ := h
  unfold fX12_puts
  rw [h5, gd_t (inr_iN (by omega) (by omega))]
  refine rn_u (fun U u => ?_)
  have u22 : U.1 80 22 = iN m := by rw [u.2.1 80 (by decide)]; exact h5
  rw [u22, iN_1]
  refine rn_u (fun W w => ?_)
  have e : ∀ j, j ≠ 22 → W.1 80 j = S.1 80 j := fun j hj => by rw [w.1, upd_o hj, u.2.1 80 (by decide)]
  rw [rn_some]
  refine ⟨⟨⟨q, h1.fr (fun j hj => e j (by omega)) (by rw [w.2.1 83 (by decide), u.2.1 83 (by decide)]) (by rw [w.2.2, u.2.2])⟩, ?_, h3, ?_, m + 1, k, ?_, ?_, by omega, hk9⟩, e 23 (by omega), (FXm.ua u (by omega)).tr (FXm.u0 w (by omega))⟩
  · rw [e 8 (by omega)]; exact h2
  · rw [e 9 (by omega)]; exact h4
  · rw [w.1, upd_at]
  · rw [e 23 (by omega)]; exact h6
theorem XM.wait {p : Nat} {X P : List Int32} {d : Nat} {fl : Nat → Int32} {x : Int32} {S : PS} (hP : P.length < 950) (h : XM b L p X P d fl S) : rn (fX12_waitsFor N x S) (fun T => XM b L p X (x :: P) d fl T ∧ FXm S T) := by
  obtain ⟨h1, h2, h3, h4, h5, h6, h7, h8, h9⟩ := h
  unfold fX12_waitsFor
  rw [h6, gd_t (inr_iN hP (by omega)), ix_iN (by omega)]
  refine rn_u (fun U u => ?_)
  have u23 : U.1 80 23 = iN P.length := by rw [u.2.1 80 (by decide)]; exact h6
  rw [u23, iN_1]
  refine rn_u (fun W w => ?_)
  have e : ∀ j, j ≠ 23 → W.1 80 j = S.1 80 j := fun j hj => by rw [w.1, upd_o hj, u.2.1 80 (by decide)]
  have ea : ∀ a, a ≠ 80 → a ≠ 88 → W.1 a = S.1 a := fun a h1 h2 => (w.2.1 a h1).trans (u.2.1 a h2)
  rw [rn_some]
  refine ⟨⟨h1.fr (fun j hj => e j (by omega)) (ea 83 (by decide) (by decide)) (by rw [w.2.2, u.2.2]), ?_, ?_, ?_, ?_, ?_, ?_, ?_, ?_⟩, (FXm.ua u (by omega)).tr (FXm.u0 w (by omega))⟩
  · rw [e 8 (by omega)]; exact h2
  · rw [e 9 (by omega)]; exact h3
  · rw [e 22 (by omega)]; exact h4
  · rw [ea 87 (by decide) (by decide)]; exact h5
  · rw [w.1, upd_at, List.length_cons]
  · rw [w.2.1 88 (by decide), u.1]
    exact ⟨upd_at, SK.u h7 (Nat.le_refl _)⟩
  · rw [e 24 (by omega)]; exact h8
  · rw [ea 89 (by decide) (by decide)]; exact h9
/-- the top of a pile stays when those of strength v on are dropped -/
def stay (v : Int32) : List Int32 → Prop
  | [] => True
  | x :: _ => ¬ x < 14 ∨ stS x < v
theorem M_open {x : Int32} {S : PS} : fX12_isOpen N x S = some ((if x < 14 then 0 else 1), S) := by
  unfold fX12_isOpen
  rw [lt_b]
  refine gd_t ?_
  by_cases h : x < 14
  · rw [if_pos h]; exact Or.inl rfl
  · rw [if_neg h]; exact Or.inr rfl
theorem M_stre {x : Int32} {S : PS} : fX12_strength N x S = some (stS x, S) := rfl
theorem M_drops {p : Nat} {P : List Int32} {d : Nat} {fl : Nat → Int32} {v : Int32} (hst : stay v P) : ∀ (Q X : List Int32) (n : Nat) (S : PS), (∀ x, x ∈ Q → x < 14 ∧ ¬ stS x < v) → X.length + Q.length ≤ 1400 → (Q ++ P).length ≤ 950 → XM b L p X (Q ++ P) d fl S → Q.length < n → rn (fX12_drops_0 N v n S) (fun T => XM b L p (X ++ Q) P d fl T ∧ FXm S T)
  | Q, X, 0, S, _, _, _, _, hn => by omega
  | [], X, n + 1, S, hQ, hX, hP, h, hn => by
    have h' := h
    obtain ⟨h1, h2, h3, h4, h5, h6, h7, h8, h9⟩ := h'
    rw [fX12_drops_0]
    rw [List.append_nil]
    rw [List.nil_append] at h6 h7 hP h
    cases P with
    | nil =>
      rw [h6, if_pos (show iN ([] : List Int32).length ≤ 0 from Int32.le_refl _), rn_some]
      exact ⟨h, FXm.rfl⟩
    | cons x P =>
      rw [List.length_cons] at h6 hP
      rw [h6, if_neg (by rw [show (0 : Int32) = iN 0 from rfl, iN_le (by omega) (by omega)]; omega), iN_s1, gd_t (inr_iN (by omega) (by omega)), ix_iN (by omega), h7.1, M_open, bI_s]
      by_cases ex : x < 14
      · rw [if_pos ex, if_pos rfl, h6, iN_s1, gd_t (inr_iN (by omega) (by omega)), ix_iN (by omega), h7.1, M_stre, bI_s]
        rcases hst with g | g
        · exact absurd ex g
        · rw [if_pos g, rn_some]
          exact ⟨h, FXm.rfl⟩
      · rw [if_neg ex, if_neg (by decide), rn_some]
        exact ⟨h, FXm.rfl⟩
  | x :: Q, X, n + 1, S, hQ, hX, hP, h, hn => by
    have h' := h
    obtain ⟨h1, h2, h3, h4, h5, h6, h7, h8, h9⟩ := h'
    have hx := hQ x (List.mem_cons_self ..)
    rw [List.cons_append, List.length_cons] at h6 hP
    rw [List.length_cons] at hX hn
    have h7a : S.1 88 (Q ++ P).length = x := h7.1
    have h7b : SK (S.1 88) (Q ++ P) := h7.2
    rw [fX12_drops_0, h6, if_neg (by rw [show (0 : Int32) = iN 0 from rfl, iN_le (by omega) (by omega)]; omega), iN_s1, gd_t (inr_iN (by omega) (by omega)), ix_iN (by omega), h7a, M_open, bI_s, if_pos hx.1, if_pos rfl, h6, iN_s1, gd_t (inr_iN (by omega) (by omega)), ix_iN (by omega), h7a, M_stre, bI_s, if_neg hx.2, h6, iN_s1]
    refine rn_u (fun U u => ?_)
    have u23 : U.1 80 23 = iN (Q ++ P).length := by rw [u.1, upd_at]
    have e : ∀ j, j ≠ 23 → U.1 80 j = S.1 80 j := fun j hj => by rw [u.1, upd_o hj]
    have hU : XM b L p X (Q ++ P) d fl U := by
      refine ⟨h1.fr (fun j hj => e j (by omega)) (u.2.1 83 (by decide)) (by rw [u.2.2]), ?_, ?_, ?_, ?_, u23, ?_, ?_, ?_⟩
      · rw [e 8 (by omega)]; exact h2
      · rw [e 9 (by omega)]; exact h3
      · rw [e 22 (by omega)]; exact h4
      · rw [u.2.1 87 (by decide)]; exact h5
      · rw [u.2.1 88 (by decide)]; exact h7b
      · rw [e 24 (by omega)]; exact h8
      · rw [u.2.1 89 (by decide)]; exact h9
    have u88 : U.1 88 (Q ++ P).length = x := by rw [u.2.1 88 (by decide)]; exact h7a
    rw [u23, gd_t (inr_iN (by omega) (by omega)), ix_iN (by omega), u88, rn_bV]
    refine rn_mono (hU.puts (by omega)) (fun W hW => ?_)
    have ih := M_drops (p := p) (d := d) (fl := fl) hst Q (X ++ [x]) n W (fun y hy => hQ y (List.mem_cons_of_mem _ hy)) (by rw [List.length_append, List.length_singleton]; omega) (by omega) hW.1 (by omega)
    refine rn_mono ih (fun T hT => ⟨?_, ((FXm.u0 u (by omega)).tr hW.2).tr hT.2⟩)
    have ea : X ++ x :: Q = X ++ [x] ++ Q := by simp
    rw [ea]
    exact hT.1
theorem XMF.drops {f pl v : Int32} {z : Nat} (hz : z < 1400) : ∀ (n k : Nat) (S : PS), XMF b L f pl z S → S.1 80 23 = iN k → k ≤ 900 → k < n → rn (fX12_drops_0 N v n S) (fun T => XMF b L f pl z T ∧ FXm S T)
  | 0, k, S, _, _, _, hn => by omega
  | n + 1, k, S, h, h23, hk, hn => by
    have h' := h
    obtain ⟨⟨q, h1⟩, h2, h3, h4, m, k', h5, h6, h7, hk9⟩ := h'
    rw [fX12_drops_0, h23]
    cases k with
    | zero =>
      rw [if_pos (show iN 0 ≤ 0 from Int32.le_refl _), rn_some]
      exact ⟨h, FXm.rfl⟩
    | succ k =>
      rw [if_neg (by rw [show (0 : Int32) = iN 0 from rfl, iN_le (by omega) (by omega)]; omega), iN_s1, gd_t (inr_iN (by omega) (by omega)), ix_iN (by omega), M_open, bI_s]
      by_cases ex : S.1 88 k < 14
      · rw [if_pos ex, if_pos rfl, h23, iN_s1, gd_t (inr_iN (by omega) (by omega)), ix_iN (by omega), M_stre, bI_s]
        by_cases es : stS (S.1 88 k) < v
        · rw [if_pos es, rn_some]
          exact ⟨h, FXm.rfl⟩
        · rw [if_neg es, h23, iN_s1]
          refine rn_u (fun U u => ?_)
          have u23 : U.1 80 23 = iN k := by rw [u.1, upd_at]
          have e : ∀ j, j ≠ 23 → U.1 80 j = S.1 80 j := fun j hj => by rw [u.1, upd_o hj]
          have ek : k' = k + 1 := by
            have := h6.symm.trans h23
            rw [iN_eq (by omega) (by omega)] at this
            exact this
          have hU : XMF b L f pl (z - 1) U := by
            refine ⟨⟨q, h1.fr (fun j hj => e j (by omega)) (u.2.1 83 (by decide)) (by rw [u.2.2])⟩, ?_, h3, ?_, m, k, ?_, u23, by omega, by omega⟩
            · rw [e 8 (by omega)]; exact h2
            · rw [e 9 (by omega)]; exact h4
            · rw [e 22 (by omega)]; exact h5
          rw [u23, gd_t (inr_iN (by omega) (by omega)), rn_bV]
          refine rn_mono (hU.puts (by omega)) (fun W hW => ?_)
          have w23 : W.1 80 23 = iN k := hW.2.1.trans u23
          exact rn_mono (XMF.drops hz n k W (hW.1.mono (by omega)) w23 (by omega) (by omega)) (fun T hT => ⟨hT.1, ((FXm.u0 u (by omega)).tr hW.2.2).tr hT.2⟩)
      · rw [if_neg ex, if_neg (by decide), rn_some]
        exact ⟨h, FXm.rfl⟩
end PIL
