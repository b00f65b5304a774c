/-! ===== phase 2: a rule's expression, all of it ===== -/
section EXP
variable {N : Nat} {b : Nat → Int32} {L : Nat} {p : Nat}
/-- what both find of an expression at p -/
def ExC (N : Nat) (b : Nat → Int32) (L p : Nat) (R : Res) : Prop := ∀ o, isRu o → ∀ S, XC b L o p [] S → rn (fRD N 60 0 0 S) (postC b L o [] S R)
/-- the model between lines: code X, no fault -/
def XM0 (b : Nat → Int32) (L p : Nat) (X : List Int32) (S : PS) : Prop := MTk b L p S ∧ S.1 80 8 = 0 ∧ S.1 80 9 = -1 ∧ S.1 80 22 = iN X.length ∧ CDL (S.1 87) 0 X
def exP (b : Nat → Int32) (L : Nat) (X : List Int32) : Res → PS → Prop
  | .inl q, T => XM0 b L q.1 (X ++ (mcL q.2 ++ [0])) T
  | .inr q, T => XMF b L q.1 q.2 1400 T
def ExM (N : Nat) (b : Nat → Int32) (L p : Nat) (R : Res) : Prop := ∀ X S, X.length + 2 ≤ 2 * p → XM0 b L p X S → rn (fX12_expression N S) (fun T => FXm S T ∧ exP b L X R T)
theorem XM.m0 {X P : List Int32} {d : Nat} {fl : Nat → Int32} {S : PS} (h : XM b L p X P d fl S) : XM0 b L p X S := ⟨h.1, h.2.1, h.2.2.1, h.2.2.2.1, h.2.2.2.2.1⟩
theorem XM0.good {X : List Int32} {S : PS} (h : XM0 b L p X S) : fX12_isGood N S = some (1, S) := by
  unfold fX12_isGood
  rw [if_pos h.2.1, lt_b]
  exact gd_t (Or.inr rfl)
theorem exp_both (hN : 30000 ≤ N) (hL : L ≤ 700) (hp : p ≤ L) : ∃ R, shp b L 1 0 p R ∧ ExC N b L p R ∧ ExM N b L p R := by
  obtain ⟨R, s1, k1, m1⟩ := (all_claims (N := N) (b := b) hN hL (L - p + 1) p hp (by omega) 0 (by omega)).1 1 (by omega) (by omega)
  refine ⟨R, s1, fun o ho S h => k1 o ho 60 [] S (by omega) h, fun X S hX h => ?_⟩
  have hg := h.good (N := N)
  obtain ⟨h1, h2, h3, h4, h5⟩ := h
  unfold fX12_expression
  rw [hg, bI_s, if_neg (by decide)]
  refine rn_u (fun U u => ?_)
  refine rn_u (fun V v => ?_)
  have ev : ∀ j, j ≠ 23 → j ≠ 24 → V.1 80 j = S.1 80 j := fun j a c => by rw [v.1, upd_o c, u.1, upd_o a]
  have ea : ∀ a, a ≠ 80 → V.1 a = S.1 a := fun a ha => (v.2.1 a ha).trans (u.2.1 a ha)
  have hV : XM b L p X [] 0 (fun _ => 0) V := by
    refine ⟨h1.fr (fun j hj => ev j (by omega) (by omega)) (ea 83 (by decide)) (by rw [v.2.2, u.2.2]), ?_, ?_, ?_, ?_, ?_, trivial, ?_, fun j a c => by omega⟩
    · rw [ev 8 (by omega) (by omega)]; exact h2
    · rw [ev 9 (by omega) (by omega)]; exact h3
    · rw [ev 22 (by omega) (by omega)]; exact h4
    · rw [ea 87 (by decide)]; exact h5
    · rw [v.1, upd_o (by decide), u.1, upd_at]; rfl
    · rw [v.1, upd_at]; rfl
  have FV : FXm S V := (FXm.u0 u (by omega)).tr (FXm.u0 v (by omega))
  rw [rn_bV]
  refine rn_mono (hV.deep (by omega)) (fun W hW => ?_)
  rw [rn_bV]
  have FW1 := FV.tr hW.2
  have key : rn (fX12_operand N 1 W) (fun Z => KXp N N (fun T => FXm S T ∧ exP b L X R T) Z) := by
    refine OP_op ?_
    have mm := m1 1 N 0 N (fun T => FXm S T ∧ exP b L X R T) X [] (upd (fun _ => 0) (0 + 1) 0) W (by omega) (by omega) hW.1 (by unfold BN; rw [List.length_nil]; omega) trivial (fun _ => upd_at) ?_
    · rw [if_pos (by omega)] at mm
      exact mm
    · cases R with
      | inr r =>
        intro T hT tf
        exact ⟨FW1.tr tf, hT⟩
      | inl r =>
        obtain ⟨a1, a2, a3, a4, a5⟩ := s1
        intro n' X' Q fl' T hn' hT eX hQ g1 g2 g3 hB tf
        obtain ⟨n1, rfl⟩ : ∃ n1, n' = n1 + 2 := ⟨n' - 2, by omega⟩
        rw [List.append_nil] at hT hB
        unfold BN at hB
        have no : noOp b L r.1 (0 + 1) fl' := by
          obtain ⟨z6, z5, z2, z1⟩ := a5
          have y6 := z6 (by omega)
          have y5 := z5 (by omega)
          have y2 := z2 (by omega)
          have y1 := z1 (by omega)
          by_cases e4 : (opL b L r.1).1 = 4
          · exact Or.inr ⟨e4, g3 (by omega) e4⟩
          · refine Or.inl ?_
            rcases op_all (b := b) (L := L) (p := r.1) with r | r | r | r | r | r | r | r | r <;> rw [r] at y6 y5 y2 y1 e4 ⊢ <;> first | rfl | exact absurd rfl y6 | exact absurd rfl y5 | exact absurd rfl y2 | exact absurd rfl y1 | exact absurd rfl e4
        have nO : ¬ hasO Q := by
          have : ∀ R : List Int32, (∀ x, x ∈ R → x < 14 ∧ ¬ stS x < iN 1) → ¬ hasO R := by
            intro R
            induction R with
            | nil => intro _ g; exact g
            | cons x R ih =>
              intro hR g
              rcases g with g | g
              · exact g (hR x (List.mem_cons_self ..)).1
              · exact ih (fun y hy => hR y (List.mem_cons_of_mem _ hy)) g
          exact this Q hQ
        refine K_exit hN (by omega) (by omega) no (fun g => nO g.2) (by omega) hT ?_
        refine R_top hN rfl (fun x hx => ?_) (by omega) (by omega) hT (fun U hU fU => ?_)
        · have := hQ x hx
          refine ⟨this.1, fun g => this.2 ?_⟩
          rw [lt_ti, iN_ti (by omega)]
          rw [lt_ti, z_ti] at g
          omega
        · refine ⟨(FW1.tr tf).tr fU, ?_⟩
          have := hU.m0
          rw [eX, List.append_assoc] at this
          exact this
  refine rn_mono key (fun Z hZ => ?_)
  unfold KXp restX at hZ
  rw [rn_bT]
  exact rn_mono hZ (fun q hq => hq)
end EXP
