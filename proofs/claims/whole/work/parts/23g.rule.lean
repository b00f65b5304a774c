/-! ===== phase 2: the line of a rule ===== -/
def rsR (b : Nat → Int32) (L : Nat) : Res → Res
  | .inl q => if sgP b L q.1 59 then .inl (tto b L q.1, q.2) else .inr (1, iN (tfr b L q.1))
  | .inr q => .inr q
section RLL
variable {N : Nat} {b : Nat → Int32} {L : Nat} {p c r : Nat} {V : Cv} {A : Rw} {X : List Int32} {S : PS}
/-- what the class has behind a rule's line -/
def ruP (b : Nat → Int32) (L r : Nat) (S : PS) : Res → PS → Prop
  | .inl q, T => TC b L q.1 T ∧ T.1 r 3 = 1 ∧ T.1 r 2 = iN q.2.length ∧ CDL (T.1 (sr r 0)) 0 q.2
  | .inr q, T => TF q.1 q.2 T
theorem C_ruleX {R : Res} (hN : 30000 ≤ N) (hr : isRu r) (h : TC b L p S) (k1 : tkd b L p = 1) (h3 : S.1 r 3 = 0) (h2 : S.1 r 2 = 0) (hR : ExC N b L (tto b L p) R) :
    rn (fX7_readRule N r S) (fun T => (∀ a, ¬ (a = 1 ∨ a = 2 ∨ a = r ∨ a = sr r 0) → T.1 a = S.1 a) ∧ T.2.1 = S.2.1 ∧ (∀ a k, ¬ (a = 1 ∧ k = 2) → T.2.2 a k = S.2.2 a k) ∧ ruP b L r S (rsR b L R) T) := by
  obtain ⟨ob, -, so⟩ := ru_ob hr
  unfold fX7_readRule
  rw [gd_t ob, if_pos h3]
  refine rn_l (fun S1 e1 => ?_)
  have r1 : S1.2.2 1 2 = r := by rw [e1]; simp [u2R]
  have f1 : S1.1 = S.1 := by rw [e1]
  have l1 : S1.2.1 = S.2.1 := by rw [e1]
  have g1 : ∀ a k, ¬ (a = 1 ∧ k = 2) → S1.2.2 a k = S.2.2 a k := fun a k hk => by
    rw [e1]
    show u2R S.2.2 1 2 r a k = _
    unfold u2R
    by_cases ea : a = 1
    · rw [if_pos ea, if_neg (by omega)]
    · rw [if_neg ea]
  clear e1
  rw [r1, lt_b, gd_t ob]
  refine rn_u (fun S2 u2 => ?_)
  have e2 : ∀ a, a ≠ r → S2.1 a = S.1 a := fun a ha => (u2.2.1 a ha).trans (by rw [f1])
  have t2 : TC b L p S2 := ⟨h.1.fr (e2 2 (by omega)) (e2 26 (by omega)), by rw [e2 1 (by omega)]; exact h.2.1, by rw [e2 1 (by omega)]; exact h.2.2⟩
  have s23 : S2.1 r 3 = 1 := by rw [u2.1, upd_at]
  have s22 : S2.1 r 2 = 0 := by rw [u2.1, upd_o (by decide), f1]; exact h2
  rw [rn_bV]
  refine rn_mono (t2.take hN) (fun S3 h3' => ?_)
  have x3 : XC b L r (tto b L p) [] S3 := ⟨h3'.1.1, h3'.1.2.1, h3'.1.2.2, by rw [h3'.2.2, u2.2.2]; exact r1, by rw [h3'.2.1 r (by omega) (by omega), s22]; rfl, by rw [CDL]; trivial, Nat.zero_le _⟩
  have s33 : S3.1 r 3 = 1 := by rw [h3'.2.1 r (by omega) (by omega)]; exact s23
  have fr3 : (∀ a, ¬ (a = 1 ∨ a = 2 ∨ a = r ∨ a = sr r 0) → S3.1 a = S.1 a) ∧ S3.2.1 = S.2.1 ∧ (∀ a k, ¬ (a = 1 ∧ k = 2) → S3.2.2 a k = S.2.2 a k) := ⟨fun a ha => (h3'.2.1 a (by omega) (by omega)).trans (e2 a (by omega)), by rw [h3'.2.2, u2.2.2]; exact l1, fun a k hk => by rw [h3'.2.2, u2.2.2]; exact g1 a k hk⟩
  have frT : ∀ T, FE r S3 T → (∀ a, ¬ (a = 1 ∨ a = 2 ∨ a = r ∨ a = sr r 0) → T.1 a = S.1 a) ∧ T.2.1 = S.2.1 ∧ (∀ a k, ¬ (a = 1 ∧ k = 2) → T.2.2 a k = S.2.2 a k) := fun T hT => ⟨fun a ha => (hT.1 a ha).trans (fr3.1 a ha), by rw [hT.2.2.2.2]; exact fr3.2.1, fun a k hk => by rw [hT.2.2.2.2]; exact fr3.2.2 a k hk⟩
  rw [rn_bV]
  refine rn_mono (hR r hr S3 x3) (fun S4 h4 => ?_)
  rw [rn_bV]
  cases R with
  | inr q =>
    rw [h4.1.sign, rn_some, rn_some]
    obtain ⟨f1', f2', f3'⟩ := frT S4 h4.2
    exact ⟨f1', f2', f3', h4.1.2.1, h4.1.2.2.1, h4.1.2.2.2.1⟩
  | inl q =>
    refine rn_mono (h4.1.sign hN hr (by decide)) (fun T hT => ?_)
    rw [rn_some]
    obtain ⟨f1', f2', f3'⟩ := frT T (h4.2.tr hT.1)
    refine ⟨f1', f2', f3', ?_⟩
    show ruP b L r S (if sgP b L q.1 59 then .inl (tto b L q.1, q.2) else .inr (1, iN (tfr b L q.1))) T
    by_cases e : sgP b L q.1 59
    · rw [if_pos e]
      have x5 := hT.2.1 e
      refine ⟨⟨x5.1, x5.2.1, x5.2.2.1⟩, ?_, x5.2.2.2.2.1, x5.2.2.2.2.2.1⟩
      rw [hT.1.2.2.2.1 3 (by decide), h4.2.2.2.2.1 3 (by decide)]
      exact s33
    · rw [if_neg e]
      have x5 := hT.2.2 e
      exact ⟨x5.2.1, x5.2.2.1, x5.2.2.2.1⟩
theorem mcL_len : ∀ C : List Int32, (mcL C).length ≤ 2 * C.length
  | [] => by rw [mcL]; exact Nat.le_refl _
  | x :: C => by
    have := mcL_len C
    rw [mcL, List.length_append, List.length_cons]
    have : (if x ≤ -7 then [mo x] else if x < 0 then [2, mv x] else [1, x]).length ≤ 2 := by
      split
      · exact Nat.le_succ _
      · split <;> exact Nat.le_refl _
    omega
/-- what the model has behind a rule's line, begun at X.length -/
def rmP (b : Nat → Int32) (L : Nat) (X : List Int32) (S : PS) : Res → PS → Prop
  | .inl q, T => MT0 b L q.1 T ∧ T.1 80 22 = iN (X ++ (mcL q.2 ++ [0])).length ∧ CDL (T.1 87) 0 (X ++ (mcL q.2 ++ [0]))
  | .inr q, T => MF0 b L q.1 q.2 T
theorem XMF.m0 {f pl : Int32} {z : Nat} (h : XMF b L f pl z S) : MF0 b L f pl S := ⟨h.1, h.2.1, h.2.2.1, h.2.2.2.1⟩
theorem M_ruleX {R : Res} (hN : 30000 ≤ N) (h : MT0 b L p S) (h22 : S.1 80 22 = iN X.length) (h87 : CDL (S.1 87) 0 X) (hX : X.length + 2 ≤ 2 * p) (hR : ExM N b L p R) :
    rn (bV (fX12_expression N S) fun S53 => bI (fX12_isSign N 59 S53) fun x55 S56 => bV (fX12_need N x55 S56) fun S59 => some S59) (fun T => FXm S T ∧ rmP b L X S (rsR b L R) T) := by
  rw [rn_bV]
  refine rn_mono (hR X S hX ⟨h.1, h.2.1, h.2.2, h22, h87⟩) (fun U hU => ?_)
  have fx : ∀ T, F89 U T → FXm U T := fun T hT => ⟨fun a ha => hT.1 a (by omega), fun j hj => hT.2.1 j (by omega), hT.2.2.1, hT.2.2.2⟩
  cases R with
  | inr q =>
    have z : MF0 b L q.1 q.2 U := XMF.m0 hU.2
    exact rn_mono z.need (fun T hT => ⟨by rw [hT]; exact hU.1, by rw [hT]; exact z⟩)
  | inl q =>
    have x := hU.2
    have t : MT0 b L q.1 U := ⟨x.1, x.2.1, x.2.2.1⟩
    refine rn_mono (t.need hN) (fun T hT => ⟨hU.1.tr (fx T hT.1), ?_⟩)
    show rmP b L X S (if sgP b L q.1 59 then .inl (tto b L q.1, q.2) else .inr (1, iN (tfr b L q.1))) T
    by_cases e : sgP b L q.1 59
    · rw [if_pos e]
      refine ⟨hT.2.1 e, ?_, ?_⟩
      · rw [hT.1.2.1 22 (by omega)]; exact x.2.2.2.1
      · rw [hT.1.1 87 (by decide)]; exact x.2.2.2.2
    · rw [if_neg e]
      exact hT.2.2 e
theorem RMx.more {lk : Option (List Int32)} {v : Int32} {Y : List Int32} (h : RMx lk v X) : RMx lk v (X ++ Y) := by
  cases lk with
  | none => exact h
  | some L =>
    obtain ⟨⟨X1, X2, e, g⟩, h2⟩ := h
    refine ⟨⟨X1, X2 ++ Y, ?_, g⟩, h2⟩
    rw [e]
    simp
theorem ok_of {C : List Int32} (h : okH (Hh 1 0) C) : okc C 0 := by
  have := h [] 0 (by decide) (show okc [] 1 from rfl)
  rw [List.append_nil] at this
  exact this
end RLL
