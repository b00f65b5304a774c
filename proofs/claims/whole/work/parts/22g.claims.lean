/-! ===== phase 2: rules: what is to be shown of both readers ===== -/
abbrev Res : Type := (Nat × List Int32) ⊕ (Int32 × Int32)
def hLv (l : Nat) : Nat := if l = 1 then 5 else if l = 2 then 4 else if l = 3 then 3 else if l = 4 then 3 else if l = 5 then 2 else if l = 6 then 1 else 0
def Hh (l w : Nat) : Nat := 1 + 5 * (5 - w) + hLv l
/-- a code that lays one more value -/
def okH (h : Nat) (C : List Int32) : Prop := ∀ r s, s + h ≤ 40 → okc r (s + 1) → okc (C ++ r) s
/-- a code that keeps one value -/
def okL (h : Nat) (C : List Int32) : Prop := ∀ r s, s + h ≤ 40 → okc r (s + 1) → okc (C ++ r) (s + 1)
theorem okH.mono {h g : Nat} {C : List Int32} (hc : okH h C) (hg : h ≤ g) : okH g C := fun r s a c => hc r s (by omega) c
theorem okL_0 {h : Nat} : okL h [] := fun r s _ c => c
theorem okH_1 {x : Int32} (hx : ¬ x ≤ -7) : okH 1 [x] := by
  intro r s a c
  show okc (x :: r) s
  rw [okc, if_neg hx]
  exact ⟨by omega, c⟩
theorem okH_L {h : Nat} {C D : List Int32} (h1 : okH h C) (h2 : okL h D) : okH h (C ++ D) := by
  intro r s a c
  rw [List.append_assoc]
  exact h1 _ s a (h2 r s a c)
theorem okL_op {h : Nat} {C D : List Int32} {c : Int32} (hc : c ≤ -7) (h7 : c ≠ -7) (h15 : -15 ≤ c) (h1 : okH h C) (h2 : okL (h + 1) D) : okL (h + 1) (C ++ c :: D) := by
  intro r s a e
  rw [List.append_assoc]
  refine h1 _ (s + 1) (by omega) ?_
  show okc (c :: (D ++ r)) (s + 2)
  rw [okc, if_pos hc, if_neg h7]
  exact ⟨h15, by omega, h2 r s a e⟩
theorem okL_not {h : Nat} : ∀ k, okL h (List.replicate k (-7))
  | 0 => okL_0
  | k + 1 => by
    intro r s a c
    rw [List.replicate_succ]
    show okc ((-7) :: (List.replicate k (-7) ++ r)) (s + 1)
    rw [okc, if_pos (by decide), if_pos rfl]
    exact ⟨by omega, okL_not k r s a c⟩
def NTq (b : Nat → Int32) (L l p : Nat) : Prop := (l ≤ 6 → (opL b L p).1 ≠ 6) ∧ (l ≤ 5 → (opL b L p).1 ≠ 5) ∧ (l ≤ 2 → (opL b L p).1 ≠ 2) ∧ (l ≤ 1 → (opL b L p).1 ≠ 1)
def postC (b : Nat → Int32) (L o : Nat) (K : List Int32) (S : PS) : Res → PS → Prop
  | .inl q, T => XC b L o q.1 (K ++ q.2) T ∧ FE o S T
  | .inr q, T => XF b L o q.1 q.2 T ∧ FE o S T
def shp (b : Nat → Int32) (L l w p : Nat) : Res → Prop
  | .inl q => p < q.1 ∧ q.1 ≤ L ∧ q.2.length ≤ q.1 - p ∧ okH (Hh l w) q.2 ∧ NTq b L l q.1
  | .inr q => q.1 ≠ 0
def shpL (b : Nat → Int32) (L l w p : Nat) : Res → Prop
  | .inl q => p ≤ q.1 ∧ q.1 ≤ L ∧ q.2.length ≤ q.1 - p ∧ okL (Hh l w) q.2 ∧ NTq b L l q.1
  | .inr q => q.1 ≠ 0
/-- how the model goes on, Y the code with the pile flushed -/
def contM (N : Nat) (b : Nat → Int32) (L l w : Nat) (Y P : List Int32) (fl : Nat → Int32) (S : PS) (Post : PS → Prop) : Res → Prop
  | .inr q => ∀ T, XMF b L q.1 q.2 1400 T → FXm S T → Post T
  | .inl q => ∀ n' X' Q fl' T, L - q.1 + 3 ≤ n' → XM b L q.1 X' (Q ++ P) (w + 1) fl' T → X' ++ Q = Y ++ mcL q.2 → (∀ x, x ∈ Q → x < 14 ∧ ¬ stS x < iN l) → (∀ j, j ≤ w → fl' j = fl j) → (5 ≤ l → fl' (w + 1) = fl (w + 1)) → (l ≤ 4 → (opL b L q.1).1 = 4 → fl' (w + 1) = 1) → BN q.1 X' (Q ++ P) → FXm S T → KXp N n' Post T
def ClsOK (N : Nat) (b : Nat → Int32) (L l w p : Nat) (R : Res) : Prop := ∀ o, isRu o → ∀ dd K S, 9 - l + 7 * (5 - w) ≤ dd → XC b L o p K S → rn (fRD N dd (l - 1) (iN w) S) (postC b L o K S R)
def ModOK (N : Nat) (b : Nat → Int32) (L l w p : Nat) (R : Res) : Prop := ∀ v1 k v2 n Post X P fl S, L - p + 3 ≤ k → L - p + 3 ≤ n → XM b L p X P (w + 1) fl S → BN p X P → stay (iN l) P → (l ≤ 4 → fl (w + 1) = 0) → contM N b L l w X P fl S Post R → (if l ≤ 3 then OPp N v1 k 1 n Post S else AFp N v1 (k - 1) v2 n Post S)
def Claim (N : Nat) (b : Nat → Int32) (L l w p : Nat) : Prop := ∃ R, shp b L l w p R ∧ ClsOK N b L l w p R ∧ ModOK N b L l w p R
def lpC (N : Nat) (rec : RecT) (l : Nat) (w : Int32) (f : Nat) (i : Int32) (S : PS) : Option PS :=
  if l = 1 then bT (fX7_readExpr_68 N rec w f i S) (fun q => some q.2) else if l = 2 then bT (fX7_readAnd_7 N rec w f i S) (fun q => some q.2) else if l = 5 then bT (fX7_readSum_7 N rec w f i S) (fun q => some q.2.2) else bT (fX7_readProduct_7 N rec w f i S) (fun q => some q.2.2)
def LpCOK (N : Nat) (b : Nat → Int32) (L l w p : Nat) (R : Res) : Prop := ∀ o, isRu o → ∀ dd f i K S, 8 - l + 7 * (5 - w) ≤ dd → L - p < f → i < p → XC b L o p K S → rn (lpC N (fRD N dd) l (iN w) f (iN i) S) (postC b L o K S R)
def LpMOK (N : Nat) (b : Nat → Int32) (L l w p : Nat) (R : Res) : Prop := ∀ n Post X Q P fl S, L - p + 3 ≤ n → XM b L p X (Q ++ P) (w + 1) fl S → BN p X (Q ++ P) → (∀ x, x ∈ Q → x < 14 ∧ ¬ stS x < iN l) → stay (iN l) P → NTq b L (l + 1) p → (l ≤ 4 → (opL b L p).1 = 4 → fl (w + 1) = 1) → contM N b L l w (X ++ Q) P fl S Post R → KXp N n Post S
def LoopC (N : Nat) (b : Nat → Int32) (L l w p : Nat) : Prop := ∃ R, (NTq b L (l + 1) p → shpL b L l w p R) ∧ LpCOK N b L l w p R ∧ LpMOK N b L l w p R
section LPC
variable {N : Nat} {b : Nat → Int32} {L : Nat} {o p : Nat} {K : List Int32} {S : PS} {rec : RecT} {w : Int32} {f i l : Nat}
theorem op_1 : (opL b L p).1 = 1 ↔ wdP b L p 10 := by
  unfold opL
  by_cases h : wdP b L p 10
  · rw [if_pos h]; exact ⟨fun _ => h, fun _ => rfl⟩
  · rw [if_neg h]
    refine ⟨fun q => ?_, fun q => absurd q h⟩
    revert q
    repeat (first | (split; intro q; exact absurd q (by decide)) | (intro q; exact absurd q (by decide)))
theorem op_2 : (opL b L p).1 = 2 ↔ wdP b L p 9 := by
  unfold opL
  by_cases h : wdP b L p 10
  · rw [if_pos h]
    exact ⟨fun q => absurd q (by decide), fun q => absurd q (wd_2 (j := 10) (k := 9) (by omega) (by omega) (by omega) h)⟩
  · rw [if_neg h]
    by_cases g : wdP b L p 9
    · rw [if_pos g]; exact ⟨fun _ => g, fun _ => rfl⟩
    · rw [if_neg g]
      refine ⟨fun q => ?_, fun q => absurd q g⟩
      revert q
      repeat (first | (split; intro q; exact absurd q (by decide)) | (intro q; exact absurd q (by decide)))
/-- the signs, one by one -/
theorem op_sg : (opL b L p = (4, -10) ↔ sgP b L p 60) ∧ (opL b L p = (4, -11) ↔ sgP b L p 61) ∧ (opL b L p = (5, -12) ↔ sgP b L p 43) ∧ (opL b L p = (5, -13) ↔ sgP b L p 45) ∧ (opL b L p = (6, -14) ↔ sgP b L p 42) ∧ (opL b L p = (6, -15) ↔ sgP b L p 47) := by
  have key : ∀ c : Int32, sgP b L p c → opL b L p = (if c = 60 then (4, -10) else if c = 61 then (4, -11) else if c = 43 then (5, -12) else if c = 45 then (5, -13) else if c = 42 then (6, -14) else if c = 47 then (6, -15) else (0, 0)) := by
    intro c h
    have e : ∀ x, sgP b L p x ↔ c = x := fun x => ⟨fun q => h.2.symm.trans q.2, fun q => ⟨h.1, by rw [← q]; exact h.2⟩⟩
    unfold opL
    rw [if_neg (sg_w h), if_neg (sg_w h)]
    simp only [e]
  by_cases k3 : tkd b L p = 3
  · have h : sgP b L p (b (tfr b L p)) := ⟨k3, rfl⟩
    have kk := key _ h
    have e : ∀ x, sgP b L p x ↔ b (tfr b L p) = x := fun x => ⟨fun q => q.2, fun q => ⟨k3, q⟩⟩
    generalize b (tfr b L p) = c at kk e h
    simp only [e]
    rw [kk]
    by_cases a1 : c = 60
    · subst a1; decide
    by_cases a2 : c = 61
    · subst a2; decide
    by_cases a3 : c = 43
    · subst a3; decide
    by_cases a4 : c = 45
    · subst a4; decide
    by_cases a5 : c = 42
    · subst a5; decide
    by_cases a6 : c = 47
    · subst a6; decide
    rw [if_neg a1, if_neg a2, if_neg a3, if_neg a4, if_neg a5, if_neg a6]
    simp [a1, a2, a3, a4, a5, a6]
  · have ns : ∀ x, ¬ sgP b L p x := fun x q => k3 q.1
    have eo : opL b L p = (if wdP b L p 10 then (1, -8) else if wdP b L p 9 then (2, -9) else (0, 0)) := by
      unfold opL
      rw [if_neg (ns 60), if_neg (ns 61), if_neg (ns 43), if_neg (ns 45), if_neg (ns 42), if_neg (ns 47)]
    rw [eo]
    by_cases a : wdP b L p 10
    · rw [if_pos a]
      simp only [ns]
      decide
    · rw [if_neg a]
      by_cases c : wdP b L p 9
      · rw [if_pos c]
        simp only [ns]
        decide
      · rw [if_neg c]
        simp only [ns]
        decide
theorem op_all : opL b L p = (0, 0) ∨ opL b L p = (1, -8) ∨ opL b L p = (2, -9) ∨ opL b L p = (4, -10) ∨ opL b L p = (4, -11) ∨ opL b L p = (5, -12) ∨ opL b L p = (5, -13) ∨ opL b L p = (6, -14) ∨ opL b L p = (6, -15) := by
  have key : ∀ (c : Prop) (i : Decidable c) (x y : Nat × Int32), (x = (0, 0) ∨ x = (1, -8) ∨ x = (2, -9) ∨ x = (4, -10) ∨ x = (4, -11) ∨ x = (5, -12) ∨ x = (5, -13) ∨ x = (6, -14) ∨ x = (6, -15)) → (y = (0, 0) ∨ y = (1, -8) ∨ y = (2, -9) ∨ y = (4, -10) ∨ y = (4, -11) ∨ y = (5, -12) ∨ y = (5, -13) ∨ y = (6, -14) ∨ y = (6, -15)) → ((@ite _ c i x y) = (0, 0) ∨ (@ite _ c i x y) = (1, -8) ∨ (@ite _ c i x y) = (2, -9) ∨ (@ite _ c i x y) = (4, -10) ∨ (@ite _ c i x y) = (4, -11) ∨ (@ite _ c i x y) = (5, -12) ∨ (@ite _ c i x y) = (5, -13) ∨ (@ite _ c i x y) = (6, -14) ∨ (@ite _ c i x y) = (6, -15)) := by
    intro c i x y hx hy
    by_cases h : c
    · rw [if_pos h]; exact hx
    · rw [if_neg h]; exact hy
  unfold opL
  exact key _ _ _ _ (by decide) (key _ _ _ _ (by decide) (key _ _ _ _ (by decide) (key _ _ _ _ (by decide) (key _ _ _ _ (by decide) (key _ _ _ _ (by decide) (key _ _ _ _ (by decide) (key _ _ _ _ (by decide) (by decide))))))))
end LPC
