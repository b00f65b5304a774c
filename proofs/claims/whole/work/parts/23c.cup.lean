/-! ===== phase 2: the line of a cup ===== -/
def RUx (r : Nat) (lk : Option (List Int32)) (S : PS) : Prop := RU r lk S ∧ (lk = none → S.1 r 2 = 0)
/-- the cave that the class reads: its object c, cups and springs and rules V, rows A -/
def CVs (c : Nat) (V : Cv) (A : Rw) (S : PS) : Prop := (c = 12 ∨ c = 13) ∧ S.2.2 1 1 = c ∧ S.1 c 4 = iN V.1 ∧ (∀ k, k < 9 → S.1 (sr c 0) k = V.2.1 k) ∧ CU (sr c 1) A S ∧ RUx (sr c 2) V.2.2.1 S ∧ RUx (sr c 3) V.2.2.2 S
def RMx (lk : Option (List Int32)) (v : Int32) (X : List Int32) : Prop := match lk with
  | none => v = -1
  | some L => (∃ X1 X2, X = X1 ++ (mcL L ++ [0] ++ X2) ∧ v = iN X1.length) ∧ okc L 0 ∧ L.length ≤ 700
def MVs (V : Cv) (A : Rw) (X : List Int32) (S : PS) : Prop :=
  S.1 80 19 = iN V.1 ∧ (∀ k, k < V.1 → S.1 85 k = V.2.1 k ∧ S.1 86 (1 + k) = A 0 k ∧ S.1 86 (10 + k) = A 1 k ∧ S.1 86 (19 + k) = A 2 k ∧ S.1 86 (28 + k) = A 3 k ∧ (S.1 90 k = 0 ↔ A 2 k = -1)) ∧
  (S.1 86 0 = 0 ∧ ∀ k, k < 9 → S.1 86 (37 + k) = 0 ∧ S.1 86 (46 + k) = 0 ∧ S.1 86 (55 + k) = 0) ∧ S.1 80 22 = iN X.length ∧ CDL (S.1 87) 0 X ∧ RMx V.2.2.1 (S.1 80 20) X ∧ RMx V.2.2.2 (S.1 80 21) X
/-- a cave that can be read -/
def WV (V : Cv) (A : Rw) : Prop := WF V.1 A ∧ SPR V.2.1 ∧ A 7 0 = 0 ∧ (∀ k, k < 9 → A 4 k = 0 ∧ A 5 k = 0 ∧ A 6 k = 0) ∧ okr V.2.2.1 ∧ okr V.2.2.2
/-- cells of the cave c and of the reader -/
abbrev rdC (c a : Nat) : Prop := a = 1 ∨ a = 2 ∨ (c = 12 ∧ (a = 12 ∨ a = 40 ∨ a = 21 ∨ (68 ≤ a ∧ a ≤ 73) ∨ a = 14 ∨ a = 15 ∨ a = 42 ∨ a = 44)) ∨ (c = 13 ∧ (a = 13 ∨ a = 41 ∨ a = 22 ∨ (74 ≤ a ∧ a ≤ 79) ∨ a = 16 ∨ a = 17 ∨ a = 46 ∨ a = 48))
def FRd (c : Nat) (S T : PS) : Prop := (∀ a, ¬ rdC c a → T.1 a = S.1 a) ∧ T.2.1 = S.2.1 ∧ ∀ a k, ¬ (a = 1 ∧ k = 2) → T.2.2 a k = S.2.2 a k
theorem FRd.rfl {c : Nat} {S : PS} : FRd c S S := ⟨fun _ _ => Eq.refl _, Eq.refl _, fun _ _ _ => Eq.refl _⟩
theorem FRd.tr {c : Nat} {S T U : PS} (h : FRd c S T) (h' : FRd c T U) : FRd c S U := ⟨fun a ha => (h'.1 a ha).trans (h.1 a ha), h'.2.1.trans h.2.1, fun a k hk => (h'.2.2 a k hk).trans (h.2.2 a k hk)⟩
theorem FRd.f12 {c : Nat} {S T : PS} (h : F12 S T) : FRd c S T := ⟨fun a ha => h.1 a (fun e => ha (Or.inl e)) (fun e => ha (Or.inr (Or.inl e))), by rw [h.2], fun a k _ => by rw [h.2]⟩
def mdC (a : Nat) : Prop := a = 80 ∨ (85 ≤ a ∧ a ≤ 90)
def FMd (S T : PS) : Prop := (∀ a, ¬ mdC a → T.1 a = S.1 a) ∧ (∀ j, ¬ (j = 8 ∨ j = 9 ∨ (12 ≤ j ∧ j ≤ 17) ∨ (19 ≤ j ∧ j ≤ 24)) → T.1 80 j = S.1 80 j) ∧ (∀ a k, ¬ (a = 80 ∧ k = 18) → T.2.1 a k = S.2.1 a k) ∧ T.2.2 = S.2.2
theorem FMd.rfl {S : PS} : FMd S S := ⟨fun _ _ => Eq.refl _, fun _ _ => Eq.refl _, fun _ _ _ => Eq.refl _, Eq.refl _⟩
theorem FMd.tr {S T U : PS} (h : FMd S T) (h' : FMd T U) : FMd S U := ⟨fun a ha => (h'.1 a ha).trans (h.1 a ha), fun j hj => (h'.2.1 j hj).trans (h.2.1 j hj), fun a k hk => (h'.2.2.1 a k hk).trans (h.2.2.1 a k hk), h'.2.2.2.trans h.2.2.2⟩
theorem FMd.f89 {S T : PS} (h : F89 S T) : FMd S T := ⟨fun a ha => h.1 a (fun e => ha (Or.inl e)), fun j hj => h.2.1 j (by omega), h.2.2.1, h.2.2.2⟩
theorem FMd.ua {a : Nat} {S T : PS} {r : Nat → Int32} (u : UR S T a r) (ha : 85 ≤ a ∧ a ≤ 90) : FMd S T := ⟨fun c hc => u.2.1 c (fun e => hc (by rw [e]; exact Or.inr ha)), fun j _ => by rw [u.2.1 80 (by omega)], fun c j _ => by rw [u.2.2], by rw [u.2.2]⟩
theorem FMd.u0 {k : Nat} {S T : PS} {x : Int32} (u : UR S T 80 (upd (S.1 80) k x)) (hk : 19 ≤ k ∧ k ≤ 24) : FMd S T := ⟨fun c hc => u.2.1 c (fun e => hc (Or.inl e)), fun j hj => by rw [u.1, upd_o (by omega)], fun c j _ => by rw [u.2.2], by rw [u.2.2]⟩
theorem FMd.fx {S T : PS} (h : FXm S T) : FMd S T := ⟨fun a ha => h.1 a (by unfold mdC at ha; omega), fun j hj => h.2.1 j (by omega), h.2.2.1, h.2.2.2⟩
section CPL
variable {N : Nat} {b : Nat → Int32} {L : Nat} {p c : Nat} {V : Cv} {A : Rw} {X : List Int32} {S : PS}
theorem cvR (h : c = 12 ∨ c = 13) : obj c 1 ∧ isCu (sr c 1) ∧ arr (sr c 0) 1 9 ∧ isRu (sr c 2) ∧ isRu (sr c 3) ∧ sr c 0 = 28 + c ∧ sr c 1 = 9 + c ∧ sr c 2 = 2 * c - 10 ∧ sr c 3 = 2 * c - 9 := by
  rcases h with rfl | rfl
  · exact ⟨⟨rfl, by decide⟩, by unfold isCu; decide, ⟨rfl, by decide⟩, by decide, by decide, rfl, rfl, rfl, rfl⟩
  · exact ⟨⟨rfl, by decide⟩, by unfold isCu; decide, ⟨rfl, by decide⟩, by decide, by decide, rfl, rfl, rfl, rfl⟩
theorem rd_in (h : c = 12 ∨ c = 13) : rdC c c ∧ rdC c (sr c 0) ∧ rdC c (sr c 1) ∧ rdC c (sr (sr c 1) 0) ∧ rdC c (sr (sr c 1) 1) ∧ rdC c (sr (sr c 1) 2) ∧ rdC c (sr (sr c 1) 3) ∧ rdC c (sr (sr c 1) 4) ∧ rdC c (sr c 2) ∧ rdC c (sr c 3) ∧ rdC c (sr (sr c 2) 0) ∧ rdC c (sr (sr c 3) 0) := by
  rcases h with rfl | rfl <;> refine ⟨?_, ?_, ?_, ?_, ?_, ?_, ?_, ?_, ?_, ?_, ?_, ?_⟩ <;> decide
theorem RUx.cg {r : Nat} {lk : Option (List Int32)} {T : PS} (h : RUx r lk S) (e1 : T.1 r = S.1 r) (e2 : T.1 (sr r 0) = S.1 (sr r 0)) : RUx r lk T := ⟨h.1.cg e1 e2, fun g => by rw [e1]; exact h.2 g⟩
theorem CVs.f12 {T : PS} (h : CVs c V A S) (f : F12 S T) : CVs c V A T := by
  obtain ⟨h1, h2, h3, h4, h5, h6, h7⟩ := h
  obtain ⟨-, r2, -, r4, r5, r6, r7, r8, r9⟩ := cvR h1
  have q2 := (ru_ob r4).2.2
  have q3 := (ru_ob r5).2.2
  refine ⟨h1, by rw [f.2]; exact h2, ?_, fun k hk => ?_, ?_, ?_, ?_⟩
  · rw [f.1 c (by omega) (by omega)]; exact h3
  · rw [f.1 (sr c 0) (by omega) (by omega)]; exact h4 k hk
  · exact h5.fr r2 (cs := fun a => a = 1 ∨ a = 2) (fun a ha => f.1 a (by omega) (by omega)) (fun a ha => by unfold cuC at ha; omega)
  · exact h6.cg (f.1 _ (by omega) (by omega)) (f.1 _ (by omega) (by omega))
  · exact h7.cg (f.1 _ (by omega) (by omega)) (f.1 _ (by omega) (by omega))
theorem MVs.f89 {T : PS} (h : MVs V A X S) (f : F89 S T) : MVs V A X T := by
  unfold MVs
  rw [f.2.1 19 (by omega), f.2.1 20 (by omega), f.2.1 21 (by omega), f.2.1 22 (by omega), f.1 85 (by decide), f.1 86 (by decide), f.1 87 (by decide), f.1 90 (by decide)]
  exact h
/-- how the line of a cup ends -/
def cupR (b : Nat → Int32) (L p : Nat) (V : Cv) (A : Rw) : (Nat × Cv × Rw) ⊕ (Int32 × Int32) :=
  if V.1 < 9 then
    (if numOK b L (tto b L p) 1 30 then
      (if numOK b L (tto b L (tto b L p)) 0 (tvl b L (tto b L p) - 1) then
        (if numOK b L (tto b L (tto b L (tto b L p))) 0 20 then
          (if sgP b L (tto b L (tto b L (tto b L (tto b L p)))) 59 then .inl (tto b L (tto b L (tto b L (tto b L (tto b L p)))), (V.1 + 1, upd V.2.1 V.1 (tvl b L (tto b L (tto b L (tto b L p)))), V.2.2), u2 (u2 A 0 V.1 (tvl b L (tto b L p))) 1 V.1 (tvl b L (tto b L (tto b L p))))
          else .inr (1, iN (tfr b L (tto b L (tto b L (tto b L (tto b L p)))))))
        else .inr (numF b L (tto b L (tto b L (tto b L p))), iN (tfr b L (tto b L (tto b L (tto b L p))))))
      else .inr (numF b L (tto b L (tto b L p)), iN (tfr b L (tto b L (tto b L p)))))
    else .inr (numF b L (tto b L p), iN (tfr b L (tto b L p))))
  else .inr (2, iN (tfr b L p))
/-- what a line leaves in the class, and in the model -/
def lnC (b : Nat → Int32) (L c : Nat) (S : PS) : (Nat × Cv × Rw) ⊕ (Int32 × Int32) → PS → Prop
  | .inl q, T => TC b L q.1 T ∧ CVs c q.2.1 q.2.2 T ∧ FRd c S T
  | .inr q, T => TF q.1 q.2 T ∧ FRd c S T
def lnM (b : Nat → Int32) (L : Nat) (S : PS) : (Nat × Cv × Rw) ⊕ (Int32 × Int32) → PS → Prop
  | .inl q, T => MT0 b L q.1 T ∧ (∃ X, X.length ≤ 2 * q.1 ∧ MVs q.2.1 q.2.2 X T) ∧ FMd S T
  | .inr q, T => MF0 b L q.1 q.2 T ∧ FMd S T
theorem TF.f12 {f pl : Int32} {T : PS} (h : TF f pl S) (e : T = S) : TF f pl T := by rw [e]; exact h
end CPL
