/-! ===== phase 2: the lines of the two rules, both ===== -/
abbrev Out : Type := (Nat × Cv × Rw) ⊕ (Int32 × Int32)
def outOK (L p : Nat) : Out → Prop
  | .inl q => WV q.2.1 q.2.2 ∧ p < q.1 ∧ q.1 ≤ L
  | .inr q => q.1 ≠ 0
section RLB
variable {N : Nat} {b : Nat → Int32} {L : Nat} {p : Nat} {V : Cv} {A : Rw}
theorem n4 {x a e f g : Nat} (h1 : x ≠ a) (h2 : x ≠ e) (h3 : x ≠ f) (h4 : x ≠ g) : ¬ (x = a ∨ x = e ∨ x = f ∨ x = g) := fun q => by
  rcases q with q | q | q | q
  · exact h1 q
  · exact h2 q
  · exact h3 q
  · exact h4 q
theorem cuC_ru {c : Nat} (h : c = 12 ∨ c = 13) : (∀ a, cuC (sr c 1) a → a ≠ 1 ∧ a ≠ 2 ∧ a ≠ sr c 2 ∧ a ≠ sr c 3 ∧ a ≠ sr (sr c 2) 0 ∧ a ≠ sr (sr c 3) 0) ∧ (c ≠ 1 ∧ c ≠ 2 ∧ c ≠ sr c 2 ∧ c ≠ sr c 3 ∧ c ≠ sr (sr c 2) 0 ∧ c ≠ sr (sr c 3) 0) ∧ (sr c 0 ≠ 1 ∧ sr c 0 ≠ 2 ∧ sr c 0 ≠ sr c 2 ∧ sr c 0 ≠ sr c 3 ∧ sr c 0 ≠ sr (sr c 2) 0 ∧ sr c 0 ≠ sr (sr c 3) 0) ∧ (sr c 2 ≠ 1 ∧ sr c 2 ≠ 2 ∧ sr c 2 ≠ sr c 3 ∧ sr c 2 ≠ sr (sr c 3) 0) ∧ (sr c 3 ≠ 1 ∧ sr c 3 ≠ 2 ∧ sr c 3 ≠ sr c 2 ∧ sr c 3 ≠ sr (sr c 2) 0) ∧ (sr (sr c 2) 0 ≠ 1 ∧ sr (sr c 2) 0 ≠ 2 ∧ sr (sr c 2) 0 ≠ sr c 3 ∧ sr (sr c 2) 0 ≠ sr (sr c 3) 0) ∧ (sr (sr c 3) 0 ≠ 1 ∧ sr (sr c 3) 0 ≠ 2 ∧ sr (sr c 3) 0 ≠ sr c 2 ∧ sr (sr c 3) 0 ≠ sr (sr c 2) 0) := by
  rcases h with rfl | rfl
  · refine ⟨fun a ha => ?_, by decide, by decide, by decide, by decide, by decide, by decide⟩
    have s1 : sr 12 1 = 21 := rfl
    have s2 : sr 12 2 = 14 := rfl
    have s3 : sr 12 3 = 15 := rfl
    have s4 : sr 14 0 = 42 := rfl
    have s5 : sr 15 0 = 44 := rfl
    rw [s1] at ha
    rw [s2, s3, s4, s5]
    unfold cuC at ha
    omega
  · refine ⟨fun a ha => ?_, by decide, by decide, by decide, by decide, by decide, by decide⟩
    have s1 : sr 13 1 = 22 := rfl
    have s2 : sr 13 2 = 16 := rfl
    have s3 : sr 13 3 = 17 := rfl
    have s4 : sr 16 0 = 46 := rfl
    have s5 : sr 17 0 = 48 := rfl
    rw [s1] at ha
    rw [s2, s3, s4, s5]
    unfold cuC at ha
    omega
/-- the class's cave behind a rule's line -/
theorem CV_leak {c : Nat} {C : List Int32} {S T : PS} (hv : CVs c V A S) (hC : okc C 0 ∧ C.length ≤ 700) (e : ∀ a, ¬ (a = 1 ∨ a = 2 ∨ a = sr c 2 ∨ a = sr (sr c 2) 0) → T.1 a = S.1 a) (er : ∀ a k, ¬ (a = 1 ∧ k = 2) → T.2.2 a k = S.2.2 a k) (t3 : T.1 (sr c 2) 3 = 1) (t2 : T.1 (sr c 2) 2 = iN C.length) (tc : CDL (T.1 (sr (sr c 2) 0)) 0 C) : CVs c (V.1, V.2.1, some C, V.2.2.2) A T := by
  obtain ⟨h1, h2, h3, h4, h5, h6, h7⟩ := hv
  obtain ⟨m1, m2, m3, m4, m5, m6, m7⟩ := cuC_ru h1
  obtain ⟨-, r2, -⟩ := cvR h1
  refine ⟨h1, by rw [er 1 1 (fun g => absurd g.2 (by decide))]; exact h2, by rw [e c (n4 m2.1 m2.2.1 m2.2.2.1 m2.2.2.2.2.1)]; exact h3, fun k hk => by rw [e (sr c 0) (n4 m3.1 m3.2.1 m3.2.2.1 m3.2.2.2.2.1)]; exact h4 k hk, ?_, ⟨⟨by rw [t3]; decide, t2, tc, hC.1, hC.2⟩, fun g => by cases g⟩, h7.cg (e _ (n4 m5.1 m5.2.1 m5.2.2.1 m5.2.2.2)) (e _ (n4 m7.1 m7.2.1 m7.2.2.1 m7.2.2.2))⟩
  exact h5.fr r2 (cs := fun a => a = 1 ∨ a = 2 ∨ a = sr c 2 ∨ a = sr (sr c 2) 0) e (fun a ha => n4 (m1 a ha).1 (m1 a ha).2.1 (m1 a ha).2.2.1 (m1 a ha).2.2.2.2.1)
theorem CV_frost {c : Nat} {C : List Int32} {S T : PS} (hv : CVs c V A S) (hC : okc C 0 ∧ C.length ≤ 700) (e : ∀ a, ¬ (a = 1 ∨ a = 2 ∨ a = sr c 3 ∨ a = sr (sr c 3) 0) → T.1 a = S.1 a) (er : ∀ a k, ¬ (a = 1 ∧ k = 2) → T.2.2 a k = S.2.2 a k) (t3 : T.1 (sr c 3) 3 = 1) (t2 : T.1 (sr c 3) 2 = iN C.length) (tc : CDL (T.1 (sr (sr c 3) 0)) 0 C) : CVs c (V.1, V.2.1, V.2.2.1, some C) A T := by
  obtain ⟨h1, h2, h3, h4, h5, h6, h7⟩ := hv
  obtain ⟨m1, m2, m3, m4, m5, m6, m7⟩ := cuC_ru h1
  obtain ⟨-, r2, -⟩ := cvR h1
  refine ⟨h1, by rw [er 1 1 (fun g => absurd g.2 (by decide))]; exact h2, by rw [e c (n4 m2.1 m2.2.1 m2.2.2.2.1 m2.2.2.2.2.2)]; exact h3, fun k hk => by rw [e (sr c 0) (n4 m3.1 m3.2.1 m3.2.2.2.1 m3.2.2.2.2.2)]; exact h4 k hk, ?_, h6.cg (e _ (n4 m4.1 m4.2.1 m4.2.2.1 m4.2.2.2)) (e _ (n4 m6.1 m6.2.1 m6.2.2.1 m6.2.2.2)), ⟨⟨by rw [t3]; decide, t2, tc, hC.1, hC.2⟩, fun g => by cases g⟩⟩
  exact h5.fr r2 (cs := fun a => a = 1 ∨ a = 2 ∨ a = sr c 3 ∨ a = sr (sr c 3) 0) e (fun a ha => n4 (m1 a ha).1 (m1 a ha).2.1 (m1 a ha).2.2.2.1 (m1 a ha).2.2.2.2.2)
/-- the outcome of a rule's line -/
def rlO (V : Cv) (A : Rw) (s : Bool) : Res → Out
  | .inl q => .inl (q.1, (if s = true then (V.1, V.2.1, some q.2, V.2.2.2) else (V.1, V.2.1, V.2.2.1, some q.2)), A)
  | .inr q => .inr q
theorem RMx_n {lk : Option (List Int32)} {v : Int32} {X : List Int32} (hX : X.length < 2147483648) (h : RMx lk v X) : v = -1 ↔ lk = none := by
  cases lk with
  | none => exact ⟨fun _ => rfl, fun _ => h⟩
  | some C =>
    obtain ⟨⟨X1, X2, e, g⟩, -⟩ := h
    have : X1.length ≤ X.length := by rw [e, List.length_append]; omega
    exact ⟨fun q => by rw [g] at q; exact absurd q (iN_n1 (by omega)), fun q => by cases q⟩
theorem RU_n {r : Nat} {lk : Option (List Int32)} {S : PS} (h : RUx r lk S) : S.1 r 3 = 0 ↔ lk = none := by
  cases lk with
  | none => exact ⟨fun _ => rfl, fun _ => h.1⟩
  | some C => exact ⟨fun q => absurd q h.1.1, fun q => by cases q⟩
end RLB
