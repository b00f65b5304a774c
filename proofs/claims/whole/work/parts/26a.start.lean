/-! ===== phase 2: the start, the whole law ===== -/
def G0 : Gs := (V0, (A0, (0, fun _ => A0), (0, fun _ _ => 0)), none, fun _ => 0, -1, (0, fun _ => 0))
section STA
variable {N : Nat} {xs : Nat → Int32} {b len : Nat} {S : PS}
theorem G0_W : GW G0 := ⟨V0_W.2.1, ⟨V0_W.1, ⟨Nat.zero_le _, fun j hj => absurd hj (Nat.not_lt_zero j)⟩, Nat.zero_le _, fun j hj => absurd hj (Nat.not_lt_zero j)⟩, fun M e => (by cases e), Nat.zero_le _⟩
theorem G0_Z : GZ G0 := ⟨⟨fun c _ hc => (V0_W.2.2.2.1 c hc).2.1, fun j hj => absurd hj (Nat.not_lt_zero j), fun j hj => absurd hj (Nat.not_lt_zero j)⟩, fun M e => (by cases e)⟩
theorem fl_9 {x : Int32} {f : Nat → Int32} {c : Nat} (h : c < 9) : fl 9 x f c = x := if_pos h
theorem S0_18 : CU 18 A0 (S0 xs len) := by
  refine ⟨fun k hk c hc => ?_, rfl, ?_, ?_⟩
  · have : k = 0 ∨ k = 1 ∨ k = 2 ∨ k = 3 ∨ k = 4 := by omega
    rcases this with rfl | rfl | rfl | rfl | rfl
    · show fl 9 1 (fun _ => 0) c = 1
      exact fl_9 hc
    · show fl 9 0 (fun _ => 0) c = 0
      exact fl_9 hc
    · show fl 9 (-1) (fun _ => 0) c = -1
      exact fl_9 hc
    · show fl 9 (-1) (fun _ => 0) c = -1
      exact fl_9 hc
    · show fl 9 0 (fun _ => 0) c = 0
      exact fl_9 hc
  · exact bt_congr bt_0 (fun c _ => rfl)
  · exact bt_congr bt_0 (fun c _ => rfl)
theorem S0_C : IC G0 (S0 xs len) := by
  refine ⟨⟨13, ⟨Or.inr rfl, rfl, rfl, fun c hc => rfl, rfl, rfl⟩, rfl⟩, ⟨S0_18, ⟨rfl, fun j hj => absurd hj (Nat.not_lt_zero j)⟩, rfl, ⟨fun _ => 0, bt_0, fun j hj => absurd hj (Nat.not_lt_zero j)⟩, fun j hj => absurd hj (Nat.not_lt_zero j)⟩, rfl, fun k hk => rfl, rfl, rfl, fun j hj => absurd hj (Nat.not_lt_zero j)⟩
theorem S0_M : IM G0 (S0 xs len) := by
  refine ⟨⟨rfl, fun j hj => absurd hj (Nat.not_lt_zero j), rfl, rfl, rfl⟩, ⟨⟨rfl, fun j hj => absurd hj (Nat.not_lt_zero j)⟩, ⟨rfl, fun j hj => absurd hj (Nat.not_lt_zero j)⟩, rfl, fun j hj => absurd hj (Nat.not_lt_zero j)⟩, rfl, fun k hk => rfl, rfl, rfl, fun j hj => absurd hj (Nat.not_lt_zero j)⟩
theorem S0_IV : IV (S0 xs len) := ⟨G0, G0_W, G0_Z, S0_C, S0_M⟩
theorem ite_r {α : Type} {c : Prop} {i : Decidable c} {x y : Option α} {Q : α → Prop} (hx : rn x Q) (hy : rn y Q) : rn (@ite _ c i x y) Q := by
  by_cases h : c
  · rw [if_pos h]; exact hx
  · rw [if_neg h]; exact hy
theorem step_iv (hN : 30000 ≤ N) (h : IV S) : rn (fStep N xs b S) IV := by
  unfold fStep
  refine ite_r (cs0 hN h) ?_
  refine ite_r (cs1 hN h) ?_
  refine ite_r (cs2 hN h) ?_
  refine ite_r (cs3 hN h) ?_
  refine ite_r (cs4 hN h) ?_
  refine ite_r (cs5 hN h) ?_
  refine ite_r (cs6 hN h) ?_
  refine ite_r (cs7 hN h) ?_
  refine ite_r (cs8 hN h) ?_
  refine ite_r (cs9 hN h) ?_
  refine ite_r (cs10 hN h) ?_
  refine ite_r (cs11 hN h) ?_
  refine ite_r (cs12 hN h) ?_
  refine ite_r (cs13 hN h) ?_
  refine ite_r (cs14 hN h) ?_
  refine ite_r (cs15 hN h) ?_
  refine ite_r (cs16 hN h) ?_
  refine ite_r (cs17 hN h) ?_
  refine ite_r (cs18 hN h) ?_
  refine ite_r (cs19 hN h) ?_
  refine ite_r (cs20 hN h) ?_
  refine ite_r (cs21 hN h) ?_
  refine ite_r (cs22 hN h) ?_
  refine ite_r (cs23 hN h) ?_
  refine ite_r (cs24 hN h) ?_
  refine ite_r (cs25 hN h) ?_
  refine ite_r (cs26 hN h) ?_
  refine ite_r (cs27 hN h) ?_
  refine ite_r (cs28 hN h) ?_
  refine ite_r (cs29 hN h) ?_
  refine ite_r (cs30 hN h) ?_
  refine ite_r (cs31 hN h) ?_
  refine ite_r (cs32 hN h) ?_
  refine ite_r (cs33 hN h) ?_
  refine ite_r (cs34 hN h) ?_
  refine ite_r (cs35 hN h) ?_
  refine ite_r (cs36 hN h) ?_
  refine ite_r (cs37 hN h) ?_
  refine ite_r (cs38 hN h) ?_
  refine ite_r (cs39 hN h) ?_
  refine ite_r (cs40 hN h) ?_
  refine ite_r (cs41 hN h) ?_
  rw [rn_some]
  exact h
theorem law_iv (hN : 30000 ≤ N) : ∀ (n t : Nat) (S : PS), IV S → rn (fLaw N xs n t S) IV
  | 0, t, S, h => by rw [fLaw, rn_some]; exact h
  | n + 1, t, S, h => by
    rw [fLaw, rn_bV]
    exact rn_mono (step_iv hN h) (fun T hT => law_iv hN n (t + 1) T hT)
theorem phase2 : Phase2 := fun xs len _ => by
  obtain ⟨T, h, -⟩ := law_iv (N := 30000) (xs := xs) (Nat.le_refl _) (len / 6) 0 (S0 xs len) S0_IV
  exact ⟨30000, T, h⟩
end STA
