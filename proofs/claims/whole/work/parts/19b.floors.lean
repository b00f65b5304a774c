/-! ===== phase 2: floors within floors, in the model ===== -/
theorem FM.uq {cs fs : Nat → Prop} {S T T' : PS} {a : Nat} {r : Nat → Int32} (h : FM cs fs S T) (u : UR T T' a r) (ha : cs a) (h8 : a ≠ 80) : FM cs fs S T' :=
  ⟨fun b hb hc => (u.2.1 b (fun e => hc (by rw [e]; exact ha))).trans (h.1 b hb hc), fun k hk => (congrFun (u.2.1 80 (Ne.symm h8)) k).trans (h.2.1 k hk), u.2.2.trans h.2.2⟩
abbrev flC (a : Nat) : Prop := a = 99 ∨ a = 100 ∨ a = 101 ∨ a = 102
section FLM
variable {N n : Nat} {sp : Nat → Int32} {A : Rw} {S : PS} {h : Int32}
theorem M_gives {x y : Nat} {t : Int32} (hn : n ≤ 9) (hx : x < n) (h : MR 0 n A S) (h1 : S.1 101 x = f1S A x t) (h2 : S.1 102 x = t - f1S A x t) : fX12_gives N (iN x) (iN y) S = some (gvS A x y t, S) := by
  have o1 : (19 : Int32) + iN x = iN (0 + 19 + x) := by rw [show (19 : Int32) = iN 19 from rfl, iN_add]
  have i1 : inr (iN (0 + 19 + x)) 128 := inr_iN (by omega) (by omega)
  have x1 : ix (iN (0 + 19 + x)) = 0 + 19 + x := ix_iN (by omega)
  have o2 : (28 : Int32) + iN x = iN (0 + 28 + x) := by rw [show (28 : Int32) = iN 28 from rfl, iN_add]
  have i2 : inr (iN (0 + 28 + x)) 128 := inr_iN (by omega) (by omega)
  have x2 : ix (iN (0 + 28 + x)) = 0 + 28 + x := ix_iN (by omega)
  have r1 : S.1 91 (0 + 19 + x) = A 2 x := (h.2 x hx).2.2.1
  have r2 : S.1 91 (0 + 28 + x) = A 3 x := (h.2 x hx).2.2.2.1
  have i9 : inr (iN x) 9 := inr_iN (by omega) (by omega)
  have x9 : ix (iN x) = x := ix_iN (by omega)
  simp only [fX12_gives, o1, o2, gd_t i1, gd_t i2, x1, x2, r1, r2, gd_t i9, x9, h1, h2]
  unfold gvS
  by_cases a : A 2 x = iN y
  · rw [if_pos a, if_pos a]
  · rw [if_neg a, if_neg a]
    by_cases b : A 3 x = iN y
    · rw [if_pos b, if_pos b]
    · rw [if_neg b, if_neg b]
theorem M_fl43 {y : Nat} {v1 : Int32} {T : Nat → Int32} (hN : 30000 ≤ N) (hn : n ≤ 9) (hy : y < n) (hm : MR 0 n A S) (hT : ∀ x, x < y → S.1 101 x = f1S A x (T x) ∧ S.1 102 x = T x - f1S A x (T x)) :
    rn (fX12_flows_43 N v1 (iN y) N 0 S) (fun q => q.2.1 99 y = S.1 99 y + sumS (fun x => gvS A x y (T x)) y ∧ (∀ d, d ≠ y → q.2.1 99 d = S.1 99 d) ∧ FM (fun a => a = 99) (fun _ => False) S q.2) := by
  refine forG (f := fun m j s => fX12_flows_43 N v1 (iN y) m (iN j) s) y (J := fun j U => U.1 99 y = S.1 99 y + sumS (fun x => gvS A x y (T x)) j ∧ (∀ d, d ≠ y → U.1 99 d = S.1 99 d) ∧ FM (fun a => a = 99) (fun _ => False) S U) ?_ ?_ N 0 S (by omega) ⟨by rw [sumS, Int32.add_zero], fun _ _ => rfl, FM.rfl⟩ (by omega)
  · rintro m U ⟨g1, g2, g3⟩
    simp only [fX12_flows_43]
    rw [if_pos (Int32.le_refl _), rn_some]
    exact ⟨g1, g2, g3⟩
  · rintro m j U hj ⟨g1, g2, g3⟩ ih
    have hii : ¬ iN y ≤ iN j := by rw [iN_le (by omega) (by omega)]; omega
    have cU : MR 0 n A U := MR_a hm g3 (by decide)
    have iy : inr (iN y) 9 := inr_iN (by omega) (by omega)
    have xy : ix (iN y) = y := ix_iN (by omega)
    simp only [fX12_flows_43]
    rw [if_neg hii, gd_t iy, M_gives (t := T j) hn (by omega) cU (by rw [g3.1 101 (by decide) (by decide)]; exact (hT j hj).1) (by rw [g3.1 102 (by decide) (by decide)]; exact (hT j hj).2), bI_s, gd_t iy, xy]
    refine rn_u (fun U2 u2 => ?_)
    rw [rn_lt, iN_1]
    refine ih U2 ⟨?_, fun d hd => ?_, g3.uq u2 rfl (by decide)⟩
    · rw [u2.1, upd_at, sumS_s, g1, Int32.add_assoc]
    · rw [u2.1, upd_o hd]; exact g2 d hd
/-- what the model has laid down for the cups below j -/
def FLj (sp : Nat → Int32) (A : Rw) (h : Int32) (j : Nat) (U : PS) : Prop := ∀ y, y < j → U.1 99 y = flS sp A h y ∧ U.1 100 y = tiS sp A h y ∧ U.1 101 y = f1S A y (tiS sp A h y) ∧ U.1 102 y = tiS sp A h y - f1S A y (tiS sp A h y)
theorem M_flows (hN : 30000 ≤ N) (hw : WF n A) (hm : S.1 80 1 = iN n) (hs : ∀ c, c < n → S.1 81 c = sp c) (hmr : MR 0 n A S) : rn (fX12_flows N h S) (fun U => FLj sp A h n U ∧ FM flC (fun _ => False) S U) := by
  have hn := hw.1
  unfold fX12_flows
  rw [rn_bT]
  refine forG (f := fun m j s => fX12_flows_2 N h m (iN j) s) n (J := fun j U => FLj sp A h j U ∧ FM flC (fun _ => False) S U) ?_ ?_ N 0 S (by omega) ⟨fun y hy => by omega, FM.rfl⟩ (by omega)
  · rintro m U ⟨g1, g2⟩
    simp only [fX12_flows_2]
    rw [if_pos (show U.1 80 1 ≤ iN n by rw [g2.2.1 1 id, hm]; exact Int32.le_refl _), rn_some, rn_lt, rn_lt, rn_some]
    exact ⟨g1, g2⟩
  · rintro m j U hj ⟨g1, g2⟩ ih
    have hii : ¬ U.1 80 1 ≤ iN j := by rw [g2.2.1 1 id, hm, iN_le (by omega) (by omega)]; omega
    have hj9 : j < 9 := by omega
    have ij : inr (iN j) 9 := inr_iN hj9 (by omega)
    have xj : ix (iN j) = j := ix_iN (by omega)
    have wj := hw.2 j hj9
    have a0 : ¬ A 0 j = 0 := fun e => by have := wj.1.1; rw [e] at this; exact absurd this (by decide)
    have o : ∀ b : Nat, b ≤ 60 → iN b + iN j = iN (0 + b + j) ∧ inr (iN (0 + b + j)) 128 ∧ ix (iN (0 + b + j)) = 0 + b + j := fun b hb => ⟨by rw [iN_add, Nat.zero_add], inr_iN (by omega) (by omega), ix_iN (by omega)⟩
    have o1 := o 1 (by omega)
    have o10 := o 10 (by omega)
    have o28 := o 28 (by omega)
    have o37 := o 37 (by omega)
    have o55 := o 55 (by omega)
    have q1 : (1 : Int32) + iN j = iN (0 + 1 + j) := o1.1
    have q10 : (10 : Int32) + iN j = iN (0 + 10 + j) := o10.1
    have q28 : (28 : Int32) + iN j = iN (0 + 28 + j) := o28.1
    have q37 : (37 : Int32) + iN j = iN (0 + 37 + j) := o37.1
    have q55 : (55 : Int32) + iN j = iN (0 + 55 + j) := o55.1
    have r : ∀ W, FM flC (fun _ => False) S W → MR 0 n A W := fun W F => by
      rw [MF_MR, F.1 91 (by decide) (by decide)]; exact hmr
    have rest : ∀ W : PS, W.1 99 j = bsS sp A h j → FLj sp A h j W → FM flC (fun _ => False) S W →
        rn (bT (fX12_flows_43 N h (iN j) N 0 W) fun q56 =>
          lt (q56.1 : Int32) fun _ =>
          lt (q56.2 : PS) fun S58 =>
          gd (inr (10 + iN j) 128) <| gd (inr (iN j) 9) <| gd (inr (1 + iN j) 128) <| gd (¬ (S58.1 91 (ix (1 + iN j))) = 0) <| gd (inr (iN j) 9) <|
          lt ((u2 S58.1 100 (ix (iN j)) (((S58.1 91 (ix (10 + iN j))) + (S58.1 99 (ix (iN j)))) / (S58.1 91 (ix (1 + iN j)))), S58.2) : PS) fun S66 =>
          gd (inr (28 + iN j) 128) <|
          (if (S66.1 91 (ix (28 + iN j))) = (-1) then
            gd (inr (iN j) 9) <| gd (inr (iN j) 9) <|
            lt ((u2 S66.1 101 (ix (iN j)) (S66.1 100 (ix (iN j))), S66.2) : PS) fun S89 =>
            gd (inr (iN j) 9) <| gd (inr (iN j) 9) <| gd (inr (iN j) 9) <|
            lt ((u2 S89.1 102 (ix (iN j)) ((S89.1 100 (ix (iN j))) - (S89.1 101 (ix (iN j)))), S89.2) : PS) fun S93 =>
            lt (iN j + 1 : Int32) fun x94 =>
            fX12_flows_2 N h m x94 S93
          else
            gd (inr (37 + iN j) 128) <|
            (if (S66.1 91 (ix (37 + iN j))) = 0 then
              gd (inr (iN j) 9) <| gd (inr (iN j) 9) <|
              lt ((u2 S66.1 101 (ix (iN j)) (((S66.1 100 (ix (iN j))) + 1) / 2), S66.2) : PS) fun S81 =>
              gd (inr (iN j) 9) <| gd (inr (iN j) 9) <| gd (inr (iN j) 9) <|
              lt ((u2 S81.1 102 (ix (iN j)) ((S81.1 100 (ix (iN j))) - (S81.1 101 (ix (iN j)))), S81.2) : PS) fun S85 =>
              lt (iN j + 1 : Int32) fun x86 =>
              fX12_flows_2 N h m x86 S85
            else
              gd (inr (iN j) 9) <| gd (inr (iN j) 9) <|
              lt ((u2 S66.1 101 (ix (iN j)) ((S66.1 100 (ix (iN j))) / 2), S66.2) : PS) fun S73 =>
              gd (inr (iN j) 9) <| gd (inr (iN j) 9) <| gd (inr (iN j) 9) <|
              lt ((u2 S73.1 102 (ix (iN j)) ((S73.1 100 (ix (iN j))) - (S73.1 101 (ix (iN j)))), S73.2) : PS) fun S77 =>
              lt (iN j + 1 : Int32) fun x78 =>
              fX12_flows_2 N h m x78 S77))) (fun q => rn (lt (q.1 : Int32) fun _ => lt (q.2 : PS) fun S97 => some S97) (fun U => FLj sp A h n U ∧ FM flC (fun _ => False) S U)) := by
      intro W w1 w2 w3
      rw [rn_bT]
      refine rn_mono (M_fl43 (T := tiS sp A h) hN hn hj (r W w3) (fun x hx => (w2 x hx).2.2)) (fun q hq => ?_)
      obtain ⟨k1, k2, k3⟩ := hq
      have F3 := w3.tr (k3.mono (ds := flC) (gs := fun _ => False) (fun a ha => Or.inl ha) (fun _ e => e))
      rw [rn_lt, rn_lt]
      generalize q.2 = X at *
      have rX := r X F3
      have e99 : X.1 99 j = flS sp A h j := by rw [k1, w1, flS_e hj9]
      rw [q10, q1, gd_t o10.2.1, gd_t ij, gd_t o1.2.1, o1.2.2, o10.2.2, (rX.2 j hj).1, (rX.2 j hj).2.1, gd_t a0, gd_t ij, xj, e99]
      refine rn_u (fun Y u => ?_)
      have FY : FM flC (fun _ => False) S Y := F3.uq u (Or.inr (Or.inl rfl)) (by decide)
      have rY := r Y FY
      have y100 : Y.1 100 j = tiS sp A h j := by rw [u.1, upd_at]; rfl
      -- the last two steps
      have fin : ∀ v, v = f1S A j (tiS sp A h j) → ∀ Z, UR Y Z 101 (upd (Y.1 101) j v) → rn (gd (inr (iN j) 9) <| gd (inr (iN j) 9) <| gd (inr (iN j) 9) <|
            lt ((u2 Z.1 102 j ((Z.1 100 j) - (Z.1 101 j)), Z.2) : PS) fun S93 =>
            lt (iN j + 1 : Int32) fun x94 =>
            fX12_flows_2 N h m x94 S93) (fun q => rn (lt (q.1 : Int32) fun _ => lt (q.2 : PS) fun S97 => some S97) (fun U => FLj sp A h n U ∧ FM flC (fun _ => False) S U)) := by
        intro v hv Z uz
        have FZ := FY.uq uz (Or.inr (Or.inr (Or.inl rfl))) (by decide)
        rw [gd_t ij, gd_t ij, gd_t ij]
        refine rn_u (fun Z2 u2 => ?_)
        rw [rn_lt, iN_1]
        refine ih Z2 ⟨fun y hy => ?_, FZ.uq u2 (Or.inr (Or.inr (Or.inr rfl))) (by decide)⟩
        rw [u2.2.1 99 (by decide), u2.2.1 100 (by decide), u2.2.1 101 (by decide), u2.1, uz.2.1 99 (by decide), uz.2.1 100 (by decide), uz.1, uz.2.1 102 (by decide), u.2.1 99 (by decide), u.1]
        by_cases ey : y = j
        · subst ey
          rw [upd_at, upd_at, upd_at, hv, e99]
          exact ⟨rfl, rfl, rfl, rfl⟩
        · have hyj : y < j := by omega
          rw [upd_o ey, upd_o ey, upd_o ey, u.2.1 101 (by decide), u.2.1 102 (by decide), k2 y ey, k3.1 100 (by decide) (by decide), k3.1 101 (by decide) (by decide), k3.1 102 (by decide) (by decide)]
          exact w2 y hyj
      rw [q28, gd_t o28.2.1, o28.2.2, (rY.2 j hj).2.2.2.1, q37, o37.2.2, (rY.2 j hj).2.2.2.2.2.2, y100]
      by_cases e3 : A 3 j = -1
      · rw [if_pos e3, gd_t ij, gd_t ij]
        refine rn_u (fun Z uz => fin _ ?_ Z uz)
        unfold f1S; rw [if_pos e3]
      · rw [if_neg e3, gd_t o37.2.1]
        rcases wj.2.2.2.2.2.2.1 with e6 | e6
        · rw [if_pos e6, gd_t ij, gd_t ij]
          refine rn_u (fun Z uz => fin _ ?_ Z uz)
          unfold f1S; rw [if_neg e3, e6]; rfl
        · rw [if_neg (by rw [e6]; decide), gd_t ij, gd_t ij]
          refine rn_u (fun Z uz => fin _ ?_ Z uz)
          unfold f1S
          rw [if_neg e3, e6, show (1 : Int32) - 1 = 0 from by decide, Int32.add_zero]
    have rU := r U g2
    simp only [fX12_flows_2]
    rw [if_neg hii, q55, gd_t o55.2.1, o55.2.2, (rU.2 j hj).2.2.2.2.2.1]
    have keep : ∀ W v, UR U W 99 (upd (U.1 99) j v) → FLj sp A h j W := by
      intro W v u y hy
      rw [u.1, upd_o (by omega), u.2.1 100 (by decide), u.2.1 101 (by decide), u.2.1 102 (by decide)]
      exact g1 y hy
    rcases wj.2.2.2.2.2.1 with e5 | e5
    · rw [if_neg (by rw [e5]; decide), gd_t ij, gd_t ij]
      refine rn_l (fun W eW => ?_)
      have s81 : U.1 81 j = sp j := by rw [g2.1 81 (by decide) (by decide)]; exact hs j hj
      have hu : UR U W 99 (upd (U.1 99) j (sp j * h)) := by
        rw [eW, xj, s81]
        exact ur_mk
      refine rest W ?_ (keep W _ hu) (g2.uq hu (Or.inl rfl) (by decide))
      rw [hu.1, upd_at]
      unfold bsS
      rw [if_neg (by rw [e5]; decide)]
    · rw [if_pos e5, gd_t ij]
      refine rn_l (fun W eW => ?_)
      have hu : UR U W 99 (upd (U.1 99) j 0) := by
        rw [eW, xj]
        exact ur_mk
      refine rest W ?_ (keep W _ hu) (g2.uq hu (Or.inl rfl) (by decide))
      rw [hu.1, upd_at]
      unfold bsS
      rw [if_pos e5]
end FLM
