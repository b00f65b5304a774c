/-! ===== phase 2: rules: an operand in the model ===== -/
/-- how many nots, at most k, and where they end -/
def ntF (b : Nat → Int32) (L : Nat) : Nat → Nat → Nat × Nat
  | 0, p => (0, p)
  | k + 1, p => if wdP b L p 3 then ((ntF b L k (tto b L p)).1 + 1, (ntF b L k (tto b L p)).2) else (0, p)
theorem ntF_t {b : Nat → Int32} {L k p : Nat} (h : wdP b L p 3) : ntF b L (k + 1) p = ((ntF b L k (tto b L p)).1 + 1, (ntF b L k (tto b L p)).2) := by rw [ntF, if_pos h]
theorem ntF_f {b : Nat → Int32} {L k p : Nat} (h : ¬ wdP b L p 3) : ntF b L k p = (0, p) := by
  cases k with
  | zero => rw [ntF]
  | succ k => rw [ntF, if_neg h]
theorem ntF_le {b : Nat → Int32} {L : Nat} : ∀ k p, p ≤ L → (ntF b L k p).1 ≤ k ∧ p + (ntF b L k p).1 ≤ (ntF b L k p).2 ∧ (ntF b L k p).2 ≤ L ∧ ((ntF b L k p).1 < k → ¬ wdP b L (ntF b L k p).2 3)
  | 0, p, hp => by rw [ntF]; exact ⟨Nat.le_refl _, Nat.le_refl _, hp, fun h => by omega⟩
  | k + 1, p, hp => by
    by_cases e : wdP b L p 3
    · have t := tto_le (b := b) hp
      have tf := tfr_le (b := b) hp
      have nz : ¬ tkd b L p = 0 := by rw [e.1]; decide
      have := t.2.2 nz
      have ih := ntF_le (b := b) (L := L) k (tto b L p) t.2.1
      rw [ntF_t e]
      exact ⟨by dsimp only; omega, by dsimp only; omega, ih.2.2.1, fun h => ih.2.2.2 (by dsimp only at h; omega)⟩
    · rw [ntF_f e]
      exact ⟨by dsimp only; omega, Nat.le_refl _, hp, fun _ => e⟩
section OPD
variable {N : Nat} {b : Nat → Int32} {L : Nat} {v1 v3 : Int32} {d : Nat} {fl : Nat → Int32}
theorem M_nots (hN : 30000 ≤ N) (hL : L ≤ 700) : ∀ m j p X P S f, j + m = 6 → XM b L p X P d fl S → BN p X P → m < f → rn (fX12_operand_18 N v1 1 v3 (f + 1) (iN j) S) (fun q => FXm S q.2 ∧ (wdP b L (ntF b L m p).2 3 → XMF b L 2 (iN (tfr b L (ntF b L m p).2)) (2 * (ntF b L m p).2) q.2) ∧ (¬ wdP b L (ntF b L m p).2 3 → XM b L (ntF b L m p).2 X (List.replicate (ntF b L m p).1 3 ++ P) d fl q.2))
  | m, j, p, X, P, S, 0, _, _, _, hf => by omega
  | m, j, p, X, P, S, f + 1, hj, h, hB, hf => by
    have hp := h.1.2.1
    unfold BN at hB
    rw [fX12_operand_18, h.good, bI_s, if_neg (by decide), if_neg (by decide), M_known hN h.1, bI_s]
    by_cases e : wdP b L p 3
    · have e11 := wI_11.mpr e
      rw [if_pos e11]
      have t := tto_le (b := b) hp
      have tf := tfr_le (b := b) hp
      have nz : ¬ tkd b L p = 0 := by rw [e.1]; decide
      have tl := t.2.2 nz
      cases m with
      | zero =>
        have ej : j = 6 := by omega
        subst ej
        rw [ntF, if_pos (show iN 6 = 6 from rfl), rn_bV]
        refine rn_mono (h.wrong (by decide) (by omega)) (fun T hT => ?_)
        obtain ⟨f', rfl⟩ : ∃ f', f = f' := ⟨f, rfl⟩
        rw [lt_b, hT.1.bad, bI_s, if_pos rfl, fX12_operand_18, hT.1.bad, bI_s, if_pos rfl, rn_some]
        exact ⟨hT.2, fun _ => hT.1.mono (by dsimp only; omega), fun g => absurd e g⟩
      | succ m =>
        have nj : ¬ iN j = 6 := by rw [show (6 : Int32) = iN 6 from rfl, iN_eq (by omega) (by omega)]; omega
        rw [if_neg nj, lt_b, iN_1, h.good, bI_s, if_neg (by decide), rn_bV]
        refine rn_mono (h.wait (by omega)) (fun U hU => ?_)
        rw [rn_bV]
        refine rn_mono (hU.1.go hN) (fun W hW => ?_)
        have ih := M_nots hN hL m (j + 1) (tto b L p) X (3 :: P) W f (by omega) hW.1 (by unfold BN; rw [List.length_cons]; omega) (by omega)
        rw [ntF_t e]
        refine rn_mono ih (fun q hq => ⟨(hU.2.tr hW.2).tr hq.1, hq.2.1, fun g => ?_⟩)
        have g2 := hq.2.2 g
        have er : ∀ c, List.replicate c (3 : Int32) ++ 3 :: P = List.replicate (c + 1) 3 ++ P := by
          intro c
          rw [List.replicate_succ', List.append_assoc]
          rfl
        rw [er] at g2
        exact g2
    · have n11 : ¬ wI b L p = 11 := fun q => e (wI_11.mp q)
      rw [if_neg n11, rn_some, ntF_f e]
      exact ⟨FXm.rfl, fun g => absurd g e, fun _ => h⟩
/-- what follows the nots -/
def aftX (N : Nat) (v1 : Int32) (n : Nat) (v2 : Int32) (S43 : PS) : Option (Int32 × Int32 × PS) :=
  bI (fX12_isGood N S43) fun x46 S47 =>
    (if x46 = 0 then
      (if (0 : Int32) = 0 then fX12_operand_4 N v1 n v2 0 S47
      else bV (fX12_waitsFor N 14 S47) fun S52 => bV (fX12_goes N S52) fun S55 => bV (fX12_deeper N S55) fun S58 => fX12_operand_4 N v1 n 1 0 S58)
    else
      bI (fX12_isSign N 40 S47) fun x60 S61 => lt ((if x60 = 0 then 0 else 1) : Int32) fun x64 =>
      (if x64 = 0 then fX12_operand_4 N v1 n v2 x64 S61
      else bV (fX12_waitsFor N 14 S61) fun S67 => bV (fX12_goes N S67) fun S70 => bV (fX12_deeper N S70) fun S73 => fX12_operand_4 N v1 n 1 x64 S73))
def AFp (N : Nat) (v1 : Int32) (k : Nat) (v2 : Int32) (n : Nat) (Post : PS → Prop) (S : PS) : Prop := rn (aftX N v1 k v2 S) (fun q => rn (fX12_part N q.2.2) (fun U => KXp N n Post U))
def OPp (N : Nat) (v1 : Int32) (k : Nat) (v2 : Int32) (n : Nat) (Post : PS → Prop) (S : PS) : Prop := rn (fX12_operand_4 N v1 k v2 1 S) (fun q => rn (fX12_part N q.2.2) (fun U => KXp N n Post U))
theorem OP_op {n : Nat} {Post : PS → Prop} {S : PS} (h : OPp N v1 N v1 n Post S) : rn (fX12_operand N v1 S) (fun U => KXp N n Post U) := by
  unfold fX12_operand
  rw [rn_bT]
  refine rn_mono h (fun q hq => ?_)
  rw [rn_lt, rn_lt, rn_lt, rn_bV]
  exact rn_mono hq (fun U hU => by rw [rn_some]; exact hU)
variable {p n k : Nat} {X P : List Int32} {S : PS} {v2 : Int32} {Post : PS → Prop}
/-- no nots are read -/
theorem OP_0 (hN : 30000 ≤ N) (hv : v2 = 0) (h : XM b L p X P d fl S) (fin : AFp N v1 k v2 n Post S) : OPp N v1 (k + 1) v2 n Post S := by
  obtain ⟨N', rfl⟩ : ∃ N', N = N' + 1 := ⟨N - 1, by omega⟩
  unfold OPp
  rw [fX12_operand_4, if_neg (by decide), h.good, bI_s, if_neg (by decide), fX12_operand_18, h.good, bI_s, if_neg (by decide), if_pos hv, rn_bT, rn_some]
  exact fin
/-- nots are read -/
theorem OP_1 (hN : 30000 ≤ N) (hL : L ≤ 700) (h : XM b L p X P d fl S) (hB : BN p X P)
    (fin : ∀ T, XM b L (ntF b L 6 p).2 X (List.replicate (ntF b L 6 p).1 3 ++ P) d fl T → ¬ wdP b L (ntF b L 6 p).2 3 → FXm S T → AFp N v1 (k + 1) 1 n Post T)
    (bad : wdP b L (ntF b L 6 p).2 3 → ∀ T, XMF b L 2 (iN (tfr b L (ntF b L 6 p).2)) (2 * (ntF b L 6 p).2) T → FXm S T → KXp N n Post T) : OPp N v1 (k + 2) 1 n Post S := by
  obtain ⟨N', hN'⟩ : ∃ N', N = N' + 1 := ⟨N - 1, by omega⟩
  unfold OPp
  rw [fX12_operand_4, if_neg (by decide), h.good, bI_s, if_neg (by decide), rn_bT]
  have e18 : fX12_operand_18 N v1 1 1 N 0 S = fX12_operand_18 N v1 1 1 (N' + 1) (iN 0) S := by
    conv => lhs; arg 5; rw [hN']
    rfl
  rw [e18]
  refine rn_mono (M_nots hN hL 6 0 p X P S N' (by omega) h hB (by omega)) (fun q hq => ?_)
  rw [rn_lt, rn_lt]
  by_cases e : wdP b L (ntF b L 6 p).2 3
  · have z := hq.2.1 e
    rw [z.bad, bI_s, if_pos rfl, if_pos rfl, fX12_operand_4, if_pos rfl, rn_some]
    unfold fX12_part
    rw [z.bad, bI_s, if_pos rfl, rn_some]
    exact bad e _ z hq.1
  · exact fin q.2 (hq.2.2 e) e hq.1
/-- behind the nots: not a bracket -/
theorem AF_part (h : XM b L p X P d fl S) (n40 : ¬ sgP b L p 40) (fin : rn (fX12_part N S) (fun U => KXp N n Post U)) : AFp N v1 (k + 1) v2 n Post S := by
  unfold AFp aftX
  rw [h.good, bI_s, if_neg (by decide), M_isSg h.1 (by decide), if_neg n40, bI_s, if_pos rfl, lt_b, if_pos rfl, fX12_operand_4, if_pos rfl, rn_some]
  exact fin
/-- behind the nots: a bracket -/
theorem AF_br (hN : 30000 ≤ N) (hd : d < 6) (h : XM b L p X P d fl S) (s40 : sgP b L p 40) (hP : P.length < 900) (fin : ∀ T, XM b L (tto b L p) X (14 :: P) (d + 1) (upd fl (d + 1) 0) T → FXm S T → OPp N v1 k 1 n Post T) : AFp N v1 k v2 n Post S := by
  unfold AFp aftX
  rw [h.good, bI_s, if_neg (by decide), M_isSg h.1 (by decide), if_pos s40, bI_s, if_neg (by decide), lt_b, if_neg (by decide), rn_bV]
  refine rn_mono (h.wait (by omega)) (fun U hU => ?_)
  rw [rn_bV]
  refine rn_mono (hU.1.go hN) (fun W hW => ?_)
  rw [rn_bV]
  exact rn_mono (hW.1.deep hd) (fun T hT => fin T hT.1 ((hU.2.tr hW.2).tr hT.2))
theorem AF_brF (hN : 30000 ≤ N) (hd : d = 6) (h : XM b L p X P d fl S) (s40 : sgP b L p 40) (hP : P.length < 900) (fin : ∀ T, XMF b L (dpF b L (tto b L p)) (iN (tfr b L (tto b L p))) (X.length + P.length + 1) T → FXm S T → KXp N n Post T) : AFp N v1 (k + 1) v2 n Post S := by
  unfold AFp aftX
  rw [h.good, bI_s, if_neg (by decide), M_isSg h.1 (by decide), if_pos s40, bI_s, if_neg (by decide), lt_b, if_neg (by decide), rn_bV]
  refine rn_mono (h.wait (by omega)) (fun U hU => ?_)
  rw [rn_bV]
  refine rn_mono (hU.1.go hN) (fun W hW => ?_)
  rw [rn_bV]
  refine rn_mono (hW.1.deepF hd (by rw [List.length_cons]; omega)) (fun T hT => ?_)
  rw [List.length_cons] at hT
  rw [fX12_operand_4, if_neg (by decide), hT.1.bad, bI_s, if_pos rfl, rn_some]
  unfold fX12_part
  rw [hT.1.bad, bI_s, if_pos rfl, rn_some]
  exact fin T hT.1 ((hU.2.tr hW.2).tr hT.2)
/-- two numbers into the code, and on -/
theorem M_put2 {x y : Int32} (hN : 30000 ≤ N) (hX : X.length + 2 ≤ 1400) (h : XM b L p X P d fl S) : rn (fX12_puts N x S) (fun U => rn (fX12_puts N y U) (fun W => (fX12_isGood N W = some (1, W)) ∧ rn (fX12_goes N W) (fun T => XM b L (tto b L p) (X ++ [x, y]) P d fl T ∧ FXm S T))) := by
  refine rn_mono (h.puts (by omega)) (fun U hU => ?_)
  refine rn_mono (hU.1.puts (by rw [List.length_append, List.length_singleton]; omega)) (fun W hW => ⟨hW.1.good, ?_⟩)
  refine rn_mono (hW.1.go hN) (fun T hT => ⟨?_, (hU.2.tr hW.2).tr hT.2⟩)
  have e := hT.1
  rw [List.append_assoc] at e
  exact e
theorem XMF.put2 {f pl x y : Int32} {z : Nat} (hz : z + 1 < 1400) (h : XMF b L f pl z S) : rn (fX12_puts N x S) (fun U => rn (fX12_puts N y U) (fun W => (fX12_isGood N W = some (0, W)) ∧ XMF b L f pl (z + 2) W ∧ FXm S W)) := by
  refine rn_mono (h.puts (by omega)) (fun U hU => ?_)
  exact rn_mono (hU.1.puts (by omega)) (fun W hW => ⟨hW.1.bad, hW.1, hU.2.2.tr hW.2.2⟩)
end OPD
