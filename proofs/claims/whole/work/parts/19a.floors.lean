/-! ===== phase 2: floors within floors, in the class ===== -/
def tmS (A : Rw) (x : Nat) (i : Int32) : Int32 := (A 1 x + i) / A 0 x
def f1S (A : Rw) (x : Nat) (t : Int32) : Int32 := if A 3 x = -1 then t else (t + (1 - A 6 x)) / 2
def gvS (A : Rw) (x y : Nat) (t : Int32) : Int32 := if A 2 x = iN y then f1S A x t else if A 3 x = iN y then t - f1S A x t else 0
def bsS (sp : Nat → Int32) (A : Rw) (h : Int32) (y : Nat) : Int32 := if A 5 y = 1 then 0 else sp y * h
def flF (sp : Nat → Int32) (A : Rw) (h : Int32) : Nat → Nat → Int32
  | 0, _ => 0
  | k + 1, y => bsS sp A h y + sumS (fun x => gvS A x y (tmS A x (flF sp A h k x))) y
theorem flF_s {sp : Nat → Int32} {A : Rw} {h : Int32} {k y : Nat} : flF sp A h (k + 1) y = bsS sp A h y + sumS (fun x => gvS A x y (tmS A x (flF sp A h k x))) y := by rw [flF]
theorem flF_st {sp : Nat → Int32} {A : Rw} {h : Int32} : ∀ k m y, y < k → y < m → flF sp A h k y = flF sp A h m y
  | 0, m, y, h, _ => by omega
  | k + 1, 0, y, _, h => by omega
  | k + 1, m + 1, y, h1, h2 => by
    rw [flF_s, flF_s]
    refine add_cg (sumS_cg y (fun x hx => ?_))
    rw [flF_st k m x (by omega) (by omega)]
/-- how many drops come into y, how often it tips -/
def flS (sp : Nat → Int32) (A : Rw) (h : Int32) (y : Nat) : Int32 := flF sp A h 9 y
def tiS (sp : Nat → Int32) (A : Rw) (h : Int32) (y : Nat) : Int32 := tmS A y (flS sp A h y)
theorem flS_e {sp : Nat → Int32} {A : Rw} {h : Int32} {y : Nat} (hy : y < 9) : flS sp A h y = bsS sp A h y + sumS (fun x => gvS A x y (tiS sp A h x)) y := by
  unfold tiS flS
  rw [flF_s]
  refine add_cg (sumS_cg y (fun x hx => ?_))
  rw [flF_st 8 9 x (by omega) (by omega)]
theorem gv_2 {n x y : Nat} {A : Rw} {t : Int32} (hw : WF n A) (hx : x < 9) (hy : y < 9) : gvS A x y t = (if A 2 x = iN y then f1S A x t else 0) + (if A 3 x = iN y then t - f1S A x t else 0) := by
  unfold gvS
  by_cases e : A 2 x = iN y
  · rw [if_pos e, if_pos e, if_neg, Int32.add_zero]
    intro e3
    rcases (hw.2 x hx).2.2.2.1 with q | ⟨d, q, -, -, q2, -⟩
    · rw [q] at e3; exact iN_n1 (by omega) e3.symm
    · exact q2 (e.trans e3.symm)
  · rw [if_neg e, if_neg e, Int32.zero_add]
theorem gv_lo {n x y : Nat} {A : Rw} {t : Int32} (hw : WF n A) (hx : x < 9) (hy : y ≤ x) : gvS A x y t = 0 := by
  have h := bl_lo hw hx (show y < 9 by omega) hy
  unfold blS at h
  unfold gvS
  by_cases q : A 2 x = iN y ∨ A 3 x = iN y
  · rw [if_pos q] at h; exact absurd h (by decide)
  · rw [if_neg (fun e => q (Or.inl e)), if_neg (fun e => q (Or.inr e))]
theorem ur_mk {T : PS} {a k : Nat} {x : Int32} : UR T (u2 T.1 a k x, T.2) a (upd (T.1 a) k x) := by
  refine ⟨?_, ?_, rfl⟩
  · exact u2_at
  · intro b hb
    exact u2_o hb
section FLC
variable {N n c p : Nat} {lk fr : Option (List Int32)} {sp : Nat → Int32} {A : Rw} {S : PS} {h : Int32}
theorem C_gvD {v a : Int32} (hv : v = -1 ∨ ∃ d, v = iN d ∧ d < 9) : rn (fX4_give N v a S) (fun W => (∀ y, y < 9 → W.1 29 y = S.1 29 y + (if v = iN y then a else 0)) ∧ FC (fun a => a = 29) S W) := by
  unfold fX4_give
  rcases hv with e | ⟨d, e, hd⟩
  · rw [e, if_pos (by decide), rn_some]
    refine ⟨fun y hy => ?_, FC.rfl⟩
    rw [if_neg (fun q => iN_n1 (show y < 2147483648 by omega) q.symm), Int32.add_zero]
  · have id : inr (iN d) 9 := inr_iN hd (by omega)
    have xd : ix (iN d) = d := ix_iN (by omega)
    rw [e, if_neg (iN_pos (by omega)), if_neg (by rw [i9l (by omega)]; omega), gd_t id, gd_t id, xd]
    refine rn_u (fun T u => ?_)
    rw [rn_some]
    refine ⟨fun y hy => ?_, FC.rfl.ur u rfl⟩
    rw [u.1]
    by_cases ey : y = d
    · rw [ey, upd_at, if_pos rfl]
    · rw [upd_o ey, if_neg (by rw [iN_eq (by omega) (by omega)]; omega), Int32.add_zero]
theorem C_toFirst {t : Int32} (hc : c < 9) (hcu : CU 18 A S) : fX2_dropsIntoFirst N 18 (iN c) t S = some (f1S A c t, S) := by
  have i9 : inr (iN c) 9 := inr_iN hc (by omega)
  have x9 : ix (iN c) = c := ix_iN (by omega)
  unfold fX2_dropsIntoFirst f1S
  rw [gd_t is18.ob, gd_t (is18.ar (k := 3) (by omega)), gd_t i9, x9, hcu.1 3 (by omega) c hc]
  by_cases e : A 3 c = -1
  · rw [if_pos e, if_pos e]
  · rw [if_neg e, if_neg e, gd_t is18.ob, lt_b, bt_has hcu.2.2.2 hc]
theorem C_reckon (hN : 30000 ≤ N) (hw : WF n A) (hp : CE p n lk fr sp S) (hcu : CU 18 A S) : rn (fX4_reckon N p 18 h S) (fun U => (∀ y, y < n → U.1 29 y = flS sp A h y ∧ U.1 30 y = tiS sp A h y) ∧ FC (fun a => a = 29 ∨ a = 30) S U) := by
  have hn := hw.1
  have po := p_ob hp.1
  unfold fX4_reckon
  rw [rn_bV]
  refine rn_mono (C_fill (m := 9) hN ⟨rfl, by decide⟩ (by omega)) (fun S1 h1 => ?_)
  rw [rn_bV]
  refine rn_mono (C_fill (m := 9) hN ⟨rfl, by decide⟩ (by omega)) (fun S2 h2 => ?_)
  have F2 : FC (fun a => a = 29 ∨ a = 30) S S2 := (h1.2.2.mono (fun a ha => Or.inl ha)).tr (h2.2.2.mono (fun a ha => Or.inr ha))
  have z29 : ∀ y, y < 9 → S2.1 29 y = 0 := fun y hy => by rw [h2.2.2.1 29 (by decide)]; exact h1.1 y hy
  clear h1 h2
  rw [rn_bT]
  refine forG (f := fun m j s => fX4_reckon_19 N p 18 h m (iN j) s) n (J := fun j U => (∀ y, y < 9 → U.1 29 y = if y < j then flS sp A h y else sumS (fun x => gvS A x y (tiS sp A h x)) j) ∧ (∀ y, y < j → U.1 30 y = tiS sp A h y) ∧ FC (fun a => a = 29 ∨ a = 30) S U) ?_ ?_ N 0 S2 (by omega) ⟨fun y hy => by rw [if_neg (by omega), sumS]; exact z29 y hy, fun y hy => by omega, F2⟩ (by omega)
  · rintro m U ⟨g1, g2, g3⟩
    have e4 : U.1 p 4 = iN n := by rw [g3.1 p (by rcases hp.1 with e | e <;> omega)]; exact hp.2.2.1
    simp only [fX4_reckon_19]
    rw [gd_t po.1, e4, if_pos (Int32.le_refl _), rn_some, rn_lt, rn_lt, rn_some]
    refine ⟨fun y hy => ⟨?_, g2 y hy⟩, g3⟩
    have := g1 y (by omega)
    rw [if_pos hy] at this
    exact this
  · rintro m j U hj ⟨g1, g2, g3⟩ ih
    have pr : p = 12 ∨ p = 13 := hp.1
    have hj9 : j < 9 := by omega
    have e4 : U.1 p 4 = iN n := by rw [g3.1 p (by omega)]; exact hp.2.2.1
    have cuF : ∀ W, FC (fun a => a = 29 ∨ a = 30) S W → CU 18 A W := fun W F => hcu.fr is18 F.1 (fun a ha => by unfold cuC at ha; omega)
    have hsp : ∀ W, FC (fun a => a = 29 ∨ a = 30) S W → W.1 (sr p 0) j = sp j := fun W F => by
      rw [F.1 (sr p 0) (by rcases pr with e | e <;> rw [e] <;> decide)]; exact hp.2.2.2.1 j hj9
    have ij : inr (iN j) 9 := inr_iN hj9 (by omega)
    have xj : ix (iN j) = j := ix_iN (by omega)
    have wj := hw.2 j hj9
    have a0 : ¬ A 0 j = 0 := fun e => by have := wj.1.1; rw [e] at this; exact absurd this (by decide)
    have mx : (if (1 : Int32) < A 0 j then A 0 j else 1) = A 0 j := by
      by_cases e : (1 : Int32) < A 0 j
      · rw [if_pos e]
      · rw [if_neg e]
        have h1 := wj.1.1
        rw [lt_ti, o_ti] at e
        exact Int32.toInt_inj.mp (by rw [o_ti]; omega)
    have a9 : ∀ k, k < 6 → arr (sr 18 k) 1 9 := fun k hk => is18.ar hk
    have rest : ∀ W : PS, (∀ y, y < 9 → W.1 29 y = if y < j + 1 then flS sp A h y else sumS (fun x => gvS A x y (tiS sp A h x)) j) → (∀ y, y < j → W.1 30 y = tiS sp A h y) → FC (fun a => a = 29 ∨ a = 30) S W →
        rn (gd (obj 18 2) <| gd (arr (sr 18 1) 1 9) <| gd (inr (iN j) 9) <| gd (inr (iN j) 9) <| gd (obj 18 2) <| gd (arr (sr 18 0) 1 9) <| gd (inr (iN j) 9) <|
          lt ((if (1 : Int32) < (W.1 (sr 18 0) (ix (iN j))) then (W.1 (sr 18 0) (ix (iN j))) else 1) : Int32) fun x57 =>
          gd (¬ x57 = 0) <| gd (inr (iN j) 9) <|
          lt ((u2 W.1 30 (ix (iN j)) (((W.1 (sr 18 1) (ix (iN j))) + (W.1 29 (ix (iN j)))) / x57), W.2) : PS) fun S60 =>
          gd (inr (iN j) 9) <| gd (obj 18 2) <|
          bI (fX2_dropsIntoFirst N 18 (iN j) (S60.1 30 (ix (iN j))) S60) fun x62 S63 =>
          gd (obj 18 2) <| gd (arr (sr 18 2) 1 9) <| gd (inr (iN j) 9) <|
          bV (fX4_give N (S63.1 (sr 18 2) (ix (iN j))) x62 S63) fun S70 =>
          gd (obj 18 2) <| gd (arr (sr 18 3) 1 9) <| gd (inr (iN j) 9) <| gd (inr (iN j) 9) <|
          bV (fX4_give N (S70.1 (sr 18 3) (ix (iN j))) ((S70.1 30 (ix (iN j))) - x62) S70) fun S77 =>
          lt (iN j + 1 : Int32) fun x79 =>
          fX4_reckon_19 N p 18 h m x79 S77) (fun q => rn (lt (q.1 : Int32) fun _ => lt (q.2 : PS) fun S82 => some S82) (fun U => (∀ y, y < n → U.1 29 y = flS sp A h y ∧ U.1 30 y = tiS sp A h y) ∧ FC (fun a => a = 29 ∨ a = 30) S U)) := by
      intro W w1 w2 w3
      have cW := cuF W w3
      have e0 : W.1 (sr 18 0) j = A 0 j := cW.1 0 (by omega) j hj9
      have e1 : W.1 (sr 18 1) j = A 1 j := cW.1 1 (by omega) j hj9
      have e29 : W.1 29 j = flS sp A h j := by rw [w1 j hj9, if_pos (by omega)]
      rw [gd_t is18.ob, gd_t (a9 1 (by omega)), gd_t ij, gd_t ij, gd_t is18.ob, gd_t (a9 0 (by omega)), gd_t ij, xj, e0, mx, lt_b, gd_t a0, gd_t ij, e1, e29]
      refine rn_u (fun T u => ?_)
      have FT : FC (fun a => a = 29 ∨ a = 30) S T := w3.ur u (Or.inr rfl)
      have t30 : T.1 30 j = tiS sp A h j := by rw [u.1, upd_at]; rfl
      have cT := cuF T FT
      rw [gd_t ij, gd_t is18.ob, t30, C_toFirst hj9 cT, bI_s, gd_t is18.ob, gd_t (a9 2 (by omega)), gd_t ij, cT.1 2 (by omega) j hj9, rn_bV]
      refine rn_mono (C_gvD (by
        rcases wj.2.2.1 with e | ⟨d, e, -, q⟩
        · exact Or.inl e
        · exact Or.inr ⟨d, e, by omega⟩)) (fun U1 v1 => ?_)
      have FU1 := FT.tr (v1.2.mono (fun a ha => Or.inl ha))
      have cU1 := cuF U1 FU1
      have u30 : U1.1 30 = T.1 30 := v1.2.1 30 (by decide)
      rw [gd_t is18.ob, gd_t (a9 3 (by omega)), gd_t ij, gd_t ij, cU1.1 3 (by omega) j hj9, u30, t30, rn_bV]
      refine rn_mono (C_gvD (by
        rcases wj.2.2.2.1 with e | ⟨d, e, -, q, -⟩
        · exact Or.inl e
        · exact Or.inr ⟨d, e, by omega⟩)) (fun U2 v2 => ?_)
      have FU2 := FU1.tr (v2.2.mono (fun a ha => Or.inl ha))
      rw [rn_lt, iN_1]
      refine ih U2 ⟨fun y hy => ?_, fun y hy => ?_, FU2⟩
      · rw [v2.1 y hy, v1.1 y hy, u.2.1 29 (by decide), w1 y hy, Int32.add_assoc, ← gv_2 hw hj9 hy]
        by_cases ey : y < j + 1
        · rw [if_pos ey, if_pos ey, gv_lo hw hj9 (by omega), Int32.add_zero]
        · rw [if_neg ey, if_neg ey, sumS_s]
      · rw [v2.2.1 30 (by decide), u30, u.1]
        by_cases ey : y = j
        · rw [ey, upd_at]; rfl
        · rw [upd_o ey]; exact w2 y (by omega)
    simp only [fX4_reckon_19]
    rw [gd_t po.1, e4, if_neg (by rw [iN_le (by omega) (by omega)]; omega), gd_t is18.ob, plug_bt is18 (cuF U g3) hj9, bI_s]
    have gj : U.1 29 j = sumS (fun x => gvS A x j (tiS sp A h x)) j := by rw [g1 j hj9, if_neg (by omega)]
    rcases wj.2.2.2.2.2.1 with e5 | e5
    · rw [if_pos e5, gd_t ij, gd_t po.1, gd_t po.2.1, gd_t ij, gd_t ij]
      refine rn_l (fun W eW => ?_)
      have hu : UR U W 29 (upd (U.1 29) j (U.1 29 j + sp j * h)) := by
        rw [eW, xj, hsp U g3]
        exact ur_mk
      refine rest W (fun y hy => ?_) (fun y hy => ?_) (g3.ur hu (Or.inl rfl))
      · rw [hu.1]
        by_cases ey : y = j
        · rw [ey, upd_at, if_pos (by omega), gj, flS_e hj9, Int32.add_comm]
          unfold bsS
          rw [if_neg (by rw [e5]; decide)]
        · rw [upd_o ey, g1 y hy]
          by_cases el : y < j
          · rw [if_pos el, if_pos (by omega)]
          · rw [if_neg el, if_neg (by omega)]
      · rw [hu.2.1 30 (by decide)]; exact g2 y hy
    · rw [if_neg (by rw [e5]; decide)]
      refine rest U (fun y hy => ?_) g2 g3
      by_cases ey : y = j
      · rw [ey, if_pos (by omega), gj, flS_e hj9]
        unfold bsS
        rw [if_pos e5, Int32.zero_add]
      · rw [g1 y hy]
        by_cases el : y < j
        · rw [if_pos el, if_pos (by omega)]
        · rw [if_neg el, if_neg (by omega)]
end FLC
