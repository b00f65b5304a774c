/-! ===== phase 2: the line of a cup, in the model ===== -/
section CPM
variable {N : Nat} {b : Nat → Int32} {L : Nat} {p : Nat} {V : Cv} {A : Rw} {X : List Int32} {S : PS}
theorem MT0.fr {T : PS} (h : MT0 b L p S) (e : T.1 80 = S.1 80) (e83 : T.1 83 = S.1 83) (e2 : T.2 = S.2) : MT0 b L p T := ⟨h.1.fr (fun j _ => by rw [e]) e83 (by rw [e2]), by rw [e]; exact h.2.1, by rw [e]; exact h.2.2⟩
theorem MF0.fr {f pl : Int32} {T : PS} (h : MF0 b L f pl S) (e : T.1 80 = S.1 80) (e83 : T.1 83 = S.1 83) (e2 : T.2 = S.2) : MF0 b L f pl T := by
  obtain ⟨⟨q, h1⟩, h2, h3, h4⟩ := h
  exact ⟨⟨q, h1.fr (fun j _ => by rw [e]) e83 (by rw [e2])⟩, by rw [e]; exact h2, h3, by rw [e]; exact h4⟩
/-- only rows that a line writes -/
def FRw (S T : PS) : Prop := (∀ a, ¬ (a = 85 ∨ a = 86 ∨ a = 90) → T.1 a = S.1 a) ∧ T.2 = S.2
theorem FRw.ua {a : Nat} {S T : PS} {r : Nat → Int32} (u : UR S T a r) (ha : a = 85 ∨ a = 86 ∨ a = 90) : FRw S T := ⟨fun c hc => u.2.1 c (fun e => hc (by rw [e]; exact ha)), u.2.2⟩
theorem FRw.tr {S T U : PS} (h : FRw S T) (h' : FRw T U) : FRw S U := ⟨fun a ha => (h'.1 a ha).trans (h.1 a ha), h'.2.trans h.2⟩
theorem FRw.md {S T : PS} (h : FRw S T) : FMd S T := ⟨fun a ha => h.1 a (fun e => ha (by unfold mdC; omega)), fun j _ => by rw [h.1 80 (by decide)], fun a k _ => by rw [h.2], by rw [h.2]⟩
theorem MT0.rw {T : PS} (h : MT0 b L p S) (f : FRw S T) : MT0 b L p T := h.fr (f.1 80 (by decide)) (f.1 83 (by decide)) f.2
theorem MF0.rw {g pl : Int32} {T : PS} (h : MF0 b L g pl S) (f : FRw S T) : MF0 b L g pl T := h.fr (f.1 80 (by decide)) (f.1 83 (by decide)) f.2
/-- the end of readsCup -/
theorem M_cupE {n : Nat} {x : Int32} {Z : PS → Prop} (hn : n < 9) (fin : ∀ T, FRw S T → T.1 85 = upd (S.1 85) n x → T.1 86 = upd (upd (S.1 86) (19 + n) (-1)) (28 + n) (-1) → T.1 90 = upd (S.1 90) n 0 → rn (bI (fX12_isGood N T) fun x24 S25 => (if x24 = 0 then some S25 else lt ((u2 S25.1 80 19 ((S25.1 80 19) + 1), S25.2) : PS) fun S28 => some S28)) Z) :
    rn (gd (inr (iN n) 9) <| lt ((u2 S.1 85 (ix (iN n)) x, S.2) : PS) fun S17 => gd (inr (19 + iN n) 64) <| lt ((u2 S17.1 86 (ix (19 + iN n)) (-1), S17.2) : PS) fun S19 => gd (inr (28 + iN n) 64) <| lt ((u2 S19.1 86 (ix (28 + iN n)) (-1), S19.2) : PS) fun S21 => gd (inr (iN n) 9) <| lt ((u2 S21.1 90 (ix (iN n)) 0, S21.2) : PS) fun S23 => bI (fX12_isGood N S23) fun x24 S25 => (if x24 = 0 then some S25 else lt ((u2 S25.1 80 19 ((S25.1 80 19) + 1), S25.2) : PS) fun S28 => some S28)) Z := by
  have i9 : inr (iN n) 9 := inr_iN hn (by omega)
  have x9 : ix (iN n) = n := ix_iN (by omega)
  have o1 : (19 : Int32) + iN n = iN (19 + n) := by rw [show (19 : Int32) = iN 19 from rfl, iN_add]
  have o2 : (28 : Int32) + iN n = iN (28 + n) := by rw [show (28 : Int32) = iN 28 from rfl, iN_add]
  rw [gd_t i9, x9]
  refine rn_u (fun U1 u1 => ?_)
  rw [o1, gd_t (inr_iN (by omega) (by omega)), ix_iN (by omega)]
  refine rn_u (fun U2 u2 => ?_)
  rw [o2, gd_t (inr_iN (by omega) (by omega)), ix_iN (by omega)]
  refine rn_u (fun U3 u3 => ?_)
  rw [gd_t i9]
  refine rn_u (fun U4 u4 => ?_)
  refine fin U4 ((((FRw.ua u1 (by omega)).tr (FRw.ua u2 (by omega))).tr (FRw.ua u3 (by omega))).tr (FRw.ua u4 (by omega))) ?_ ?_ ?_
  · rw [u4.2.1 85 (by decide), u3.2.1 85 (by decide), u2.2.1 85 (by decide), u1.1]
  · rw [u4.2.1 86 (by decide), u3.1, u2.1, u1.2.1 86 (by decide)]
  · rw [u4.1, u3.2.1 90 (by decide), u2.2.1 90 (by decide), u1.2.1 90 (by decide)]
theorem M_cupR (hN : 30000 ≤ N) (hn : V.1 < 9) (hX : X.length ≤ 2 * p) (h : MT0 b L p S) (hv : MVs V A X S) (hA : A 2 V.1 = -1 ∧ A 3 V.1 = -1) :
    rn (fX12_readsCup N S) (fun T => FMd S T ∧
      (¬ numOK b L p 1 30 → MF0 b L (numF b L p) (iN (tfr b L p)) T) ∧
      (numOK b L p 1 30 → ¬ numOK b L (tto b L p) 0 (tvl b L p - 1) → MF0 b L (numF b L (tto b L p)) (iN (tfr b L (tto b L p))) T) ∧
      (numOK b L p 1 30 → numOK b L (tto b L p) 0 (tvl b L p - 1) → ¬ numOK b L (tto b L (tto b L p)) 0 20 → MF0 b L (numF b L (tto b L (tto b L p))) (iN (tfr b L (tto b L (tto b L p)))) T) ∧
      (numOK b L p 1 30 → numOK b L (tto b L p) 0 (tvl b L p - 1) → numOK b L (tto b L (tto b L p)) 0 20 → MT0 b L (tto b L (tto b L (tto b L p))) T ∧ MVs (V.1 + 1, upd V.2.1 V.1 (tvl b L (tto b L (tto b L p))), V.2.2) (u2 (u2 A 0 V.1 (tvl b L p)) 1 V.1 (tvl b L (tto b L p))) X T)) := by
  have o1 : (1 : Int32) + iN V.1 = iN (1 + V.1) := by rw [show (1 : Int32) = iN 1 from rfl, iN_add]
  have o10 : (10 : Int32) + iN V.1 = iN (10 + V.1) := by rw [show (10 : Int32) = iN 10 from rfl, iN_add]
  have i1 : inr (iN (1 + V.1)) 64 := inr_iN (by omega) (by omega)
  have i10 : inr (iN (10 + V.1)) 64 := inr_iN (by omega) (by omega)
  have x1 : ix (iN (1 + V.1)) = 1 + V.1 := ix_iN (by omega)
  have x10 : ix (iN (10 + V.1)) = 10 + V.1 := ix_iN (by omega)
  unfold fX12_readsCup
  rw [hv.1, lt_b, rn_bI]
  refine rn_mono (h.num hN) (fun r1 h1 => ?_)
  rw [o1, gd_t i1, x1]
  refine rn_u (fun U1 u1 => ?_)
  have f1 := FRw.ua u1 (by omega)
  have e86 : U1.1 86 (1 + V.1) = r1.1 := by rw [u1.1, upd_at]
  rw [gd_t i1, e86, rn_bI]
  by_cases k1 : numOK b L p 1 30
  · obtain ⟨v1, t1⟩ := h1.2.1 k1
    rw [v1]
    refine rn_mono ((t1.rw f1).num hN) (fun r2 h2 => ?_)
    rw [o10, gd_t i10, x10]
    refine rn_u (fun U2 u2 => ?_)
    have f2 := FRw.ua u2 (by omega)
    rw [rn_bI]
    by_cases k2 : numOK b L (tto b L p) 0 (tvl b L p - 1)
    · obtain ⟨v2, t2⟩ := h2.2.1 k2
      refine rn_mono ((t2.rw f2).num hN) (fun r3 h3 => ?_)
      refine M_cupE hn (fun T f3 q85 q86 q90 => ?_)
      have Fall : FMd S r3.2 := ((((FMd.f89 h1.1).tr f1.md).tr (FMd.f89 h2.1)).tr f2.md).tr (FMd.f89 h3.1)
      by_cases k3 : numOK b L (tto b L (tto b L p)) 0 20
      · obtain ⟨v3, t3⟩ := h3.2.1 k3
        have tT := t3.rw f3
        have hv3 : MVs V A X r1.2 := hv.f89 h1.1
        rw [tT.good, bI_s, if_neg (by decide)]
        have e19 : T.1 80 19 = iN V.1 := by rw [f3.1 80 (by decide), h3.1.2.1 19 (by omega), f2.1 80 (by decide), h2.1.2.1 19 (by omega), f1.1 80 (by decide)]; exact hv3.1
        rw [e19, iN_1]
        refine rn_u (fun W w => ?_)
        rw [rn_some]
        have ew : ∀ j, j ≠ 19 → W.1 80 j = T.1 80 j := fun j hj => by rw [w.1, upd_o hj]
        have c80 : ∀ j, 20 ≤ j ∧ j ≤ 22 → W.1 80 j = r1.2.1 80 j := fun j hj => by rw [ew j (by omega), f3.1 80 (by decide), h3.1.2.1 j (by omega), f2.1 80 (by decide), h2.1.2.1 j (by omega), f1.1 80 (by decide)]
        have c87 : W.1 87 = r1.2.1 87 := by rw [w.2.1 87 (by decide), f3.1 87 (by decide), h3.1.1 87 (by decide), f2.1 87 (by decide), h2.1.1 87 (by decide), f1.1 87 (by decide)]
        have c85 : W.1 85 = upd (r1.2.1 85) V.1 (tvl b L (tto b L (tto b L p))) := by rw [w.2.1 85 (by decide), q85, h3.1.1 85 (by decide), u2.2.1 85 (by decide), h2.1.1 85 (by decide), u1.2.1 85 (by decide), v3]
        have c86 : W.1 86 = upd (upd (upd (upd (r1.2.1 86) (1 + V.1) (tvl b L p)) (10 + V.1) (tvl b L (tto b L p))) (19 + V.1) (-1)) (28 + V.1) (-1) := by
          rw [w.2.1 86 (by decide), q86, h3.1.1 86 (by decide), u2.1, h2.1.1 86 (by decide), u1.1, v1, v2]
        have c90 : W.1 90 = upd (r1.2.1 90) V.1 0 := by rw [w.2.1 90 (by decide), q90, h3.1.1 90 (by decide), u2.2.1 90 (by decide), h2.1.1 90 (by decide), u1.2.1 90 (by decide)]
        have o86 : ∀ j, j ≠ 1 + V.1 → j ≠ 10 + V.1 → j ≠ 19 + V.1 → j ≠ 28 + V.1 → W.1 86 j = r1.2.1 86 j := fun j a1 a2 a3 a4 => by rw [c86, upd_o a4, upd_o a3, upd_o a2, upd_o a1]
        obtain ⟨g1, g2, g3, g4, g5, g6, g7⟩ := hv3
        refine ⟨(Fall.tr f3.md).tr (FMd.u0 w (by omega)), fun g => absurd k1 g, fun _ g => absurd k2 g, fun _ _ g => absurd k3 g, fun _ _ _ => ⟨⟨tT.1.fr (fun j hj => ew j (by omega)) (w.2.1 83 (by decide)) (by rw [w.2.2]), by rw [ew 8 (by omega)]; exact tT.2.1, by rw [ew 9 (by omega)]; exact tT.2.2⟩, ⟨by rw [w.1, upd_at], fun k hk => ?_, ⟨by rw [o86 0 (by omega) (by omega) (by omega) (by omega)]; exact g3.1, fun k hk => ?_⟩, by rw [c80 22 (by omega)]; exact g4, by rw [c87]; exact g5, by rw [c80 20 (by omega)]; exact g6, by rw [c80 21 (by omega)]; exact g7⟩⟩⟩
        · by_cases ek : k = V.1
          · subst ek
            refine ⟨?_, ?_, ?_, ?_, ?_, ?_⟩
            · show W.1 85 V.1 = upd V.2.1 V.1 _ V.1
              rw [c85, upd_at, upd_at]
            · rw [c86, upd_o (by omega), upd_o (by omega), upd_o (by omega), upd_at, u2_a2, if_neg (by omega), u2_a2, if_pos ⟨rfl, rfl⟩]
            · rw [c86, upd_o (by omega), upd_o (by omega), upd_at, u2_a2, if_pos ⟨rfl, rfl⟩]
            · rw [c86, upd_o (by omega), upd_at, u2_a2, if_neg (by omega), u2_a2, if_neg (by omega)]
              exact hA.1.symm
            · rw [c86, upd_at, u2_a2, if_neg (by omega), u2_a2, if_neg (by omega)]
              exact hA.2.symm
            · rw [c90, upd_at, u2_a2, if_neg (by omega), u2_a2, if_neg (by omega)]
              exact ⟨fun _ => hA.1, fun _ => rfl⟩
          · have hk' : k < V.1 := by
              have : k < V.1 + 1 := hk
              omega
            obtain ⟨p1, p2, p3, p4, p5, p6⟩ := g2 k hk'
            refine ⟨?_, ?_, ?_, ?_, ?_, ?_⟩
            · show W.1 85 k = upd V.2.1 V.1 _ k
              rw [c85, upd_o ek, upd_o ek]
              exact p1
            · rw [o86 (1 + k) (by omega) (by omega) (by omega) (by omega), u2_a2, if_neg (by omega), u2_a2, if_neg (by omega)]
              exact p2
            · rw [o86 (10 + k) (by omega) (by omega) (by omega) (by omega), u2_a2, if_neg (by omega), u2_a2, if_neg (by omega)]
              exact p3
            · rw [o86 (19 + k) (by omega) (by omega) (by omega) (by omega), u2_a2, if_neg (by omega), u2_a2, if_neg (by omega)]
              exact p4
            · rw [o86 (28 + k) (by omega) (by omega) (by omega) (by omega), u2_a2, if_neg (by omega), u2_a2, if_neg (by omega)]
              exact p5
            · rw [c90, upd_o ek, u2_a2, if_neg (by omega), u2_a2, if_neg (by omega)]
              exact p6
        · obtain ⟨p1, p2, p3⟩ := g3.2 k hk
          rw [o86 (37 + k) (by omega) (by omega) (by omega) (by omega), o86 (46 + k) (by omega) (by omega) (by omega) (by omega), o86 (55 + k) (by omega) (by omega) (by omega) (by omega)]
          exact ⟨p1, p2, p3⟩
      · have t3 := h3.2.2 k3
        rw [(t3.rw f3).bad, bI_s, if_pos rfl, rn_some]
        exact ⟨Fall.tr f3.md, fun g => absurd k1 g, fun _ g => absurd k2 g, fun _ _ _ => t3.rw f3, fun _ _ g => absurd g k3⟩
    · have t2 := h2.2.2 k2
      rw [(t2.rw f2).num, rn_some]
      refine M_cupE hn (fun T f3 q85 q86 q90 => ?_)
      rw [((t2.rw f2).rw f3).bad, bI_s, if_pos rfl, rn_some]
      exact ⟨((((FMd.f89 h1.1).tr f1.md).tr (FMd.f89 h2.1)).tr f2.md).tr f3.md, fun g => absurd k1 g, fun _ _ => (t2.rw f2).rw f3, fun _ g => absurd g k2, fun _ g => absurd g k2⟩
  · have t1 := h1.2.2 k1
    rw [(t1.rw f1).num, rn_some, o10, gd_t i10, x10]
    refine rn_u (fun U2 u2 => ?_)
    have f2 := FRw.ua u2 (by omega)
    rw [rn_bI, ((t1.rw f1).rw f2).num, rn_some]
    refine M_cupE hn (fun T f3 q85 q86 q90 => ?_)
    rw [(((t1.rw f1).rw f2).rw f3).bad, bI_s, if_pos rfl, rn_some]
    exact ⟨(((FMd.f89 h1.1).tr f1.md).tr f2.md).tr f3.md, fun _ => ((t1.rw f1).rw f2).rw f3, fun g => absurd g k1, fun g => absurd g k1, fun g => absurd g k1⟩
end CPM
