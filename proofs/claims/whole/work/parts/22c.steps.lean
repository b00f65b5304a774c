/-! ===== phase 2: rules: steps of the model's loop ===== -/
def mcL : List Int32 → List Int32
  | [] => []
  | x :: r => (if x ≤ -7 then [mo x] else if x < 0 then [2, mv x] else [1, x]) ++ mcL r
theorem mcL_app : ∀ A B : List Int32, mcL (A ++ B) = mcL A ++ mcL B
  | [], B => by rw [mcL]; rfl
  | x :: A, B => by rw [List.cons_append, mcL, mcL, mcL_app A B, List.append_assoc]
section STE
variable {N : Nat} {b : Nat → Int32} {L : Nat} {p d : Nat} {X P : List Int32} {fl : Nat → Int32} {S : PS}
theorem mkd_12 (k : Nat) (hk : k = 1 ∨ k = 2) : mkd b L p = iN k ↔ tkd b L p = k := by
  have h3 := tkd_lt (b := b) (L := L) (p := p)
  unfold mkd
  by_cases e : tkd b L p = 3
  · rw [if_pos e]
    have a : sgK (b (tfr b L p)) = 3 ∨ sgK (b (tfr b L p)) = 4 := by
      unfold sgK
      repeat (first | (split; exact Or.inl rfl) | exact Or.inr rfl)
    refine ⟨fun q => ?_, fun q => by omega⟩
    rcases a with a | a <;> rcases hk with rfl | rfl <;> rw [a] at q <;> exact absurd q (by decide)
  · rw [if_neg e, iN_eq (by omega) (by omega)]
theorem XM.deep (hd : d < 6) (h : XM b L p X P d fl S) : rn (fX12_deeper N S) (fun T => XM b L p X P (d + 1) (upd fl (d + 1) 0) T ∧ FXm S T) := by
  obtain ⟨h1, h2, h3, h4, h5, h6, h7, h8, h9⟩ := h
  unfold fX12_deeper
  rw [h8, if_neg (by rw [show (6 : Int32) = iN 6 from rfl, iN_le (by omega) (by omega)]; omega), iN_1]
  refine rn_u (fun U u => ?_)
  have u24 : U.1 80 24 = iN (d + 1) := by rw [u.1, upd_at]
  rw [u24, gd_t (inr_iN (by omega) (by omega)), ix_iN (by omega)]
  refine rn_u (fun W w => ?_)
  have e : ∀ j, j ≠ 24 → W.1 80 j = S.1 80 j := fun j hj => by rw [w.2.1 80 (by decide), u.1, upd_o hj]
  have ea : ∀ a, a ≠ 80 → a ≠ 89 → W.1 a = S.1 a := fun a h1 h2 => (w.2.1 a h2).trans (u.2.1 a h1)
  rw [rn_some]
  refine ⟨⟨h1.fr (fun j hj => e j (by omega)) (ea 83 (by decide) (by decide)) (by rw [w.2.2, u.2.2]), ?_, ?_, ?_, ?_, ?_, ?_, ?_, fun j hj hj2 => ?_⟩, (FXm.u0 u (by omega)).tr (FXm.ua w (by omega))⟩
  · rw [e 8 (by omega)]; exact h2
  · rw [e 9 (by omega)]; exact h3
  · rw [e 22 (by omega)]; exact h4
  · rw [ea 87 (by decide) (by decide)]; exact h5
  · rw [e 23 (by omega)]; exact h6
  · rw [ea 88 (by decide) (by decide)]; exact h7
  · rw [w.2.1 80 (by decide)]; exact u24
  · rw [w.1]
    by_cases ej : j = d + 1
    · rw [ej, upd_at, upd_at]
    · rw [upd_o ej, upd_o ej, u.2.1 89 (by decide)]
      exact h9 j hj (by omega)
/-- too deep: what the fault is -/
def dpF (b : Nat → Int32) (L p : Nat) : Int32 := if tkd b L p = 2 ∨ tkd b L p = 1 ∨ sgP b L p 40 then 2 else 1
theorem dpF_0 : dpF b L p ≠ 0 := by
  unfold dpF
  split <;> decide
theorem XM.deepF (hd : d = 6) (hP : P.length ≤ 900) (h : XM b L p X P d fl S) : rn (fX12_deeper N S) (fun T => XMF b L (dpF b L p) (iN (tfr b L p)) (X.length + P.length) T ∧ FXm S T) := by
  have h' := h
  obtain ⟨h1, h2, h3, h4, h5, h6, h7, h8, h9⟩ := h'
  have k2 : mkd b L p = 2 ↔ tkd b L p = 2 := mkd_12 2 (Or.inr rfl)
  have k1 : mkd b L p = 1 ↔ tkd b L p = 1 := mkd_12 1 (Or.inl rfl)
  unfold fX12_deeper
  rw [h8, if_pos (by rw [hd]; exact Int32.le_refl _), h1.2.2.2.2.1]
  by_cases e2 : tkd b L p = 2
  · have ed : dpF b L p = 2 := if_pos (Or.inl e2)
    rw [if_pos (k2.mpr e2), rn_bV, ed]
    refine rn_mono (h.wrong (by decide) hP) (fun T hT => by rw [rn_some]; exact hT)
  · rw [if_neg (fun q => e2 (k2.mp q))]
    by_cases e1 : tkd b L p = 1
    · have ed : dpF b L p = 2 := if_pos (Or.inr (Or.inl e1))
      rw [if_pos (k1.mpr e1), rn_bV, ed]
      refine rn_mono (h.wrong (by decide) hP) (fun T hT => by rw [rn_some]; exact hT)
    · rw [if_neg (fun q => e1 (k1.mp q)), M_isSg h1 (by decide), bI_s]
      by_cases e4 : sgP b L p 40
      · have ed : dpF b L p = 2 := if_pos (Or.inr (Or.inr e4))
        rw [if_pos e4, lt_b, if_neg (by decide), rn_bV, ed]
        refine rn_mono (h.wrong (by decide) hP) (fun T hT => by rw [rn_some]; exact hT)
      · have ed : dpF b L p = 1 := if_neg (fun q => by rcases q with q | q | q; exact e2 q; exact e1 q; exact e4 q)
        rw [if_neg e4, lt_b, if_pos rfl, rn_bV, ed]
        refine rn_mono (h.wrong (by decide) hP) (fun T hT => by rw [rn_some]; exact hT)
/-- a bracket is open in the pile -/
def hasO : List Int32 → Prop
  | [] => False
  | x :: r => ¬ x < 14 ∨ hasO r
theorem M_op7 {S : PS} : ∀ (P : List Int32) (n : Nat), P.length ≤ 950 → SK (S.1 88) P → P.length < n → ∃ v, fX12_isOpened_7 N n (iN P.length - 1) S = some (v, S) ∧ ((hasO P → ¬ v < 0) ∧ (¬ hasO P → v < 0))
  | P, 0, _, _, hn => by omega
  | [], n + 1, hl, h, hn => by
    refine ⟨-1, ?_, fun q => q.elim, fun _ => by decide⟩
    rw [fX12_isOpened_7, show iN ([] : List Int32).length - 1 = -1 from rfl, if_pos (by decide)]
  | x :: P, n + 1, hl, h, hn => by
    rw [List.length_cons] at hl hn
    have h1 : S.1 88 P.length = x := h.1
    rw [List.length_cons, iN_s1, fX12_isOpened_7, if_neg (iN_pos (by omega)), gd_t (inr_iN (by omega) (by omega)), ix_iN (by omega), h1, M_open, bI_s]
    by_cases e : x < 14
    · rw [if_pos e, if_pos rfl, lt_b, show iN P.length + (-1) = iN P.length - 1 from (Int32.sub_eq_add_neg _ _).symm]
      obtain ⟨v, ev, a, c⟩ := M_op7 P n (by omega) h.2 (by omega)
      exact ⟨v, ev, fun q => a (q.resolve_left (fun g => g e)), fun q => c (fun g => q (Or.inr g))⟩
    · rw [if_neg e, if_neg (by decide)]
      exact ⟨iN P.length, rfl, fun _ => iN_pos (by omega), fun q => absurd (Or.inl e) q⟩
theorem M_opd (hN : 30000 ≤ N) (hl : P.length ≤ 950) (h : XM b L p X P d fl S) : ∃ v, fX12_isOpened N S = some (v, S) ∧ (hasO P → v = 1) ∧ (¬ hasO P → v = 0) := by
  obtain ⟨v, ev, a, c⟩ := M_op7 (N := N) P N hl h.2.2.2.2.2.2.1 (by omega)
  unfold fX12_isOpened
  rw [h.2.2.2.2.2.1, lt_b, ev]
  show ∃ u, (gd (b01 (if v < 0 then 0 else 1)) (some ((if v < 0 then (0 : Int32) else 1), S))) = some (u, S) ∧ _
  by_cases e : v < 0
  · rw [if_pos e, gd_t (Or.inl rfl)]
    exact ⟨0, rfl, fun q => absurd e (a q), fun _ => rfl⟩
  · rw [if_neg e, gd_t (Or.inr rfl)]
    exact ⟨1, rfl, fun _ => rfl, fun q => absurd (c q) e⟩
theorem XM.close {Q : List Int32} (hN : 30000 ≤ N) (hd : 1 ≤ d) (hQ : ∀ x, x ∈ Q → x < 14 ∧ ¬ stS x < 0) (hX : X.length + Q.length ≤ 1400) (hP : (Q ++ (14 :: P)).length ≤ 950) (h : XM b L p X (Q ++ (14 :: P)) d fl S) : rn (fX12_closes N S) (fun T => XM b L (tto b L p) (X ++ Q) P (d - 1) fl T ∧ FXm S T) := by
  unfold fX12_closes fX12_drops
  have hl : Q.length < N := by rw [List.length_append] at hP; omega
  rw [rn_bV, rn_bT]
  refine rn_mono (M_drops (P := 14 :: P) (v := 0) (Or.inl (by decide)) Q X N S hQ hX hP h hl) (fun U hU => ?_)
  rw [rn_some]
  obtain ⟨⟨h1, h2, h3, h4, h5, h6, h7, h8, h9⟩, FU⟩ := hU
  rw [List.length_cons] at h6
  rw [h6, iN_s1]
  refine rn_u (fun V v => ?_)
  have v24 : V.1 80 24 = iN ((d - 1) + 1) := by rw [v.1, upd_o (by decide), show d - 1 + 1 = d from by omega]; exact h8
  rw [v24, iN_s1]
  refine rn_u (fun W w => ?_)
  have e : ∀ j, j ≠ 23 → j ≠ 24 → W.1 80 j = U.1 80 j := fun j a c => by rw [w.1, upd_o c, v.1, upd_o a]
  have ea : ∀ a, a ≠ 80 → W.1 a = U.1 a := fun a h1 => (w.2.1 a h1).trans (v.2.1 a h1)
  have hW : XM b L p (X ++ Q) P (d - 1) fl W := by
    refine ⟨h1.fr (fun j hj => e j (by omega) (by omega)) (ea 83 (by decide)) (by rw [w.2.2, v.2.2]), ?_, ?_, ?_, ?_, ?_, ?_, ?_, fun j hj hj2 => ?_⟩
    · rw [e 8 (by omega) (by omega)]; exact h2
    · rw [e 9 (by omega) (by omega)]; exact h3
    · rw [e 22 (by omega) (by omega)]; exact h4
    · rw [ea 87 (by decide)]; exact h5
    · rw [w.1, upd_o (by decide), v.1, upd_at]
    · rw [ea 88 (by decide)]; exact h7.2
    · rw [w.1, upd_at]
    · rw [ea 89 (by decide)]; exact h9 j hj (by omega)
  rw [rn_bV]
  refine rn_mono (hW.go hN) (fun T hT => ?_)
  rw [rn_some]
  exact ⟨hT.1, ((FU.tr (FXm.u0 v (by omega))).tr (FXm.u0 w (by omega))).tr hT.2⟩
/-- a flag set -/
theorem XM.flag {x : Int32} (hd : d ≤ 6) (h : XM b L p X P d fl S) {T : PS} (u : UR S T 89 (upd (S.1 89) d x)) : XM b L p X P d (upd fl d x) T := by
  obtain ⟨h1, h2, h3, h4, h5, h6, h7, h8, h9⟩ := h
  refine ⟨h1.fr (fun j _ => by rw [u.2.1 80 (by decide)]) (u.2.1 83 (by decide)) (by rw [u.2.2]), ?_, ?_, ?_, ?_, ?_, ?_, ?_, fun j hj hj2 => ?_⟩
  · rw [u.2.1 80 (by decide)]; exact h2
  · rw [u.2.1 80 (by decide)]; exact h3
  · rw [u.2.1 80 (by decide)]; exact h4
  · rw [u.2.1 87 (by decide)]; exact h5
  · rw [u.2.1 80 (by decide)]; exact h6
  · rw [u.2.1 88 (by decide)]; exact h7
  · rw [u.2.1 80 (by decide)]; exact h8
  · rw [u.1]
    by_cases ej : j = d
    · rw [ej, upd_at, upd_at]
    · rw [upd_o ej, upd_o ej]; exact h9 j hj hj2
/-- what follows the loop -/
def restX (N : Nat) (S396 : PS) : Option PS :=
  bI (fX12_isGood N S396) fun x399 S400 =>
    (if x399 = 0 then
      bV (fX12_drops N 0 S400) fun S404 => bV (fX12_puts N 0 S404) fun S407 => some S407
    else
      (if (S400.1 80 24) ≤ 1 then
        bV (fX12_drops N 0 S400) fun S411 => bV (fX12_puts N 0 S411) fun S414 => some S414
      else
        bV (fX12_wrong N 1 S400) fun S417 => bV (fX12_drops N 0 S417) fun S420 => bV (fX12_puts N 0 S420) fun S423 => some S423))
def KXp (N n : Nat) (Post : PS → Prop) (U : PS) : Prop := rn (fX12_expression_29 N n 1 U) (fun q => rn (restX N q.2) Post)
theorem XMF.pile {f pl : Int32} {z : Nat} (h : XMF b L f pl z S) (hz : z ≤ 1399) (hN : 30000 ≤ N) {Post : PS → Prop} (fin : ∀ T, XMF b L f pl (z + 1) T → FXm S T → Post T) : rn (bV (fX12_drops N 0 S) fun S404 => bV (fX12_puts N 0 S404) fun S407 => some S407) Post := by
  obtain ⟨-, -, -, -, -, k, -, hk, -, hk2⟩ := id h
  unfold fX12_drops
  rw [rn_bV, rn_bT]
  refine rn_mono (XMF.drops (N := N) (v := 0) (by omega) N k S h hk hk2 (by omega)) (fun T hT => ?_)
  rw [rn_some, rn_bV]
  refine rn_mono (hT.1.puts (by omega)) (fun U hU => ?_)
  rw [rn_some]
  exact fin U hU.1 (hT.2.tr hU.2.2)
theorem KX_bad {n : Nat} {f pl : Int32} {z : Nat} (hN : 30000 ≤ N) (h : XMF b L f pl z S) (hz : z ≤ 1399) {Post : PS → Prop} (fin : ∀ T, XMF b L f pl (z + 1) T → FXm S T → Post T) : KXp N (n + 1) Post S := by
  unfold KXp
  rw [fX12_expression_29, if_neg (by decide), h.bad, bI_s, if_pos rfl, rn_some]
  unfold restX
  rw [h.bad, bI_s, if_pos rfl]
  exact h.pile hz hN fin
end STE
