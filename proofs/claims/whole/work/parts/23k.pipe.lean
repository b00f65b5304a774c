/-! ===== phase 2: the line of a pipe: a cup that is told ===== -/
abbrev cuOK (b : Nat → Int32) (L q n : Nat) : Prop := tkd b L q = 2 ∧ tto b L q - tfr b L q ≤ 4 ∧ tvl b L q < iN n
def cuF (b : Nat → Int32) (L q : Nat) : Int32 := if tkd b L q = 2 then (if tto b L q - tfr b L q ≤ 4 then 3 else 2) else 1
section PIP
variable {N : Nat} {b : Nat → Int32} {L : Nat} {q c : Nat} {V : Cv} {A : Rw} {X : List Int32} {S : PS}
theorem cuF_0 : cuF b L q ≠ 0 := by
  unfold cuF
  split
  · split <;> decide
  · decide
theorem C_lookC (h : TC b L q S) (hv : CVs c V A S) : rn (fX7_lookAtCup N S) (fun r => F12 S r.2 ∧ (cuOK b L q V.1 → r.1 = tvl b L q ∧ r.2 = S) ∧ (¬ cuOK b L q V.1 → r.1 = -1 ∧ TF (cuF b L q) (iN (tfr b L q)) r.2)) := by
  have hk := tkd_lt (b := b) (L := L) (p := q)
  have bad : ∀ f, f = cuF b L q → ¬ cuOK b L q V.1 → rn (bI (fX7_fail N f S) fun x12 S13 => some (x12, S13)) (fun r => F12 S r.2 ∧ (cuOK b L q V.1 → r.1 = tvl b L q ∧ r.2 = S) ∧ (¬ cuOK b L q V.1 → r.1 = -1 ∧ TF (cuF b L q) (iN (tfr b L q)) r.2)) := by
    intro f hf no
    rw [hf, rn_bI]
    exact rn_mono (h.fail cuF_0) (fun r hr => by rw [rn_some]; exact ⟨hr.2.2.2, fun g => absurd g no, fun _ => ⟨hr.1, hr.2.1⟩⟩)
  unfold fX7_lookAtCup
  rw [h.1.2.2.2.2.1]
  by_cases k2 : tkd b L q = 2
  · rw [if_pos (by rw [k2]; rfl), C_lng h.1, bI_s]
    by_cases e4 : tto b L q - tfr b L q ≤ 4
    · rw [if_pos e4, if_pos rfl, hv.2.1, lt_b, gd_t (cvR hv.1).1, hv.2.2.1, h.1.2.2.2.2.2 k2]
      by_cases el : iN V.1 ≤ tvl b L q
      · rw [if_pos el]
        exact bad 3 (by unfold cuF; rw [if_pos k2, if_pos e4]) (fun g => absurd g.2.2 (Int32.not_lt.mpr el))
      · rw [if_neg el, rn_some]
        exact ⟨F12.rfl, fun _ => ⟨rfl, rfl⟩, fun g => absurd ⟨k2, e4, Int32.not_le.mp el⟩ g⟩
    · rw [if_neg e4, if_neg (by decide)]
      exact bad 2 (by unfold cuF; rw [if_pos k2, if_neg e4]) (fun g => e4 g.2.1)
  · rw [if_neg (by rw [show (2 : Int32) = iN 2 from rfl, iN_eq (by omega) (by omega)]; exact k2)]
    exact bad 1 (by unfold cuF; rw [if_neg k2]) (fun g => k2 g.1)
theorem M_here (h : MT0 b L q S) (hv : S.1 80 19 = iN V.1) : rn (fX12_isCupHere N S) (fun r => F89 S r.2 ∧ (cuOK b L q V.1 → r.1 = 1 ∧ r.2 = S) ∧ (¬ cuOK b L q V.1 → r.1 = 0 ∧ MF0 b L (cuF b L q) (iN (tfr b L q)) r.2)) := by
  have hp := h.1.2.1
  have hL := h.1.1.1
  have t := tto_le (b := b) hp
  have k13 : S.1 80 13 = 2 ↔ tkd b L q = 2 := by rw [h.1.2.2.2.2.1]; exact mkd_12 2 (Or.inr rfl)
  have bad : ∀ f, f = cuF b L q → ¬ cuOK b L q V.1 → rn (bV (fX12_wrong N f S) fun S13 => bI (fX12_isGood N S13) fun x15 S16 => gd (b01 x15) <| some (x15, S16)) (fun r => F89 S r.2 ∧ (cuOK b L q V.1 → r.1 = 1 ∧ r.2 = S) ∧ (¬ cuOK b L q V.1 → r.1 = 0 ∧ MF0 b L (cuF b L q) (iN (tfr b L q)) r.2)) := by
    intro f hf no
    rw [hf, rn_bV]
    refine rn_mono (h.wrong cuF_0) (fun T hT => ?_)
    rw [hT.1.bad, bI_s, gd_t (Or.inl rfl), rn_some]
    exact ⟨hT.2, fun g => absurd g no, fun _ => ⟨rfl, hT.1⟩⟩
  unfold fX12_isCupHere
  rw [h.good, bI_s, if_neg (by decide)]
  by_cases k2 : tkd b L q = 2
  · rw [if_pos (k13.mpr k2), h.1.2.2.2.2.2.2.1]
    by_cases e4 : tto b L q - tfr b L q ≤ 4
    · rw [if_pos (by rw [show (4 : Int32) = iN 4 from rfl, iN_le (by omega) (by omega)]; exact e4), h.1.2.2.2.2.2.1 k2, hv]
      by_cases el : tvl b L q < iN V.1
      · rw [if_pos el, h.good, bI_s, gd_t (Or.inr rfl), rn_some]
        exact ⟨F89.rfl, fun _ => ⟨rfl, rfl⟩, fun g => absurd ⟨k2, e4, el⟩ g⟩
      · rw [if_neg el]
        exact bad 3 (by unfold cuF; rw [if_pos k2, if_pos e4]) (fun g => el g.2.2)
    · rw [if_neg (by rw [show (4 : Int32) = iN 4 from rfl, iN_le (by omega) (by omega)]; exact e4)]
      exact bad 2 (by unfold cuF; rw [if_pos k2, if_neg e4]) (fun g => e4 g.2.1)
  · rw [if_neg (fun g => k2 (k13.mp g))]
    exact bad 1 (by unfold cuF; rw [if_neg k2]) (fun g => k2 g.1)
theorem cu_n (hq : q ≤ L) (hn : V.1 ≤ 9) (h : cuOK b L q V.1) : ∃ d, d < V.1 ∧ tvl b L q = iN d := by
  have r := tvl_r hq h.1 h.2.1
  have l := h.2.2
  rw [lt_ti, iN_ti (by omega)] at l
  refine ⟨ix (tvl b L q), ?_, iN_of r.1⟩
  have e : ((ix (tvl b L q) : Nat) : Int) = (tvl b L q).toInt := Int.toNat_of_nonneg r.1
  omega
/-- how the line of a pipe ends -/
def pipE (b : Nat → Int32) (L q3 d0 : Nat) (V : Cv) (A : Rw) (x y : Int32) : Out := if sgP b L q3 59 then .inl (tto b L q3, V, u2 (u2 A 2 d0 x) 3 d0 y) else .inr (1, iN (tfr b L q3))
def pip2 (b : Nat → Int32) (L q2 d0 : Nat) (V : Cv) (A : Rw) (x : Int32) : Out :=
  if tkd b L q2 = 2 then (if cuOK b L q2 V.1 then (if tvl b L q2 ≤ iN d0 ∨ tvl b L q2 = x then .inr (4, iN (tfr b L q2)) else pipE b L (tto b L q2) d0 V A x (tvl b L q2)) else .inr (cuF b L q2, iN (tfr b L q2))) else pipE b L q2 d0 V A x (-1)
def pip1 (b : Nat → Int32) (L q1 d0 : Nat) (V : Cv) (A : Rw) : Out :=
  if cuOK b L q1 V.1 then (if tvl b L q1 ≤ iN d0 then .inr (4, iN (tfr b L q1)) else pip2 b L (tto b L q1) d0 V A (tvl b L q1)) else .inr (cuF b L q1, iN (tfr b L q1))
def pipR (b : Nat → Int32) (L q0 : Nat) (V : Cv) (A : Rw) : Out :=
  if cuOK b L q0 V.1 then (if A 2 (ix (tvl b L q0)) = -1 then pip1 b L (tto b L q0) (ix (tvl b L q0)) V A else .inr (4, iN (tfr b L q0))) else .inr (cuF b L q0, iN (tfr b L q0))
/-- the class lays a pipe down -/
theorem C_lay {q3 d0 : Nat} {x y : Int32} (hN : 30000 ≤ N) (hd : d0 < 9) (h : TC b L q3 S) (hv : CVs c V A S) :
    rn (bV (fX7_readSign N 59 S) fun S58 => (if (S58.1 1 3) = 0 then lt ((S58.2.2 1 1) : Nat) fun o61 => gd (obj o61 1) <| gd (obj (sr o61 1) 2) <| gd (arr (sr (sr o61 1) 2) 1 9) <| gd (inr (iN d0) 9) <| lt ((u2 S58.1 (sr (sr o61 1) 2) (ix (iN d0)) x, S58.2) : PS) fun S66 => lt ((S66.2.2 1 1) : Nat) fun o67 => gd (obj o67 1) <| gd (obj (sr o67 1) 2) <| gd (arr (sr (sr o67 1) 3) 1 9) <| gd (inr (iN d0) 9) <| lt ((u2 S66.1 (sr (sr o67 1) 3) (ix (iN d0)) y, S66.2) : PS) fun S72 => some S72 else some S58)) (lnC b L c S (pipE b L q3 d0 V A x y)) := by
  have i9 : inr (iN d0) 9 := inr_iN hd (by omega)
  have x9 : ix (iN d0) = d0 := ix_iN (by omega)
  rw [rn_bV]
  refine rn_mono (h.sign hN (by decide)) (fun T hT => ?_)
  unfold pipE
  by_cases e : sgP b L q3 59
  · have t := hT.2.1 e
    have hv2 := hv.f12 hT.1
    obtain ⟨r1, r2, -⟩ := cvR hv2.1
    obtain ⟨m1, m2, m3, m4, m5, m6, m7⟩ := cuC_ru hv2.1
    have in2 : cuC (sr c 1) (sr (sr c 1) 2) := Or.inr (by rw [r2.sr (by omega)]; omega)
    have in3 : cuC (sr c 1) (sr (sr c 1) 3) := Or.inr (by rw [r2.sr (by omega)]; omega)
    obtain ⟨-, -, -, -, -, n6, n7⟩ := cv_ne hv2.1
    obtain ⟨w1, w2, w3, w4, w5, w6, w7⟩ := hv2
    rw [if_pos e, if_pos t.2.1, w2, lt_b, gd_t r1, gd_t r2.ob, gd_t (r2.ar (k := 2) (by omega)), gd_t i9, x9]
    refine rn_l (fun U1 e1 => ?_)
    have c1 : CU (sr c 1) (u2 A 2 d0 x) U1 := by rw [e1]; exact w5.u r2 (by omega)
    have u1 : ∀ a, ¬ cuC (sr c 1) a → U1.1 a = T.1 a := fun a ha => by rw [e1]; exact u2_o (fun g => ha (by rw [g]; exact in2))
    have u12 : U1.2 = T.2 := by rw [e1]
    clear e1
    rw [show U1.2.2 1 1 = c from by rw [u12]; exact w2, lt_b, gd_t r1, gd_t r2.ob, gd_t (r2.ar (k := 3) (by omega)), gd_t i9]
    refine rn_l (fun U2 e2 => ?_)
    have c2 : CU (sr c 1) (u2 (u2 A 2 d0 x) 3 d0 y) U2 := by rw [e2]; exact c1.u r2 (by omega)
    have u2' : ∀ a, ¬ cuC (sr c 1) a → U2.1 a = T.1 a := fun a ha => (by rw [e2]; exact u2_o (fun g => ha (by rw [g]; exact in3)) : U2.1 a = U1.1 a).trans (u1 a ha)
    have u22 : U2.2 = T.2 := by rw [e2]; exact u12
    have fr2 : FRd c T U2 := by
      refine ⟨fun a ha => u2' a (fun g => ha ?_), by rw [u22], fun a k _ => by rw [u22]⟩
      have rg := r2.rg
      rcases w1 with rfl | rfl
      · have s1 : sr 12 1 = 21 := rfl
        rw [s1] at g
        rcases g with g | g
        · exact Or.inr (Or.inr (Or.inl ⟨rfl, Or.inr (Or.inr (Or.inl g))⟩))
        · exact Or.inr (Or.inr (Or.inl ⟨rfl, Or.inr (Or.inr (Or.inr (Or.inl (by omega)))) ⟩))
      · have s1 : sr 13 1 = 22 := rfl
        rw [s1] at g
        rcases g with g | g
        · exact Or.inr (Or.inr (Or.inr ⟨rfl, Or.inr (Or.inr (Or.inl g))⟩))
        · exact Or.inr (Or.inr (Or.inr ⟨rfl, Or.inr (Or.inr (Or.inr (Or.inl (by omega)))) ⟩))
    clear e2
    rw [rn_some]
    have n1 : ¬ cuC (sr c 1) 1 := fun g => (m1 1 g).1 rfl
    have n2 : ¬ cuC (sr c 1) 2 := fun g => (m1 2 g).2.1 rfl
    have n26 : ¬ cuC (sr c 1) 26 := by rcases w1 with rfl | rfl <;> (unfold cuC; decide)
    refine ⟨⟨t.1.fr (u2' 2 n2) (u2' 26 n26), by rw [u2' 1 n1]; exact t.2.1, by rw [u2' 1 n1]; exact t.2.2⟩, ⟨w1, by rw [u22]; exact w2, by rw [u2' c n6]; exact w3, fun k hk => by rw [u2' (sr c 0) n7]; exact w4 k hk, c2, w6.cg (u2' _ (fun g => (m1 _ g).2.2.1 rfl)) (u2' _ (fun g => (m1 _ g).2.2.2.2.1 rfl)), w7.cg (u2' _ (fun g => (m1 _ g).2.2.2.1 rfl)) (u2' _ (fun g => (m1 _ g).2.2.2.2.2 rfl))⟩, (FRd.f12 hT.1).tr fr2⟩
  · have t := hT.2.2 e
    rw [if_neg e, if_neg (by rw [t.1]; exact t.2.1), rn_some]
    exact ⟨t, FRd.f12 hT.1⟩
end PIP
