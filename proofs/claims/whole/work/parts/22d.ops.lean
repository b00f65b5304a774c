/-! ===== phase 2: rules: an operator in the model's loop ===== -/
def opL (b : Nat → Int32) (L p : Nat) : Nat × Int32 := if wdP b L p 10 then (1, -8) else if wdP b L p 9 then (2, -9) else if sgP b L p 60 then (4, -10) else if sgP b L p 61 then (4, -11) else if sgP b L p 43 then (5, -12) else if sgP b L p 45 then (5, -13) else if sgP b L p 42 then (6, -14) else if sgP b L p 47 then (6, -15) else (0, 0)
section OPS
variable {N : Nat} {b : Nat → Int32} {L : Nat} {p d n : Nat} {X P Q : List Int32} {fl : Nat → Int32} {S : PS}
theorem sg_u {c e : Int32} (h : sgP b L p c) (hne : c ≠ e) : ¬ sgP b L p e := fun q => hne (h.2.symm.trans q.2)
theorem sg_w {c : Int32} {k : Nat} (h : sgP b L p c) : ¬ wdP b L p k := fun q => by have := h.1; have := q.1; omega
theorem wd_2 {j k : Nat} (hj : j < 12) (hk : k < 12) (hne : j ≠ k) (h : wdP b L p (m2c j)) : ¬ wdP b L p (m2c k) := fun q => hne (wd_u hj hk h q)
theorem wI_9 : wI b L p = 9 ↔ wdP b L p 9 := wI_k (k := 9) (by omega)
theorem wI_10 : wI b L p = 10 ↔ wdP b L p 10 := wI_k (k := 10) (by omega)
theorem wI_11 : wI b L p = 11 ↔ wdP b L p 3 := wI_k (k := 11) (by omega)
/-- drop, wait, go on -/
theorem T56 {v c r0 r1 : Int32} {Z : Int32 × PS → Prop} (hN : 30000 ≤ N) (hc : sgK c = 3) (hQ : ∀ x, x ∈ Q → x < 14 ∧ ¬ stS x < v) (hst : stay v P) (hX : X.length + Q.length ≤ 1400) (hP : (Q ++ P).length ≤ 900) (h : XM b L p X (Q ++ P) d fl S)
    (fin : ∀ T, XM b L (tto b L p) (X ++ Q) ((if sgP b L p c then r1 else r0) :: P) d fl T → FXm S T → rn (fX12_operand N 0 T) (fun U => rn (fX12_expression_29 N n 1 U) Z)) :
    rn (bV (fX12_drops N v S) fun S1 => bI (fX12_isSign N c S1) fun x S2 => lt ((if x = 0 then r0 else r1) : Int32) fun y => bV (fX12_waitsFor N y S2) fun S3 => bV (fX12_goes N S3) fun S4 => bV (fX12_operand N 0 S4) fun S5 => fX12_expression_29 N n 1 S5) Z := by
  have hl : Q.length < N := by rw [List.length_append] at hP; omega
  unfold fX12_drops
  rw [rn_bV, rn_bT]
  refine rn_mono (M_drops hst Q X N S hQ hX (by omega) h hl) (fun U hU => ?_)
  rw [rn_some, M_isSg hU.1.1 hc, bI_s, lt_b]
  have ev : (if (if sgP b L p c then (1 : Int32) else 0) = 0 then r0 else r1) = if sgP b L p c then r1 else r0 := by
    by_cases e : sgP b L p c
    · rw [if_pos e, if_pos e, if_neg (by decide)]
    · rw [if_neg e, if_neg e, if_pos rfl]
  rw [ev, rn_bV]
  refine rn_mono (hU.1.wait (by rw [List.length_append] at hP; omega)) (fun V hV => ?_)
  rw [rn_bV]
  refine rn_mono (hV.1.go hN) (fun W hW => ?_)
  rw [rn_bV]
  exact fin W hW.1 ((hU.2.tr hV.2).tr hW.2)
theorem T4 {v c r0 r1 : Int32} {Z : Int32 × PS → Prop} (hN : 30000 ≤ N) (hc : sgK c = 3) (hd : d ≤ 6) (hQ : ∀ x, x ∈ Q → x < 14 ∧ ¬ stS x < v) (hst : stay v P) (hX : X.length + Q.length ≤ 1400) (hP : (Q ++ P).length ≤ 900) (h : XM b L p X (Q ++ P) d fl S)
    (fin : ∀ T, XM b L (tto b L p) (X ++ Q) ((if sgP b L p c then r1 else r0) :: P) d (upd fl d 1) T → FXm S T → rn (fX12_operand N 0 T) (fun U => rn (fX12_expression_29 N n 1 U) Z)) :
    rn (bV (fX12_drops N v S) fun S1 => bI (fX12_isSign N c S1) fun x S2 => lt ((if x = 0 then r0 else r1) : Int32) fun y => bV (fX12_waitsFor N y S2) fun S3 => gd (inr (S3.1 80 24) 9) <| lt ((u2 S3.1 89 (ix (S3.1 80 24)) 1, S3.2) : PS) fun S33 => bV (fX12_goes N S33) fun S4 => bV (fX12_operand N 0 S4) fun S5 => fX12_expression_29 N n 1 S5) Z := by
  have hl : Q.length < N := by rw [List.length_append] at hP; omega
  unfold fX12_drops
  rw [rn_bV, rn_bT]
  refine rn_mono (M_drops hst Q X N S hQ hX (by omega) h hl) (fun U hU => ?_)
  rw [rn_some, M_isSg hU.1.1 hc, bI_s, lt_b]
  have ev : (if (if sgP b L p c then (1 : Int32) else 0) = 0 then r0 else r1) = if sgP b L p c then r1 else r0 := by
    by_cases e : sgP b L p c
    · rw [if_pos e, if_pos e, if_neg (by decide)]
    · rw [if_neg e, if_neg e, if_pos rfl]
  rw [ev, rn_bV]
  refine rn_mono (hU.1.wait (by rw [List.length_append] at hP; omega)) (fun V hV => ?_)
  rw [hV.1.2.2.2.2.2.2.2.1, gd_t (inr_iN (by omega) (by omega)), ix_iN (by omega)]
  refine rn_u (fun V2 v2 => ?_)
  rw [rn_bV]
  refine rn_mono ((hV.1.flag hd v2).go hN) (fun W hW => ?_)
  rw [rn_bV]
  exact fin W hW.1 (((hU.2.tr hV.2).tr (FXm.ua v2 (by omega))).tr hW.2)
theorem T12 {v r : Int32} {Z : Int32 × PS → Prop} (hN : 30000 ≤ N) (hd : d ≤ 6) (hQ : ∀ x, x ∈ Q → x < 14 ∧ ¬ stS x < v) (hst : stay v P) (hX : X.length + Q.length ≤ 1400) (hP : (Q ++ P).length ≤ 900) (h : XM b L p X (Q ++ P) d fl S)
    (fin : ∀ T, XM b L (tto b L p) (X ++ Q) (r :: P) d (upd fl d 0) T → FXm S T → rn (fX12_operand N 1 T) (fun U => rn (fX12_expression_29 N n 1 U) Z)) :
    rn (bV (fX12_drops N v S) fun S2 => bV (fX12_waitsFor N r S2) fun S3 => gd (inr (S3.1 80 24) 9) <| lt ((u2 S3.1 89 (ix (S3.1 80 24)) 0, S3.2) : PS) fun S33 => bV (fX12_goes N S33) fun S4 => bV (fX12_operand N 1 S4) fun S5 => fX12_expression_29 N n 1 S5) Z := by
  have hl : Q.length < N := by rw [List.length_append] at hP; omega
  unfold fX12_drops
  rw [rn_bV, rn_bT]
  refine rn_mono (M_drops hst Q X N S hQ hX (by omega) h hl) (fun U hU => ?_)
  rw [rn_some, rn_bV]
  refine rn_mono (hU.1.wait (by rw [List.length_append] at hP; omega)) (fun V hV => ?_)
  rw [hV.1.2.2.2.2.2.2.2.1, gd_t (inr_iN (by omega) (by omega)), ix_iN (by omega)]
  refine rn_u (fun V2 v2 => ?_)
  rw [rn_bV]
  refine rn_mono ((hV.1.flag hd v2).go hN) (fun W hW => ?_)
  rw [rn_bV]
  exact fin W hW.1 (((hU.2.tr hV.2).tr (FXm.ua v2 (by omega))).tr hW.2)
/-- the flags behind an operator of strength s -/
def flO (s d : Nat) (fl : Nat → Int32) : Nat → Int32 := if s ≤ 2 then upd fl d 0 else if s = 4 then upd fl d 1 else fl
theorem K_op {Post : PS → Prop} (hN : 30000 ≤ N) (hd1 : 1 ≤ d) (hd : d ≤ 6) (hs : (opL b L p).1 ≠ 0) (h4 : (opL b L p).1 = 4 → fl d = 0) (hQ : ∀ x, x ∈ Q → x < 14 ∧ ¬ stS x < iN (opL b L p).1) (hst : stay (iN (opL b L p).1) P) (hX : X.length + Q.length ≤ 1400) (hP : (Q ++ P).length ≤ 900) (h : XM b L p X (Q ++ P) d fl S)
    (fin : ∀ T, XM b L (tto b L p) (X ++ Q) (mo (opL b L p).2 :: P) d (flO (opL b L p).1 d fl) T → FXm S T → rn (fX12_operand N (if (opL b L p).1 ≤ 2 then 1 else 0) T) (fun U => KXp N n Post U)) : KXp N (n + 1) Post S := by
  have hm := h.1
  have sg : ∀ c, sgK c = 3 → fX12_isSign N c S = some ((if sgP b L p c then 1 else 0), S) := fun c hc => M_isSg hm hc
  have d24 : S.1 80 24 = iN d := h.2.2.2.2.2.2.2.1
  have f89 : S.1 89 d = fl d := h.2.2.2.2.2.2.2.2 d hd1 (Nat.le_refl _)
  unfold KXp at fin ⊢
  rw [fX12_expression_29, if_neg (by decide), h.good, bI_s, if_neg (by decide), M_known hN hm, bI_s]
  by_cases w10 : wdP b L p 10
  · have eo : opL b L p = (1, -8) := if_pos w10
    have e10 := wI_10.mpr w10
    have n9 : ¬ wI b L p = 9 := by rw [e10]; decide
    rw [eo] at hQ hst fin
    rw [if_neg n9, if_pos e10, if_neg n9, if_neg n9, lt_b]
    exact T12 (Q := Q) hN hd hQ hst hX hP h (fun T t1 t2 => fin T t1 t2)
  · have n10 : ¬ wI b L p = 10 := fun q => w10 (wI_10.mp q)
    by_cases w9 : wdP b L p 9
    · have eo : opL b L p = (2, -9) := by unfold opL; rw [if_neg w10, if_pos w9]
      have e9 := wI_9.mpr w9
      rw [eo] at hQ hst fin
      rw [if_pos e9, if_pos e9, if_pos e9, lt_b]
      exact T12 (Q := Q) hN hd hQ hst hX hP h (fun T t1 t2 => fin T t1 t2)
    · have n9 : ¬ wI b L p = 9 := fun q => w9 (wI_9.mp q)
      rw [if_neg n9, if_neg n10, sg 60 (by decide), bI_s]
      by_cases s60 : sgP b L p 60
      · have eo : opL b L p = (4, -10) := by unfold opL; rw [if_neg w10, if_neg w9, if_pos s60]
        rw [eo] at hQ hst fin h4
        rw [if_pos s60, if_neg (by decide), d24, gd_t (inr_iN (by omega) (by omega)), ix_iN (by omega), f89, if_pos (h4 rfl)]
        refine T4 (Q := Q) hN (by decide) hd hQ hst hX hP h (fun T t1 t2 => ?_)
        rw [if_pos s60] at t1
        exact fin T t1 t2
      · rw [if_neg s60, if_pos rfl, sg 61 (by decide), bI_s]
        by_cases s61 : sgP b L p 61
        · have eo : opL b L p = (4, -11) := by unfold opL; rw [if_neg w10, if_neg w9, if_neg s60, if_pos s61]
          rw [eo] at hQ hst fin h4
          rw [if_pos s61, if_neg (by decide), d24, gd_t (inr_iN (by omega) (by omega)), ix_iN (by omega), f89, if_pos (h4 rfl)]
          refine T4 (Q := Q) hN (by decide) hd hQ hst hX hP h (fun T t1 t2 => ?_)
          rw [if_neg s60] at t1
          exact fin T t1 t2
        · rw [if_neg s61, if_pos rfl, sg 43 (by decide), bI_s]
          by_cases s43 : sgP b L p 43
          · have eo : opL b L p = (5, -12) := by unfold opL; rw [if_neg w10, if_neg w9, if_neg s60, if_neg s61, if_pos s43]
            rw [eo] at hQ hst fin
            rw [if_pos s43, if_neg (by decide)]
            refine T56 (Q := Q) hN (by decide) hQ hst hX hP h (fun T t1 t2 => ?_)
            rw [if_pos s43] at t1
            exact fin T t1 t2
          · rw [if_neg s43, if_pos rfl, sg 45 (by decide), bI_s]
            by_cases s45 : sgP b L p 45
            · have eo : opL b L p = (5, -13) := by unfold opL; rw [if_neg w10, if_neg w9, if_neg s60, if_neg s61, if_neg s43, if_pos s45]
              rw [eo] at hQ hst fin
              rw [if_pos s45, if_neg (by decide)]
              refine T56 (Q := Q) hN (by decide) hQ hst hX hP h (fun T t1 t2 => ?_)
              rw [if_neg s43] at t1
              exact fin T t1 t2
            · rw [if_neg s45, if_pos rfl, sg 42 (by decide), bI_s]
              by_cases s42 : sgP b L p 42
              · have eo : opL b L p = (6, -14) := by unfold opL; rw [if_neg w10, if_neg w9, if_neg s60, if_neg s61, if_neg s43, if_neg s45, if_pos s42]
                rw [eo] at hQ hst fin
                rw [if_pos s42, if_neg (by decide)]
                refine T56 (Q := Q) hN (by decide) hQ hst hX hP h (fun T t1 t2 => ?_)
                rw [if_pos s42] at t1
                exact fin T t1 t2
              · rw [if_neg s42, if_pos rfl, sg 47 (by decide), bI_s]
                by_cases s47 : sgP b L p 47
                · have eo : opL b L p = (6, -15) := by unfold opL; rw [if_neg w10, if_neg w9, if_neg s60, if_neg s61, if_neg s43, if_neg s45, if_neg s42, if_pos s47]
                  rw [eo] at hQ hst fin
                  rw [if_pos s47, if_neg (by decide)]
                  refine T56 (Q := Q) hN (by decide) hQ hst hX hP h (fun T t1 t2 => ?_)
                  rw [if_neg s42] at t1
                  exact fin T t1 t2
                · exfalso
                  apply hs
                  unfold opL
                  rw [if_neg w10, if_neg w9, if_neg s60, if_neg s61, if_neg s43, if_neg s45, if_neg s42, if_neg s47]
end OPS
