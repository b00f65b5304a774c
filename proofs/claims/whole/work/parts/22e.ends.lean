/-! ===== phase 2: rules: the end of the model's loop ===== -/
/-- what is tried behind tests -/
def chainX (N n : Nat) (S : PS) : Option (Int32 × PS) := bI (fX12_isSign N 43 S) fun x262 S263 => (if x262 = 0 then bI (fX12_isSign N 45 S263) fun x283 S284 => (if x283 = 0 then bI (fX12_isSign N 42 S284) fun x287 S288 => (if x287 = 0 then bI (fX12_isSign N 47 S288) fun x308 S309 => (if x308 = 0 then bI (fX12_isSign N 41 S309) fun x312 S313 => (if x312 = 0 then fX12_expression_29 N n 0 S313 else bI (fX12_isOpened N S313) fun x316 S317 => (if x316 = 0 then fX12_expression_29 N n 0 S317 else bV (fX12_closes N S317) fun S321 => fX12_expression_29 N n 1 S321)) else bV (fX12_drops N 6 S309) fun S324 => bI (fX12_isSign N 42 S324) fun x326 S327 => lt ((if x326 = 0 then 11 else 10) : Int32) fun x330 => bV (fX12_waitsFor N x330 S327) fun S332 => bV (fX12_goes N S332) fun S335 => bV (fX12_operand N 0 S335) fun S338 => fX12_expression_29 N n 1 S338) else bV (fX12_drops N 6 S288) fun S292 => bI (fX12_isSign N 42 S292) fun x294 S295 => lt ((if x294 = 0 then 11 else 10) : Int32) fun x298 => bV (fX12_waitsFor N x298 S295) fun S300 => bV (fX12_goes N S300) fun S303 => bV (fX12_operand N 0 S303) fun S306 => fX12_expression_29 N n 1 S306) else bV (fX12_drops N 5 S284) fun S341 => bI (fX12_isSign N 43 S341) fun x343 S344 => lt ((if x343 = 0 then 9 else 8) : Int32) fun x347 => bV (fX12_waitsFor N x347 S344) fun S349 => bV (fX12_goes N S349) fun S352 => bV (fX12_operand N 0 S352) fun S355 => fX12_expression_29 N n 1 S355) else bV (fX12_drops N 5 S263) fun S267 => bI (fX12_isSign N 43 S267) fun x269 S270 => lt ((if x269 = 0 then 9 else 8) : Int32) fun x273 => bV (fX12_waitsFor N x273 S270) fun S275 => bV (fX12_goes N S275) fun S278 => bV (fX12_operand N 0 S278) fun S281 => fX12_expression_29 N n 1 S281)
section ENX
variable {N : Nat} {b : Nat → Int32} {L : Nat} {p d n : Nat} {X P Q : List Int32} {fl : Nat → Int32} {S : PS}
theorem ch_close {Z : Int32 × PS → Prop} (hN : 30000 ≤ N) (hd : 1 ≤ d) (h41 : sgP b L p 41) (hQ : ∀ x, x ∈ Q → x < 14 ∧ ¬ stS x < 0) (hX : X.length + Q.length ≤ 1400) (hP : (Q ++ (14 :: P)).length ≤ 900) (h : XM b L p X (Q ++ (14 :: P)) d fl S)
    (fin : ∀ T, XM b L (tto b L p) (X ++ Q) P (d - 1) fl T → FXm S T → rn (fX12_expression_29 N n 1 T) Z) : rn (chainX N n S) Z := by
  have hm := h.1
  have sg : ∀ c, sgK c = 3 → (41 : Int32) ≠ c → fX12_isSign N c S = some (0, S) := fun c hc hne => by rw [M_isSg hm hc, if_neg (sg_u h41 hne)]
  have ho : hasO (Q ++ (14 :: P)) := by
    have : ∀ R : List Int32, hasO (R ++ (14 :: P)) := by
      intro R
      induction R with
      | nil => exact Or.inl (by decide)
      | cons x R ih => exact Or.inr ih
    exact this Q
  obtain ⟨v, ev, hv, -⟩ := M_opd hN (by omega) h
  unfold chainX
  rw [sg 43 (by decide) (by decide), bI_s, if_pos rfl, sg 45 (by decide) (by decide), bI_s, if_pos rfl, sg 42 (by decide) (by decide), bI_s, if_pos rfl, sg 47 (by decide) (by decide), bI_s, if_pos rfl, M_isSg hm (by decide), if_pos h41, bI_s, if_neg (by decide), ev, bI_s, hv ho, if_neg (by decide), rn_bV]
  exact rn_mono (h.close hN hd hQ hX (by omega)) (fun T hT => fin T hT.1 hT.2)
theorem ch_exit {Z : Int32 × PS → Prop} (hN : 30000 ≤ N) (n43 : ¬ sgP b L p 43) (n45 : ¬ sgP b L p 45) (n42 : ¬ sgP b L p 42) (n47 : ¬ sgP b L p 47) (h41 : ¬ (sgP b L p 41 ∧ hasO P)) (hP : P.length ≤ 900) (h : XM b L p X P d fl S)
    (fin : Z (0, S)) : rn (chainX N (n + 1) S) Z := by
  have hm := h.1
  have sg : ∀ c, sgK c = 3 → ¬ sgP b L p c → fX12_isSign N c S = some (0, S) := fun c hc hne => by rw [M_isSg hm hc, if_neg hne]
  have ex : fX12_expression_29 N (n + 1) 0 S = some (0, S) := by rw [fX12_expression_29, if_pos rfl]
  unfold chainX
  rw [sg 43 (by decide) n43, bI_s, if_pos rfl, sg 45 (by decide) n45, bI_s, if_pos rfl, sg 42 (by decide) n42, bI_s, if_pos rfl, sg 47 (by decide) n47, bI_s, if_pos rfl]
  by_cases e : sgP b L p 41
  · obtain ⟨v, ev, -, hv⟩ := M_opd hN (by omega) h
    rw [M_isSg hm (by decide), if_pos e, bI_s, if_neg (by decide), ev, bI_s, hv (fun q => h41 ⟨e, q⟩), if_pos rfl, ex, rn_some]
    exact fin
  · rw [sg 41 (by decide) e, bI_s, if_pos rfl, ex, rn_some]
    exact fin
/-- no operator that can stand here -/
def noOp (b : Nat → Int32) (L p d : Nat) (fl : Nat → Int32) : Prop := (opL b L p).1 = 0 ∨ ((opL b L p).1 = 4 ∧ fl d = 1)
theorem K_chain {Z : Int32 × PS → Prop} (hN : 30000 ≤ N) (hd1 : 1 ≤ d) (hd : d ≤ 6) (hno : noOp b L p d fl) (h : XM b L p X P d fl S) (fin : ¬ sgP b L p 43 → ¬ sgP b L p 45 → ¬ sgP b L p 42 → ¬ sgP b L p 47 → rn (chainX N n S) Z) : rn (fX12_expression_29 N (n + 1) 1 S) Z := by
  have hm := h.1
  have d24 : S.1 80 24 = iN d := h.2.2.2.2.2.2.2.1
  have f89 : S.1 89 d = fl d := h.2.2.2.2.2.2.2.2 d hd1 (Nat.le_refl _)
  have w10 : ¬ wdP b L p 10 := fun q => by
    have : opL b L p = (1, -8) := if_pos q
    unfold noOp at hno
    rw [this] at hno
    rcases hno with g | g
    · exact absurd g (by decide)
    · exact absurd g.1 (by decide)
  have w9 : ¬ wdP b L p 9 := fun q => by
    have : opL b L p = (2, -9) := by unfold opL; rw [if_neg w10, if_pos q]
    unfold noOp at hno
    rw [this] at hno
    rcases hno with g | g
    · exact absurd g (by decide)
    · exact absurd g.1 (by decide)
  have n9 : ¬ wI b L p = 9 := fun q => w9 (wI_9.mp q)
  have n10 : ¬ wI b L p = 10 := fun q => w10 (wI_10.mp q)
  rw [fX12_expression_29, if_neg (by decide), h.good, bI_s, if_neg (by decide), M_known hN hm, bI_s, if_neg n9, if_neg n10, M_isSg hm (by decide), bI_s]
  by_cases s60 : sgP b L p 60
  · have eo : (opL b L p).1 = 4 := by unfold opL; rw [if_neg w10, if_neg w9, if_pos s60]
    have f1 : fl d = 1 := by
      rcases hno with g | g
      · omega
      · exact g.2
    rw [if_pos s60, if_neg (by decide), d24, gd_t (inr_iN (by omega) (by omega)), ix_iN (by omega), f89, f1, if_neg (by decide)]
    exact fin (sg_u s60 (by decide)) (sg_u s60 (by decide)) (sg_u s60 (by decide)) (sg_u s60 (by decide))
  · rw [if_neg s60, if_pos rfl, M_isSg hm (by decide), bI_s]
    by_cases s61 : sgP b L p 61
    · have eo : (opL b L p).1 = 4 := by unfold opL; rw [if_neg w10, if_neg w9, if_neg s60, if_pos s61]
      have f1 : fl d = 1 := by
        rcases hno with g | g
        · omega
        · exact g.2
      rw [if_pos s61, if_neg (by decide), d24, gd_t (inr_iN (by omega) (by omega)), ix_iN (by omega), f89, f1, if_neg (by decide)]
      exact fin (sg_u s61 (by decide)) (sg_u s61 (by decide)) (sg_u s61 (by decide)) (sg_u s61 (by decide))
    · have z : (opL b L p).1 ≠ 4 := by
        unfold opL
        rw [if_neg w10, if_neg w9, if_neg s60, if_neg s61]
        repeat (first | (split; decide) | decide)
      have z0 : (opL b L p).1 = 0 := by
        rcases hno with g | g
        · exact g
        · exact absurd g.1 z
      unfold opL at z0
      rw [if_neg w10, if_neg w9, if_neg s60, if_neg s61] at z0
      have n43 : ¬ sgP b L p 43 := fun q => by rw [if_pos q] at z0; exact absurd z0 (by decide)
      rw [if_neg n43] at z0
      have n45 : ¬ sgP b L p 45 := fun q => by rw [if_pos q] at z0; exact absurd z0 (by decide)
      rw [if_neg n45] at z0
      have n42 : ¬ sgP b L p 42 := fun q => by rw [if_pos q] at z0; exact absurd z0 (by decide)
      rw [if_neg n42] at z0
      have n47 : ¬ sgP b L p 47 := fun q => by rw [if_pos q] at z0; exact absurd z0 (by decide)
      rw [if_neg s61, if_pos rfl]
      exact fin n43 n45 n42 n47
theorem K_close {Post : PS → Prop} (hN : 30000 ≤ N) (hd1 : 1 ≤ d) (hd : d ≤ 6) (h41 : sgP b L p 41) (hQ : ∀ x, x ∈ Q → x < 14 ∧ ¬ stS x < 0) (hX : X.length + Q.length ≤ 1400) (hP : (Q ++ (14 :: P)).length ≤ 900) (h : XM b L p X (Q ++ (14 :: P)) d fl S)
    (fin : ∀ T, XM b L (tto b L p) (X ++ Q) P (d - 1) fl T → FXm S T → KXp N n Post T) : KXp N (n + 1) Post S := by
  have z0 : (opL b L p).1 = 0 := by
    unfold opL
    rw [if_neg (sg_w h41), if_neg (sg_w h41), if_neg (sg_u h41 (by decide)), if_neg (sg_u h41 (by decide)), if_neg (sg_u h41 (by decide)), if_neg (sg_u h41 (by decide)), if_neg (sg_u h41 (by decide)), if_neg (sg_u h41 (by decide))]
  unfold KXp at fin ⊢
  exact K_chain hN hd1 hd (Or.inl z0) h (fun _ _ _ _ => ch_close hN hd1 h41 hQ hX hP h fin)
theorem K_exit {Post : PS → Prop} (hN : 30000 ≤ N) (hd1 : 1 ≤ d) (hd : d ≤ 6) (hno : noOp b L p d fl) (h41 : ¬ (sgP b L p 41 ∧ hasO P)) (hP : P.length ≤ 900) (h : XM b L p X P d fl S) (fin : rn (restX N S) Post) : KXp N (n + 2) Post S := by
  unfold KXp
  exact K_chain hN hd1 hd hno h (fun a c e f => ch_exit hN a c e f h41 hP h fin)
/-- the loop ends within brackets -/
theorem R_deep {Post : PS → Prop} (hN : 30000 ≤ N) (hd : 2 ≤ d) (hd6 : d ≤ 6) (hz : X.length + P.length ≤ 1399) (hP : P.length ≤ 900) (h : XM b L p X P d fl S) (fin : ∀ T, XMF b L 1 (iN (tfr b L p)) (X.length + P.length + 1) T → FXm S T → Post T) : rn (restX N S) Post := by
  unfold restX
  rw [h.good, bI_s, if_neg (by decide), h.2.2.2.2.2.2.2.1, if_neg (by rw [show (1 : Int32) = iN 1 from rfl, iN_le (by omega) (by omega)]; omega), rn_bV]
  refine rn_mono (h.wrong (by decide) hP) (fun T hT => ?_)
  exact hT.1.pile hz hN (fun U h1 h2 => fin U h1 (hT.2.tr h2))
/-- the loop ends outside of brackets -/
theorem R_top {Post : PS → Prop} (hN : 30000 ≤ N) (hd : d = 1) (hQ : ∀ x, x ∈ P → x < 14 ∧ ¬ stS x < 0) (hz : X.length + P.length < 1400) (hP : P.length ≤ 900) (h : XM b L p X P d fl S) (fin : ∀ T, XM b L p (X ++ P ++ [0]) [] d fl T → FXm S T → Post T) : rn (restX N S) Post := by
  unfold restX
  rw [h.good, bI_s, if_neg (by decide), h.2.2.2.2.2.2.2.1, if_pos (by rw [hd]; exact Int32.le_refl _)]
  unfold fX12_drops
  rw [rn_bV, rn_bT]
  have h0 : XM b L p X (P ++ []) d fl S := by rw [List.append_nil]; exact h
  refine rn_mono (M_drops (P := []) (v := 0) trivial P X N S hQ (by omega) (by rw [List.append_nil]; omega) h0 (by omega)) (fun T hT => ?_)
  rw [rn_some, rn_bV]
  refine rn_mono (hT.1.puts (by rw [List.length_append]; omega)) (fun U hU => ?_)
  rw [rn_some]
  exact fin U hU.1 (hT.2.tr hU.2)
end ENX
