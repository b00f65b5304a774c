def fX12_offBy (N : Nat) (p0 : Int32) (p1 : Int32) (S : PS) : Option (Int32 × PS) :=
  lt ((if p1 ≤ p0 then (p0 - p1) else (p1 - p0)) : Int32) fun x2 =>
  some (x2, S)
set_option maxHeartbeats 4000000 in
set_option maxRecDepth 100000 in
theorem okX12_offBy (N : Nat) (p0 : Int32) (p1 : Int32) (S : PS) (r : Int32) (T : PS) (h : fX12_offBy N p0 p1 S = some (r, T)) : CT mX12_offBy 0 0 [.int p0, .int p1] S (qI r T) := by
  refine ct_of [some (.int p0), some (.int p1)] rfl (fun _ => rfl) (fun _ => Nat.le_of_ble_eq_true rfl) ?_
  unfold fX12_offBy at h
  refine r_iload_n (x := p0) dX12_offBy_0 rfl ?_
  refine r_iload_n (x := p1) dX12_offBy_1 rfl ?_
  obtain ⟨x2, hx2⟩ : ∃ y : Int32, y = ((if p1 ≤ p0 then (p0 - p1) else (p1 - p0)) : Int32) := ⟨_, rfl⟩
  replace h := lt_e hx2 h
  have keyx2 : WP [] mX12_offBy 0 0 (qI r T) 14 [some (.int p0), some (.int p1)] (.int x2 :: []) S 0 := by
    cases h
    exact r_ireturn dX12_offBy_14 rfl (Nat.zero_le _) ⟨rfl, rfl⟩
  refine r_icmp_ge (tgt := 11) dX12_offBy_2 (by decide) (fun c1 => ?_) (fun c1 => ?_)
  · refine r_iload_n (x := p0) dX12_offBy_11 rfl ?_
    refine r_iload_n (x := p1) dX12_offBy_12 rfl ?_
    refine r_isub dX12_offBy_13 ?_
    exact r_tope (by rw [hx2, if_pos c1]) keyx2
  · refine r_iload_n (x := p1) dX12_offBy_5 rfl ?_
    refine r_iload_n (x := p0) dX12_offBy_6 rfl ?_
    refine r_isub dX12_offBy_7 ?_
    refine r_goto (tgt := 14) dX12_offBy_8 (by decide) ?_
    exact r_tope (by rw [hx2, if_neg c1]) keyx2
def fX12_hear (N : Nat) (p0 : Int32) (p1 : Int32) (p2 : Int32) (S : PS) : Option (Int32 × PS) :=
  lt ((u2 S.1 80 0 0, S.2) : PS) fun S1 =>
  bI (fX12_isCup N p0 S1) fun x2 S3 =>
  (if x2 = 0 then
    some (0, S3)
  else
    (if (S3.1 80 49) = 8 then
      bI (fX12_refuses N 2 S3) fun x7 S8 =>
      some (x7, S8)
    else
      bI (fX12_within N p1 1 40 S3) fun x10 S11 =>
      (if x10 = 0 then
        bI (fX12_refuses N 2 S11) fun x23 S24 =>
        some (x23, S24)
      else
        gd (inr (3 * (S11.1 80 49)) 24) <|
        lt ((u2 S11.1 105 (ix (3 * (S11.1 80 49))) p0, S11.2) : PS) fun S15 =>
        gd (inr ((3 * (S15.1 80 49)) + 1) 24) <|
        lt ((u2 S15.1 105 (ix ((3 * (S15.1 80 49)) + 1)) p1, S15.2) : PS) fun S17 =>
        lt ((if p2 = 0 then 0 else 1) : Int32) fun x19 =>
        gd (inr ((3 * (S17.1 80 49)) + 2) 24) <|
        lt ((u2 S17.1 105 (ix ((3 * (S17.1 80 49)) + 2)) x19, S17.2) : PS) fun S21 =>
        lt ((u2 S21.1 80 49 ((S21.1 80 49) + 1), S21.2) : PS) fun S22 =>
        some ((S22.1 80 49), S22))))
set_option maxHeartbeats 4000000 in
set_option maxRecDepth 100000 in
theorem okX12_hear (N : Nat) (p0 : Int32) (p1 : Int32) (p2 : Int32) (S : PS) (r : Int32) (T : PS) (h : fX12_hear N p0 p1 p2 S = some (r, T)) : CT mX12_hear 2 0 [.ref 80, .int p0, .int p1, .int p2] S (qI r T) := by
  refine ct_of [some (.ref 80), some (.int p0), some (.int p1), some (.int p2)] rfl (fun _ => rfl) (fun _ => Nat.le_of_ble_eq_true rfl) ?_
  unfold fX12_hear at h
  refine r_aload_n (x := 80) dX12_hear_0 rfl ?_
  refine r_iconst (v := 0) dX12_hear_1 rfl ?_
  refine r_putI dX12_hear_2 lX12_114 ck80 nC80 ?_
  refine r_topS (fun S1 hS1 => ?_)
  replace h := lt_e hS1 h
  refine r_aload_n (x := 80) dX12_hear_5 rfl ?_
  refine r_iload_n (x := p0) dX12_hear_6 rfl ?_
  obtain ⟨x2, S3, h4, h⟩ := bI_e h
  refine r_cVI (y := mX12_isCup) (As := [.int p0]) (rest := []) dX12_hear_7 qX12_351 kX12_isCup rfl ob80 vc12 rfl (okX12_isCup N p0 S1 x2 S3 h4) (by decide) (Nat.zero_le _) rfl (Nat.le_of_ble_eq_true rfl) ?_
  refine r_if_ne (tgt := 15) dX12_hear_10 (by decide) (fun c5 => ?_) (fun c5 => ?_)
  · rw [if_neg c5] at h
    refine r_aload_n (x := 80) dX12_hear_15 rfl ?_
    refine r_getfield (o := 80) (v := .int (S3.1 80 49)) dX12_hear_16 lX12_279 ck80 nC80 rfl ?_
    refine r_bipush (v := 8) dX12_hear_19 rfl ?_
    refine r_icmp_eq (tgt := 34) dX12_hear_21 (by decide) (fun c6 => ?_) (fun c6 => ?_)
    · rw [if_pos c6] at h
      refine r_aload_n (x := 80) dX12_hear_34 rfl ?_
      refine r_iconst (v := 2) dX12_hear_35 rfl ?_
      obtain ⟨x7, S8, h9, h⟩ := bI_e h
      refine r_cVI (y := mX12_refuses) (As := [.int 2]) (rest := []) dX12_hear_36 qX12_363 kX12_refuses rfl ob80 vc12 rfl (okX12_refuses N 2 S3 x7 S8 h9) (by decide) (Nat.zero_le _) rfl (Nat.le_of_ble_eq_true rfl) ?_
      cases h
      exact r_ireturn dX12_hear_39 rfl (Nat.zero_le _) ⟨rfl, rfl⟩
    · rw [if_neg c6] at h
      refine r_iload_n (x := p1) dX12_hear_24 rfl ?_
      refine r_iconst (v := 1) dX12_hear_25 rfl ?_
      refine r_bipush (v := 40) dX12_hear_26 rfl ?_
      obtain ⟨x10, S11, h12, h⟩ := bI_e h
      refine r_cSI (y := mX12_within) (As := [.int p1, .int 1, .int 40]) (rest := []) dX12_hear_28 qX12_332 kX12_within rfl (okX12_within N p1 1 40 S3 x10 S11 h12) (by decide) (Nat.zero_le _) rfl (Nat.le_of_ble_eq_true rfl) ?_
      refine r_if_ne (tgt := 40) dX12_hear_31 (by decide) (fun c13 => ?_) (fun c13 => ?_)
      · rw [if_neg c13] at h
        refine r_aload_n (x := 80) dX12_hear_40 rfl ?_
        refine r_getfield (o := 80) (v := .ref 105) dX12_hear_41 lX12_96 ck80 nC80 rfl ?_
        refine r_iconst (v := 3) dX12_hear_44 rfl ?_
        refine r_aload_n (x := 80) dX12_hear_45 rfl ?_
        refine r_getfield (o := 80) (v := .int (S11.1 80 49)) dX12_hear_46 lX12_279 ck80 nC80 rfl ?_
        refine r_imul dX12_hear_49 ?_
        refine r_iload_n (x := p0) dX12_hear_50 rfl ?_
        obtain ⟨g14, h⟩ := gd_e h
        refine r_iastore (a := 105) dX12_hear_51 ck105 nC105 (inr_IX g14) ?_
        refine r_topS (fun S15 hS15 => ?_)
        replace h := lt_e hS15 h
        refine r_aload_n (x := 80) dX12_hear_52 rfl ?_
        refine r_getfield (o := 80) (v := .ref 105) dX12_hear_53 lX12_96 ck80 nC80 rfl ?_
        refine r_iconst (v := 3) dX12_hear_56 rfl ?_
        refine r_aload_n (x := 80) dX12_hear_57 rfl ?_
        refine r_getfield (o := 80) (v := .int (S15.1 80 49)) dX12_hear_58 lX12_279 ck80 nC80 rfl ?_
        refine r_imul dX12_hear_61 ?_
        refine r_iconst (v := 1) dX12_hear_62 rfl ?_
        refine r_iadd dX12_hear_63 ?_
        refine r_iload_n (x := p1) dX12_hear_64 rfl ?_
        obtain ⟨g16, h⟩ := gd_e h
        refine r_iastore (a := 105) dX12_hear_65 ck105 nC105 (inr_IX g16) ?_
        refine r_topS (fun S17 hS17 => ?_)
        replace h := lt_e hS17 h
        refine r_aload_n (x := 80) dX12_hear_66 rfl ?_
        refine r_getfield (o := 80) (v := .ref 105) dX12_hear_67 lX12_96 ck80 nC80 rfl ?_
        refine r_iconst (v := 3) dX12_hear_70 rfl ?_
        refine r_aload_n (x := 80) dX12_hear_71 rfl ?_
        refine r_getfield (o := 80) (v := .int (S17.1 80 49)) dX12_hear_72 lX12_279 ck80 nC80 rfl ?_
        refine r_imul dX12_hear_75 ?_
        refine r_iconst (v := 2) dX12_hear_76 rfl ?_
        refine r_iadd dX12_hear_77 ?_
        refine r_iload_n (x := p2) dX12_hear_78 rfl ?_
        obtain ⟨x19, hx19⟩ : ∃ y : Int32, y = ((if p2 = 0 then 0 else 1) : Int32) := ⟨_, rfl⟩
        replace h := lt_e hx19 h
        have keyx19 : WP [] mX12_hear 2 0 (qI r T) 87 [some (.ref 80), some (.int p0), some (.int p1), some (.int p2)] (.int x19 :: [.int ((3 * (S17.1 80 49)) + 2), .ref 105]) S17 0 := by
          obtain ⟨g20, h⟩ := gd_e h
          refine r_iastore (a := 105) dX12_hear_87 ck105 nC105 (inr_IX g20) ?_
          refine r_topS (fun S21 hS21 => ?_)
          replace h := lt_e hS21 h
          refine r_aload_n (x := 80) dX12_hear_88 rfl ?_
          refine r_dup_ref dX12_hear_89 ?_
          refine r_getfield (o := 80) (v := .int (S21.1 80 49)) dX12_hear_90 lX12_279 ck80 nC80 rfl ?_
          refine r_iconst (v := 1) dX12_hear_93 rfl ?_
          refine r_iadd dX12_hear_94 ?_
          refine r_putI dX12_hear_95 lX12_279 ck80 nC80 ?_
          refine r_topS (fun S22 hS22 => ?_)
          replace h := lt_e hS22 h
          refine r_aload_n (x := 80) dX12_hear_98 rfl ?_
          refine r_getfield (o := 80) (v := .int (S22.1 80 49)) dX12_hear_99 lX12_279 ck80 nC80 rfl ?_
          cases h
          exact r_ireturn dX12_hear_102 rfl (Nat.zero_le _) ⟨rfl, rfl⟩
        refine r_if_eq (tgt := 86) dX12_hear_79 (by decide) (fun c18 => ?_) (fun c18 => ?_)
        · refine r_iconst (v := 0) dX12_hear_86 rfl ?_
          exact r_tope (by rw [hx19, if_pos c18]) keyx19
        · refine r_iconst (v := 1) dX12_hear_82 rfl ?_
          refine r_goto (tgt := 87) dX12_hear_83 (by decide) ?_
          exact r_tope (by rw [hx19, if_neg c18]) keyx19
      · rw [if_pos c13] at h
        refine r_aload_n (x := 80) dX12_hear_34 rfl ?_
        refine r_iconst (v := 2) dX12_hear_35 rfl ?_
        obtain ⟨x23, S24, h25, h⟩ := bI_e h
        refine r_cVI (y := mX12_refuses) (As := [.int 2]) (rest := []) dX12_hear_36 qX12_363 kX12_refuses rfl ob80 vc12 rfl (okX12_refuses N 2 S11 x23 S24 h25) (by decide) (Nat.zero_le _) rfl (Nat.le_of_ble_eq_true rfl) ?_
        cases h
        exact r_ireturn dX12_hear_39 rfl (Nat.zero_le _) ⟨rfl, rfl⟩
  · rw [if_pos c5] at h
    refine r_iconst (v := 0) dX12_hear_13 rfl ?_
    cases h
    exact r_ireturn dX12_hear_14 rfl (Nat.zero_le _) ⟨rfl, rfl⟩
def fX12_forget (N : Nat)  (S : PS) : Option PS :=
  lt ((u2 S.1 80 0 0, S.2) : PS) fun S1 =>
  lt ((u2 S1.1 80 49 0, S1.2) : PS) fun S2 =>
  some S2
set_option maxHeartbeats 4000000 in
set_option maxRecDepth 100000 in
theorem okX12_forget (N : Nat)  (S : PS) (T : PS) (h : fX12_forget N  S = some T) : CT mX12_forget 0 0 [.ref 80] S (qV T) := by
  refine ct_of [some (.ref 80)] rfl (fun _ => rfl) (fun _ => Nat.le_of_ble_eq_true rfl) ?_
  unfold fX12_forget at h
  refine r_aload_n (x := 80) dX12_forget_0 rfl ?_
  refine r_iconst (v := 0) dX12_forget_1 rfl ?_
  refine r_putI dX12_forget_2 lX12_114 ck80 nC80 ?_
  refine r_topS (fun S1 hS1 => ?_)
  replace h := lt_e hS1 h
  refine r_aload_n (x := 80) dX12_forget_5 rfl ?_
  refine r_iconst (v := 0) dX12_forget_6 rfl ?_
  refine r_putI dX12_forget_7 lX12_279 ck80 nC80 ?_
  refine r_topS (fun S2 hS2 => ?_)
  replace h := lt_e hS2 h
  cases h
  exact r_return dX12_forget_10 rfl (Nat.zero_le _) ⟨rfl, rfl⟩
def fX12_isHeard_28 (N : Nat) (v1 : Int32) : Nat → Int32 → PS → Option (Nat × Int32 × PS)
  | 0, _, _ => none
  | n + 1, v2, S =>
    (if (S.1 80 49) ≤ v2 then
      some (0, v2, S)
    else
      gd (inr ((3 * v2) + 1) 24) <|
      (if (S.1 105 (ix ((3 * v2) + 1))) = v1 then
        gd (inr (3 * v2) 24) <|
        gd (inr ((3 * v2) + 2) 24) <|
        (if (((S.1 80 38) >>> ((S.1 105 (ix (3 * v2))) &&& 31)) &&& 1) = (S.1 105 (ix ((3 * v2) + 2))) then
          lt (v2 + 1 : Int32) fun x14 =>
          fX12_isHeard_28 N v1 n x14 S
        else
          some (1, v2, S))
      else
        lt (v2 + 1 : Int32) fun x10 =>
        fX12_isHeard_28 N v1 n x10 S))
set_option maxHeartbeats 4000000 in
set_option maxRecDepth 100000 in
theorem okX12_isHeard_28 (N : Nat) (v1 : Int32) (Q : OQ) (u : Nat) (hu : u ≤ 0) : ∀ (n : Nat) (v2 : Int32) (S : PS) (tg : Nat) (y2 : Int32) (T : PS), fX12_isHeard_28 N v1 n v2 S = some (tg, y2, T) → (tg = 0 → WP [] mX12_isHeard 5 0 Q 86 [some (.ref 80), some (.int v1), some (.int y2)] [] T u) → (tg = 1 → WP [] mX12_isHeard 5 0 Q 78 [some (.ref 80), some (.int v1), some (.int y2)] [] T u) → WP [] mX12_isHeard 5 0 Q 28 [some (.ref 80), some (.int v1), some (.int v2)] [] S u := by
  intro n
  induction n with
  | zero => intro v2 S tg y2 T h; rw [fX12_isHeard_28] at h; cases h
  | succ n ih =>
    intro v2 S tg y2 T h k0 k1
    rw [fX12_isHeard_28] at h
    refine r_iload_n (x := v2) dX12_isHeard_28 rfl ?_
    refine r_aload_n (x := 80) dX12_isHeard_29 rfl ?_
    refine r_getfield (o := 80) (v := .int (S.1 80 49)) dX12_isHeard_30 lX12_279 ck80 nC80 rfl ?_
    refine r_icmp_ge (tgt := 86) dX12_isHeard_33 (by decide) (fun c7 => ?_) (fun c7 => ?_)
    · rw [if_pos c7] at h
      cases h
      exact k0 rfl
    · rw [if_neg c7] at h
      refine r_aload_n (x := 80) dX12_isHeard_36 rfl ?_
      refine r_getfield (o := 80) (v := .ref 105) dX12_isHeard_37 lX12_96 ck80 nC80 rfl ?_
      refine r_iconst (v := 3) dX12_isHeard_40 rfl ?_
      refine r_iload_n (x := v2) dX12_isHeard_41 rfl ?_
      refine r_imul dX12_isHeard_42 ?_
      refine r_iconst (v := 1) dX12_isHeard_43 rfl ?_
      refine r_iadd dX12_isHeard_44 ?_
      obtain ⟨g8, h⟩ := gd_e h
      refine r_iaload (a := 105) dX12_isHeard_45 ck105 nC105 (inr_IX g8) ?_
      refine r_iload_n (x := v1) dX12_isHeard_46 rfl ?_
      refine r_icmp_ne (tgt := 80) dX12_isHeard_47 (by decide) (fun c9 => ?_) (fun c9 => ?_)
      · rw [if_neg c9] at h
        obtain ⟨x10, hx10⟩ : ∃ y : Int32, y = (v2 + 1 : Int32) := ⟨_, rfl⟩
        replace h := lt_e hx10 h
        refine r_iinc (x := v2) (v := x10) (L' := [some (.ref 80), some (.int v1), some (.int x10)]) dX12_isHeard_80 rfl (by rw [hx10]; rfl) (Nat.le_of_ble_eq_true rfl) rfl rfl ?_
        refine r_goto (tgt := 28) dX12_isHeard_83 (by decide) ?_
        exact ih _ _ _ _ _ h k0 k1
      · rw [if_pos c9] at h
        refine r_aload_n (x := 80) dX12_isHeard_50 rfl ?_
        refine r_getfield (o := 80) (v := .int (S.1 80 38)) dX12_isHeard_51 lX12_300 ck80 nC80 rfl ?_
        refine r_aload_n (x := 80) dX12_isHeard_54 rfl ?_
        refine r_getfield (o := 80) (v := .ref 105) dX12_isHeard_55 lX12_96 ck80 nC80 rfl ?_
        refine r_iconst (v := 3) dX12_isHeard_58 rfl ?_
        refine r_iload_n (x := v2) dX12_isHeard_59 rfl ?_
        refine r_imul dX12_isHeard_60 ?_
        obtain ⟨g11, h⟩ := gd_e h
        refine r_iaload (a := 105) dX12_isHeard_61 ck105 nC105 (inr_IX g11) ?_
        refine r_ishr dX12_isHeard_62 ?_
        refine r_iconst (v := 1) dX12_isHeard_63 rfl ?_
        refine r_iand dX12_isHeard_64 ?_
        refine r_aload_n (x := 80) dX12_isHeard_65 rfl ?_
        refine r_getfield (o := 80) (v := .ref 105) dX12_isHeard_66 lX12_96 ck80 nC80 rfl ?_
        refine r_iconst (v := 3) dX12_isHeard_69 rfl ?_
        refine r_iload_n (x := v2) dX12_isHeard_70 rfl ?_
        refine r_imul dX12_isHeard_71 ?_
        refine r_iconst (v := 2) dX12_isHeard_72 rfl ?_
        refine r_iadd dX12_isHeard_73 ?_
        obtain ⟨g12, h⟩ := gd_e h
        refine r_iaload (a := 105) dX12_isHeard_74 ck105 nC105 (inr_IX g12) ?_
        refine r_icmp_eq (tgt := 80) dX12_isHeard_75 (by decide) (fun c13 => ?_) (fun c13 => ?_)
        · rw [if_pos c13] at h
          obtain ⟨x14, hx14⟩ : ∃ y : Int32, y = (v2 + 1 : Int32) := ⟨_, rfl⟩
          replace h := lt_e hx14 h
          refine r_iinc (x := v2) (v := x14) (L' := [some (.ref 80), some (.int v1), some (.int x14)]) dX12_isHeard_80 rfl (by rw [hx14]; rfl) (Nat.le_of_ble_eq_true rfl) rfl rfl ?_
          refine r_goto (tgt := 28) dX12_isHeard_83 (by decide) ?_
          exact ih _ _ _ _ _ h k0 k1
        · rw [if_neg c13] at h
          cases h
          exact k1 rfl
def fX12_isHeard_2 (N : Nat)  : Nat → Int32 → PS → Option (Nat × Int32 × PS)
  | 0, _, _ => none
  | n + 1, v1, S =>
    (if 40 < v1 then
      some (0, v1, S)
    else
      bV (fX12_hourGoes N 64 S) fun S3 =>
      gd (inr (v1 - 1) 40) <|
      lt ((u2 S3.1 106 (ix (v1 - 1)) (S3.1 80 38), S3.2) : PS) fun S6 =>
      bT (fX12_isHeard_28 N v1 N 0 S6) fun q15 =>
      lt (q15.1 : Nat) fun t18 =>
      lt (q15.2.1 : Int32) fun x16 =>
      lt (q15.2.2 : PS) fun S17 =>
      (if t18 = 0 then
        lt (v1 + 1 : Int32) fun x20 =>
        fX12_isHeard_2 N  n x20 S17
      else 
        some (1, v1, S17)))
set_option maxHeartbeats 4000000 in
set_option maxRecDepth 100000 in
theorem okX12_isHeard_2 (N : Nat)  (Q : OQ) (u : Nat) (hu : u ≤ 0) : ∀ (n : Nat) (v1 : Int32) (S : PS) (tg : Nat) (y1 : Int32) (T : PS), fX12_isHeard_2 N  n v1 S = some (tg, y1, T) → (tg = 0 → WP [] mX12_isHeard 5 0 Q 92 [some (.ref 80), some (.int y1), none] [] T u) → (tg = 1 → WP [] mX12_isHeard 5 0 Q 78 [some (.ref 80), some (.int y1), none] [] T u) → WP [] mX12_isHeard 5 0 Q 2 [some (.ref 80), some (.int v1), none] [] S u := by
  intro n
  induction n with
  | zero => intro v1 S tg y1 T h; rw [fX12_isHeard_2] at h; cases h
  | succ n ih =>
    intro v1 S tg y1 T h k0 k1
    rw [fX12_isHeard_2] at h
    refine r_iload_n (x := v1) dX12_isHeard_2 rfl ?_
    refine r_bipush (v := 40) dX12_isHeard_3 rfl ?_
    refine r_icmp_gt (tgt := 92) dX12_isHeard_5 (by decide) (fun c1 => ?_) (fun c1 => ?_)
    · rw [if_pos c1] at h
      cases h
      exact k0 rfl
    · rw [if_neg c1] at h
      refine r_aload_n (x := 80) dX12_isHeard_8 rfl ?_
      refine r_bipush (v := 64) dX12_isHeard_9 rfl ?_
      obtain ⟨S3, h4, h⟩ := bV_e h
      refine r_cVV (y := mX12_hourGoes) (As := [.int 64]) (rest := []) dX12_isHeard_11 qX12_323 kX12_hourGoes rfl ob80 vc12 rfl (okX12_hourGoes N 64 S S3 h4) (by decide) hu rfl (Nat.le_of_ble_eq_true rfl) ?_
      refine r_aload_n (x := 80) dX12_isHeard_14 rfl ?_
      refine r_getfield (o := 80) (v := .ref 106) dX12_isHeard_15 lX12_99 ck80 nC80 rfl ?_
      refine r_iload_n (x := v1) dX12_isHeard_18 rfl ?_
      refine r_iconst (v := 1) dX12_isHeard_19 rfl ?_
      refine r_isub dX12_isHeard_20 ?_
      refine r_aload_n (x := 80) dX12_isHeard_21 rfl ?_
      refine r_getfield (o := 80) (v := .int (S3.1 80 38)) dX12_isHeard_22 lX12_300 ck80 nC80 rfl ?_
      obtain ⟨g5, h⟩ := gd_e h
      refine r_iastore (a := 106) dX12_isHeard_25 ck106 nC106 (inr_IX g5) ?_
      refine r_topS (fun S6 hS6 => ?_)
      replace h := lt_e hS6 h
      refine r_iconst (v := 0) dX12_isHeard_26 rfl ?_
      refine r_istore_n (L' := [some (.ref 80), some (.int v1), some (.int 0)]) dX12_isHeard_27 (Nat.le_of_ble_eq_true rfl) rfl rfl ?_
      obtain ⟨⟨t18, x16, S17⟩, h19, h⟩ := bT_e h
      dsimp only at h
      replace h := pl_s (pl_s (pl_s (h)))
      refine okX12_isHeard_28 N v1 Q u hu _ _ _ _ _ _ h19 (fun et18 => ?_) (fun et18 => ?_)
      · rw [if_pos et18] at h
        obtain ⟨x20, hx20⟩ : ∃ y : Int32, y = (v1 + 1 : Int32) := ⟨_, rfl⟩
        replace h := lt_e hx20 h
        refine r_iinc (x := v1) (v := x20) (L' := [some (.ref 80), some (.int x20), some (.int x16)]) dX12_isHeard_86 rfl (by rw [hx20]; rfl) (Nat.le_of_ble_eq_true rfl) rfl rfl ?_
        refine r_goto (tgt := 2) dX12_isHeard_89 (by decide) ?_
        refine r_drop [true, true, false] rfl ?_
        exact ih _ _ _ _ _ h k0 k1
      · rw [if_neg (by rw [et18]; decide)] at h
        cases h
        refine r_drop [true, true, false] rfl ?_
        exact k1 rfl
def fX12_isHeard (N : Nat)  (S : PS) : Option (Int32 × PS) :=
  bT (fX12_isHeard_2 N  N 1 S) fun q21 =>
  lt (q21.1 : Nat) fun t24 =>
  lt (q21.2.1 : Int32) fun x22 =>
  lt (q21.2.2 : PS) fun S23 =>
  (if t24 = 0 then
    some (1, S23)
  else 
    some (0, S23))
set_option maxHeartbeats 4000000 in
set_option maxRecDepth 100000 in
theorem okX12_isHeard (N : Nat)  (S : PS) (r : Int32) (T : PS) (h : fX12_isHeard N  S = some (r, T)) : CT mX12_isHeard 5 0 [.ref 80] S (qI r T) := by
  refine ct_of [some (.ref 80), none, none] rfl (fun _ => rfl) (fun _ => Nat.le_of_ble_eq_true rfl) ?_
  unfold fX12_isHeard at h
  refine r_iconst (v := 1) dX12_isHeard_0 rfl ?_
  refine r_istore_n (L' := [some (.ref 80), some (.int 1), none]) dX12_isHeard_1 (Nat.le_of_ble_eq_true rfl) rfl rfl ?_
  obtain ⟨⟨t24, x22, S23⟩, h25, h⟩ := bT_e h
  dsimp only at h
  replace h := pl_s (pl_s (pl_s (h)))
  refine okX12_isHeard_2 N  (qI r T) 0 (Nat.zero_le _) _ _ _ _ _ _ h25 (fun et24 => ?_) (fun et24 => ?_)
  · rw [if_pos et24] at h
    refine r_iconst (v := 1) dX12_isHeard_92 rfl ?_
    cases h
    exact r_zreturn dX12_isHeard_93 rfl rfl (Nat.zero_le _) ⟨rfl, rfl⟩
  · rw [if_neg (by rw [et24]; decide)] at h
    refine r_iconst (v := 0) dX12_isHeard_78 rfl ?_
    cases h
    exact r_zreturn dX12_isHeard_79 rfl rfl (Nat.zero_le _) ⟨rfl, rfl⟩
def fX12_isGuess (N : Nat) (p0 : Int32) (S : PS) : Option (Int32 × PS) :=
  lt ((p0 / 10) : Int32) fun x1 =>
  (if (p0 - p0 / 10 * 10) = 9 then
    (if ((-1) : Int32) = (-1) then
      gd (inr (28 + x1) 128) <|
      (if (S.1 91 (ix (28 + x1))) = (-1) then
        gd (inr (19 + x1) 128) <|
        (if (S.1 91 (ix (19 + x1))) = (-1) then
          some (0, S)
        else
          bV (fX12_tries N  S) fun S71 =>
          bV (fX12_leads N 64 x1 (-1) S71) fun S74 =>
          bI (fX12_isHeard N  S74) fun x76 S77 =>
          gd (b01 x76) <|
          some (x76, S77))
      else
        bV (fX12_tries N  S) fun S59 =>
        bV (fX12_leads N 64 x1 (-1) S59) fun S62 =>
        bI (fX12_isHeard N  S62) fun x64 S65 =>
        gd (b01 x64) <|
        some (x64, S65))
    else
      (if (-1) ≤ x1 then
        some (0, S)
      else
        (if (S.1 80 1) ≤ (-1) then
          some (0, S)
        else
          gd (inr (28 + x1) 128) <|
          (if (S.1 91 (ix (28 + x1))) = (-1) then
            gd (inr (19 + x1) 128) <|
            (if (S.1 91 (ix (19 + x1))) = (-1) then
              some (0, S)
            else
              bV (fX12_tries N  S) fun S97 =>
              bV (fX12_leads N 64 x1 (-1) S97) fun S100 =>
              bI (fX12_isHeard N  S100) fun x102 S103 =>
              gd (b01 x102) <|
              some (x102, S103))
          else
            bV (fX12_tries N  S) fun S85 =>
            bV (fX12_leads N 64 x1 (-1) S85) fun S88 =>
            bI (fX12_isHeard N  S88) fun x90 S91 =>
            gd (b01 x90) <|
            some (x90, S91)))))
  else
    lt ((p0 - p0 / 10 * 10) : Int32) fun x3 =>
    (if x3 = (-1) then
      gd (inr (28 + x1) 128) <|
      (if (S.1 91 (ix (28 + x1))) = (-1) then
        gd (inr (19 + x1) 128) <|
        (if (S.1 91 (ix (19 + x1))) = x3 then
          some (0, S)
        else
          bV (fX12_tries N  S) fun S20 =>
          bV (fX12_leads N 64 x1 x3 S20) fun S23 =>
          bI (fX12_isHeard N  S23) fun x25 S26 =>
          gd (b01 x25) <|
          some (x25, S26))
      else
        bV (fX12_tries N  S) fun S8 =>
        bV (fX12_leads N 64 x1 x3 S8) fun S11 =>
        bI (fX12_isHeard N  S11) fun x13 S14 =>
        gd (b01 x13) <|
        some (x13, S14))
    else
      (if x3 ≤ x1 then
        some (0, S)
      else
        (if (S.1 80 1) ≤ x3 then
          some (0, S)
        else
          gd (inr (28 + x1) 128) <|
          (if (S.1 91 (ix (28 + x1))) = (-1) then
            gd (inr (19 + x1) 128) <|
            (if (S.1 91 (ix (19 + x1))) = x3 then
              some (0, S)
            else
              bV (fX12_tries N  S) fun S46 =>
              bV (fX12_leads N 64 x1 x3 S46) fun S49 =>
              bI (fX12_isHeard N  S49) fun x51 S52 =>
              gd (b01 x51) <|
              some (x51, S52))
          else
            bV (fX12_tries N  S) fun S34 =>
            bV (fX12_leads N 64 x1 x3 S34) fun S37 =>
            bI (fX12_isHeard N  S37) fun x39 S40 =>
            gd (b01 x39) <|
            some (x39, S40))))))
set_option maxHeartbeats 4000000 in
set_option maxRecDepth 100000 in
theorem okX12_isGuess (N : Nat) (p0 : Int32) (S : PS) (r : Int32) (T : PS) (h : fX12_isGuess N p0 S = some (r, T)) : CT mX12_isGuess 6 0 [.ref 80, .int p0] S (qI r T) := by
  refine ct_of [some (.ref 80), some (.int p0), none, none] rfl (fun _ => rfl) (fun _ => Nat.le_of_ble_eq_true rfl) ?_
  unfold fX12_isGuess at h
  refine r_iload_n (x := p0) dX12_isGuess_0 rfl ?_
  refine r_bipush (v := 10) dX12_isGuess_1 rfl ?_
  refine r_idiv dX12_isGuess_3 (by decide) ?_
  refine r_topi (fun x1 hx1 => ?_)
  replace h := lt_e hx1 h
  refine r_istore_n (L' := [some (.ref 80), some (.int p0), some (.int x1), none]) dX12_isGuess_4 (Nat.le_of_ble_eq_true rfl) rfl rfl ?_
  refine r_iload_n (x := p0) dX12_isGuess_5 rfl ?_
  refine r_bipush (v := 10) dX12_isGuess_6 rfl ?_
  refine r_irem dX12_isGuess_8 (by decide) ?_
  refine r_bipush (v := 9) dX12_isGuess_9 rfl ?_
  refine r_icmp_ne (tgt := 18) dX12_isGuess_11 (by decide) (fun c2 => ?_) (fun c2 => ?_)
  · rw [if_neg c2] at h
    refine r_iload_n (x := p0) dX12_isGuess_18 rfl ?_
    refine r_bipush (v := 10) dX12_isGuess_19 rfl ?_
    refine r_irem dX12_isGuess_21 (by decide) ?_
    refine r_topi (fun x3 hx3 => ?_)
    replace h := lt_e hx3 h
    refine r_istore_n (L' := [some (.ref 80), some (.int p0), some (.int x1), some (.int x3)]) dX12_isGuess_22 (Nat.le_of_ble_eq_true rfl) rfl rfl ?_
    refine r_iload_n (x := x3) dX12_isGuess_23 rfl ?_
    refine r_iconst (v := (-1)) dX12_isGuess_24 rfl ?_
    refine r_icmp_eq (tgt := 41) dX12_isGuess_25 (by decide) (fun c4 => ?_) (fun c4 => ?_)
    · rw [if_pos c4] at h
      refine r_aload_n (x := 80) dX12_isGuess_41 rfl ?_
      refine r_getfield (o := 80) (v := .ref 91) dX12_isGuess_42 lX12_51 ck80 nC80 rfl ?_
      refine r_bipush (v := 28) dX12_isGuess_45 rfl ?_
      refine r_iload_n (x := x1) dX12_isGuess_47 rfl ?_
      refine r_iadd dX12_isGuess_48 ?_
      obtain ⟨g5, h⟩ := gd_e h
      refine r_iaload (a := 91) dX12_isGuess_49 ck91 nC91 (inr_IX g5) ?_
      refine r_iconst (v := (-1)) dX12_isGuess_50 rfl ?_
      refine r_icmp_ne (tgt := 69) dX12_isGuess_51 (by decide) (fun c6 => ?_) (fun c6 => ?_)
      · rw [if_neg c6] at h
        refine r_aload_n (x := 80) dX12_isGuess_69 rfl ?_
        obtain ⟨S8, h9, h⟩ := bV_e h
        refine r_cVV (y := mX12_tries) (As := []) (rest := []) dX12_isGuess_70 qX12_381 kX12_tries rfl ob80 vc12 rfl (okX12_tries N  S S8 h9) (by decide) (Nat.zero_le _) rfl (Nat.le_of_ble_eq_true rfl) ?_
        refine r_aload_n (x := 80) dX12_isGuess_73 rfl ?_
        refine r_bipush (v := 64) dX12_isGuess_74 rfl ?_
        refine r_iload_n (x := x1) dX12_isGuess_76 rfl ?_
        refine r_iload_n (x := x3) dX12_isGuess_77 rfl ?_
        obtain ⟨S11, h12, h⟩ := bV_e h
        refine r_cVV (y := mX12_leads) (As := [.int 64, .int x1, .int x3]) (rest := []) dX12_isGuess_78 qX12_369 kX12_leads rfl ob80 vc12 rfl (okX12_leads N 64 x1 x3 S8 S11 h12) (by decide) (Nat.zero_le _) rfl (Nat.le_of_ble_eq_true rfl) ?_
        refine r_aload_n (x := 80) dX12_isGuess_81 rfl ?_
        obtain ⟨x13, S14, h15, h⟩ := bI_e h
        refine r_cVI (y := mX12_isHeard) (As := []) (rest := []) dX12_isGuess_82 qX12_408 kX12_isHeard rfl ob80 vc12 rfl (okX12_isHeard N  S11 x13 S14 h15) (by decide) (Nat.zero_le _) rfl (Nat.le_of_ble_eq_true rfl) ?_
        obtain ⟨g16, h⟩ := gd_e h
        cases h
        exact r_zreturn dX12_isGuess_85 rfl (nar01 g16) (Nat.zero_le _) ⟨rfl, rfl⟩
      · rw [if_pos c6] at h
        refine r_aload_n (x := 80) dX12_isGuess_54 rfl ?_
        refine r_getfield (o := 80) (v := .ref 91) dX12_isGuess_55 lX12_51 ck80 nC80 rfl ?_
        refine r_bipush (v := 19) dX12_isGuess_58 rfl ?_
        refine r_iload_n (x := x1) dX12_isGuess_60 rfl ?_
        refine r_iadd dX12_isGuess_61 ?_
        obtain ⟨g17, h⟩ := gd_e h
        refine r_iaload (a := 91) dX12_isGuess_62 ck91 nC91 (inr_IX g17) ?_
        refine r_iload_n (x := x3) dX12_isGuess_63 rfl ?_
        refine r_icmp_ne (tgt := 69) dX12_isGuess_64 (by decide) (fun c18 => ?_) (fun c18 => ?_)
        · rw [if_neg c18] at h
          refine r_aload_n (x := 80) dX12_isGuess_69 rfl ?_
          obtain ⟨S20, h21, h⟩ := bV_e h
          refine r_cVV (y := mX12_tries) (As := []) (rest := []) dX12_isGuess_70 qX12_381 kX12_tries rfl ob80 vc12 rfl (okX12_tries N  S S20 h21) (by decide) (Nat.zero_le _) rfl (Nat.le_of_ble_eq_true rfl) ?_
          refine r_aload_n (x := 80) dX12_isGuess_73 rfl ?_
          refine r_bipush (v := 64) dX12_isGuess_74 rfl ?_
          refine r_iload_n (x := x1) dX12_isGuess_76 rfl ?_
          refine r_iload_n (x := x3) dX12_isGuess_77 rfl ?_
          obtain ⟨S23, h24, h⟩ := bV_e h
          refine r_cVV (y := mX12_leads) (As := [.int 64, .int x1, .int x3]) (rest := []) dX12_isGuess_78 qX12_369 kX12_leads rfl ob80 vc12 rfl (okX12_leads N 64 x1 x3 S20 S23 h24) (by decide) (Nat.zero_le _) rfl (Nat.le_of_ble_eq_true rfl) ?_
          refine r_aload_n (x := 80) dX12_isGuess_81 rfl ?_
          obtain ⟨x25, S26, h27, h⟩ := bI_e h
          refine r_cVI (y := mX12_isHeard) (As := []) (rest := []) dX12_isGuess_82 qX12_408 kX12_isHeard rfl ob80 vc12 rfl (okX12_isHeard N  S23 x25 S26 h27) (by decide) (Nat.zero_le _) rfl (Nat.le_of_ble_eq_true rfl) ?_
          obtain ⟨g28, h⟩ := gd_e h
          cases h
          exact r_zreturn dX12_isGuess_85 rfl (nar01 g28) (Nat.zero_le _) ⟨rfl, rfl⟩
        · rw [if_pos c18] at h
          refine r_iconst (v := 0) dX12_isGuess_67 rfl ?_
          cases h
          exact r_zreturn dX12_isGuess_68 rfl rfl (Nat.zero_le _) ⟨rfl, rfl⟩
    · rw [if_neg c4] at h
      refine r_iload_n (x := x3) dX12_isGuess_28 rfl ?_
      refine r_iload_n (x := x1) dX12_isGuess_29 rfl ?_
      refine r_icmp_le (tgt := 67) dX12_isGuess_30 (by decide) (fun c29 => ?_) (fun c29 => ?_)
      · rw [if_pos c29] at h
        refine r_iconst (v := 0) dX12_isGuess_67 rfl ?_
        cases h
        exact r_zreturn dX12_isGuess_68 rfl rfl (Nat.zero_le _) ⟨rfl, rfl⟩
      · rw [if_neg c29] at h
        refine r_iload_n (x := x3) dX12_isGuess_33 rfl ?_
        refine r_aload_n (x := 80) dX12_isGuess_34 rfl ?_
        refine r_getfield (o := 80) (v := .int (S.1 80 1)) dX12_isGuess_35 lX12_269 ck80 nC80 rfl ?_
        refine r_icmp_ge (tgt := 67) dX12_isGuess_38 (by decide) (fun c30 => ?_) (fun c30 => ?_)
        · rw [if_pos c30] at h
          refine r_iconst (v := 0) dX12_isGuess_67 rfl ?_
          cases h
          exact r_zreturn dX12_isGuess_68 rfl rfl (Nat.zero_le _) ⟨rfl, rfl⟩
        · rw [if_neg c30] at h
          refine r_aload_n (x := 80) dX12_isGuess_41 rfl ?_
          refine r_getfield (o := 80) (v := .ref 91) dX12_isGuess_42 lX12_51 ck80 nC80 rfl ?_
          refine r_bipush (v := 28) dX12_isGuess_45 rfl ?_
          refine r_iload_n (x := x1) dX12_isGuess_47 rfl ?_
          refine r_iadd dX12_isGuess_48 ?_
          obtain ⟨g31, h⟩ := gd_e h
          refine r_iaload (a := 91) dX12_isGuess_49 ck91 nC91 (inr_IX g31) ?_
          refine r_iconst (v := (-1)) dX12_isGuess_50 rfl ?_
          refine r_icmp_ne (tgt := 69) dX12_isGuess_51 (by decide) (fun c32 => ?_) (fun c32 => ?_)
          · rw [if_neg c32] at h
            refine r_aload_n (x := 80) dX12_isGuess_69 rfl ?_
            obtain ⟨S34, h35, h⟩ := bV_e h
            refine r_cVV (y := mX12_tries) (As := []) (rest := []) dX12_isGuess_70 qX12_381 kX12_tries rfl ob80 vc12 rfl (okX12_tries N  S S34 h35) (by decide) (Nat.zero_le _) rfl (Nat.le_of_ble_eq_true rfl) ?_
            refine r_aload_n (x := 80) dX12_isGuess_73 rfl ?_
            refine r_bipush (v := 64) dX12_isGuess_74 rfl ?_
            refine r_iload_n (x := x1) dX12_isGuess_76 rfl ?_
            refine r_iload_n (x := x3) dX12_isGuess_77 rfl ?_
            obtain ⟨S37, h38, h⟩ := bV_e h
            refine r_cVV (y := mX12_leads) (As := [.int 64, .int x1, .int x3]) (rest := []) dX12_isGuess_78 qX12_369 kX12_leads rfl ob80 vc12 rfl (okX12_leads N 64 x1 x3 S34 S37 h38) (by decide) (Nat.zero_le _) rfl (Nat.le_of_ble_eq_true rfl) ?_
            refine r_aload_n (x := 80) dX12_isGuess_81 rfl ?_
            obtain ⟨x39, S40, h41, h⟩ := bI_e h
            refine r_cVI (y := mX12_isHeard) (As := []) (rest := []) dX12_isGuess_82 qX12_408 kX12_isHeard rfl ob80 vc12 rfl (okX12_isHeard N  S37 x39 S40 h41) (by decide) (Nat.zero_le _) rfl (Nat.le_of_ble_eq_true rfl) ?_
            obtain ⟨g42, h⟩ := gd_e h
            cases h
            exact r_zreturn dX12_isGuess_85 rfl (nar01 g42) (Nat.zero_le _) ⟨rfl, rfl⟩
          · rw [if_pos c32] at h
            refine r_aload_n (x := 80) dX12_isGuess_54 rfl ?_
            refine r_getfield (o := 80) (v := .ref 91) dX12_isGuess_55 lX12_51 ck80 nC80 rfl ?_
            refine r_bipush (v := 19) dX12_isGuess_58 rfl ?_
            refine r_iload_n (x := x1) dX12_isGuess_60 rfl ?_
            refine r_iadd dX12_isGuess_61 ?_
            obtain ⟨g43, h⟩ := gd_e h
            refine r_iaload (a := 91) dX12_isGuess_62 ck91 nC91 (inr_IX g43) ?_
            refine r_iload_n (x := x3) dX12_isGuess_63 rfl ?_
            refine r_icmp_ne (tgt := 69) dX12_isGuess_64 (by decide) (fun c44 => ?_) (fun c44 => ?_)
            · rw [if_neg c44] at h
              refine r_aload_n (x := 80) dX12_isGuess_69 rfl ?_
              obtain ⟨S46, h47, h⟩ := bV_e h
              refine r_cVV (y := mX12_tries) (As := []) (rest := []) dX12_isGuess_70 qX12_381 kX12_tries rfl ob80 vc12 rfl (okX12_tries N  S S46 h47) (by decide) (Nat.zero_le _) rfl (Nat.le_of_ble_eq_true rfl) ?_
              refine r_aload_n (x := 80) dX12_isGuess_73 rfl ?_
              refine r_bipush (v := 64) dX12_isGuess_74 rfl ?_
              refine r_iload_n (x := x1) dX12_isGuess_76 rfl ?_
              refine r_iload_n (x := x3) dX12_isGuess_77 rfl ?_
              obtain ⟨S49, h50, h⟩ := bV_e h
              refine r_cVV (y := mX12_leads) (As := [.int 64, .int x1, .int x3]) (rest := []) dX12_isGuess_78 qX12_369 kX12_leads rfl ob80 vc12 rfl (okX12_leads N 64 x1 x3 S46 S49 h50) (by decide) (Nat.zero_le _) rfl (Nat.le_of_ble_eq_true rfl) ?_
              refine r_aload_n (x := 80) dX12_isGuess_81 rfl ?_
              obtain ⟨x51, S52, h53, h⟩ := bI_e h
              refine r_cVI (y := mX12_isHeard) (As := []) (rest := []) dX12_isGuess_82 qX12_408 kX12_isHeard rfl ob80 vc12 rfl (okX12_isHeard N  S49 x51 S52 h53) (by decide) (Nat.zero_le _) rfl (Nat.le_of_ble_eq_true rfl) ?_
              obtain ⟨g54, h⟩ := gd_e h
              cases h
              exact r_zreturn dX12_isGuess_85 rfl (nar01 g54) (Nat.zero_le _) ⟨rfl, rfl⟩
            · rw [if_pos c44] at h
              refine r_iconst (v := 0) dX12_isGuess_67 rfl ?_
              cases h
              exact r_zreturn dX12_isGuess_68 rfl rfl (Nat.zero_le _) ⟨rfl, rfl⟩
  · rw [if_pos c2] at h
    refine r_iconst (v := (-1)) dX12_isGuess_14 rfl ?_
    refine r_goto (tgt := 22) dX12_isGuess_15 (by decide) ?_
    refine r_istore_n (L' := [some (.ref 80), some (.int p0), some (.int x1), some (.int (-1))]) dX12_isGuess_22 (Nat.le_of_ble_eq_true rfl) rfl rfl ?_
    refine r_iload_n (x := (-1)) dX12_isGuess_23 rfl ?_
    refine r_iconst (v := (-1)) dX12_isGuess_24 rfl ?_
    refine r_icmp_eq (tgt := 41) dX12_isGuess_25 (by decide) (fun c55 => ?_) (fun c55 => ?_)
    · rw [if_pos c55] at h
      refine r_aload_n (x := 80) dX12_isGuess_41 rfl ?_
      refine r_getfield (o := 80) (v := .ref 91) dX12_isGuess_42 lX12_51 ck80 nC80 rfl ?_
      refine r_bipush (v := 28) dX12_isGuess_45 rfl ?_
      refine r_iload_n (x := x1) dX12_isGuess_47 rfl ?_
      refine r_iadd dX12_isGuess_48 ?_
      obtain ⟨g56, h⟩ := gd_e h
      refine r_iaload (a := 91) dX12_isGuess_49 ck91 nC91 (inr_IX g56) ?_
      refine r_iconst (v := (-1)) dX12_isGuess_50 rfl ?_
      refine r_icmp_ne (tgt := 69) dX12_isGuess_51 (by decide) (fun c57 => ?_) (fun c57 => ?_)
      · rw [if_neg c57] at h
        refine r_aload_n (x := 80) dX12_isGuess_69 rfl ?_
        obtain ⟨S59, h60, h⟩ := bV_e h
        refine r_cVV (y := mX12_tries) (As := []) (rest := []) dX12_isGuess_70 qX12_381 kX12_tries rfl ob80 vc12 rfl (okX12_tries N  S S59 h60) (by decide) (Nat.zero_le _) rfl (Nat.le_of_ble_eq_true rfl) ?_
        refine r_aload_n (x := 80) dX12_isGuess_73 rfl ?_
        refine r_bipush (v := 64) dX12_isGuess_74 rfl ?_
        refine r_iload_n (x := x1) dX12_isGuess_76 rfl ?_
        refine r_iload_n (x := (-1)) dX12_isGuess_77 rfl ?_
        obtain ⟨S62, h63, h⟩ := bV_e h
        refine r_cVV (y := mX12_leads) (As := [.int 64, .int x1, .int (-1)]) (rest := []) dX12_isGuess_78 qX12_369 kX12_leads rfl ob80 vc12 rfl (okX12_leads N 64 x1 (-1) S59 S62 h63) (by decide) (Nat.zero_le _) rfl (Nat.le_of_ble_eq_true rfl) ?_
        refine r_aload_n (x := 80) dX12_isGuess_81 rfl ?_
        obtain ⟨x64, S65, h66, h⟩ := bI_e h
        refine r_cVI (y := mX12_isHeard) (As := []) (rest := []) dX12_isGuess_82 qX12_408 kX12_isHeard rfl ob80 vc12 rfl (okX12_isHeard N  S62 x64 S65 h66) (by decide) (Nat.zero_le _) rfl (Nat.le_of_ble_eq_true rfl) ?_
        obtain ⟨g67, h⟩ := gd_e h
        cases h
        exact r_zreturn dX12_isGuess_85 rfl (nar01 g67) (Nat.zero_le _) ⟨rfl, rfl⟩
      · rw [if_pos c57] at h
        refine r_aload_n (x := 80) dX12_isGuess_54 rfl ?_
        refine r_getfield (o := 80) (v := .ref 91) dX12_isGuess_55 lX12_51 ck80 nC80 rfl ?_
        refine r_bipush (v := 19) dX12_isGuess_58 rfl ?_
        refine r_iload_n (x := x1) dX12_isGuess_60 rfl ?_
        refine r_iadd dX12_isGuess_61 ?_
        obtain ⟨g68, h⟩ := gd_e h
        refine r_iaload (a := 91) dX12_isGuess_62 ck91 nC91 (inr_IX g68) ?_
        refine r_iload_n (x := (-1)) dX12_isGuess_63 rfl ?_
        refine r_icmp_ne (tgt := 69) dX12_isGuess_64 (by decide) (fun c69 => ?_) (fun c69 => ?_)
        · rw [if_neg c69] at h
          refine r_aload_n (x := 80) dX12_isGuess_69 rfl ?_
          obtain ⟨S71, h72, h⟩ := bV_e h
          refine r_cVV (y := mX12_tries) (As := []) (rest := []) dX12_isGuess_70 qX12_381 kX12_tries rfl ob80 vc12 rfl (okX12_tries N  S S71 h72) (by decide) (Nat.zero_le _) rfl (Nat.le_of_ble_eq_true rfl) ?_
          refine r_aload_n (x := 80) dX12_isGuess_73 rfl ?_
          refine r_bipush (v := 64) dX12_isGuess_74 rfl ?_
          refine r_iload_n (x := x1) dX12_isGuess_76 rfl ?_
          refine r_iload_n (x := (-1)) dX12_isGuess_77 rfl ?_
          obtain ⟨S74, h75, h⟩ := bV_e h
          refine r_cVV (y := mX12_leads) (As := [.int 64, .int x1, .int (-1)]) (rest := []) dX12_isGuess_78 qX12_369 kX12_leads rfl ob80 vc12 rfl (okX12_leads N 64 x1 (-1) S71 S74 h75) (by decide) (Nat.zero_le _) rfl (Nat.le_of_ble_eq_true rfl) ?_
          refine r_aload_n (x := 80) dX12_isGuess_81 rfl ?_
          obtain ⟨x76, S77, h78, h⟩ := bI_e h
          refine r_cVI (y := mX12_isHeard) (As := []) (rest := []) dX12_isGuess_82 qX12_408 kX12_isHeard rfl ob80 vc12 rfl (okX12_isHeard N  S74 x76 S77 h78) (by decide) (Nat.zero_le _) rfl (Nat.le_of_ble_eq_true rfl) ?_
          obtain ⟨g79, h⟩ := gd_e h
          cases h
          exact r_zreturn dX12_isGuess_85 rfl (nar01 g79) (Nat.zero_le _) ⟨rfl, rfl⟩
        · rw [if_pos c69] at h
          refine r_iconst (v := 0) dX12_isGuess_67 rfl ?_
          cases h
          exact r_zreturn dX12_isGuess_68 rfl rfl (Nat.zero_le _) ⟨rfl, rfl⟩
    · rw [if_neg c55] at h
      refine r_iload_n (x := (-1)) dX12_isGuess_28 rfl ?_
      refine r_iload_n (x := x1) dX12_isGuess_29 rfl ?_
      refine r_icmp_le (tgt := 67) dX12_isGuess_30 (by decide) (fun c80 => ?_) (fun c80 => ?_)
      · rw [if_pos c80] at h
        refine r_iconst (v := 0) dX12_isGuess_67 rfl ?_
        cases h
        exact r_zreturn dX12_isGuess_68 rfl rfl (Nat.zero_le _) ⟨rfl, rfl⟩
      · rw [if_neg c80] at h
        refine r_iload_n (x := (-1)) dX12_isGuess_33 rfl ?_
        refine r_aload_n (x := 80) dX12_isGuess_34 rfl ?_
        refine r_getfield (o := 80) (v := .int (S.1 80 1)) dX12_isGuess_35 lX12_269 ck80 nC80 rfl ?_
        refine r_icmp_ge (tgt := 67) dX12_isGuess_38 (by decide) (fun c81 => ?_) (fun c81 => ?_)
        · rw [if_pos c81] at h
          refine r_iconst (v := 0) dX12_isGuess_67 rfl ?_
          cases h
          exact r_zreturn dX12_isGuess_68 rfl rfl (Nat.zero_le _) ⟨rfl, rfl⟩
        · rw [if_neg c81] at h
          refine r_aload_n (x := 80) dX12_isGuess_41 rfl ?_
          refine r_getfield (o := 80) (v := .ref 91) dX12_isGuess_42 lX12_51 ck80 nC80 rfl ?_
          refine r_bipush (v := 28) dX12_isGuess_45 rfl ?_
          refine r_iload_n (x := x1) dX12_isGuess_47 rfl ?_
          refine r_iadd dX12_isGuess_48 ?_
          obtain ⟨g82, h⟩ := gd_e h
          refine r_iaload (a := 91) dX12_isGuess_49 ck91 nC91 (inr_IX g82) ?_
          refine r_iconst (v := (-1)) dX12_isGuess_50 rfl ?_
          refine r_icmp_ne (tgt := 69) dX12_isGuess_51 (by decide) (fun c83 => ?_) (fun c83 => ?_)
          · rw [if_neg c83] at h
            refine r_aload_n (x := 80) dX12_isGuess_69 rfl ?_
            obtain ⟨S85, h86, h⟩ := bV_e h
            refine r_cVV (y := mX12_tries) (As := []) (rest := []) dX12_isGuess_70 qX12_381 kX12_tries rfl ob80 vc12 rfl (okX12_tries N  S S85 h86) (by decide) (Nat.zero_le _) rfl (Nat.le_of_ble_eq_true rfl) ?_
            refine r_aload_n (x := 80) dX12_isGuess_73 rfl ?_
            refine r_bipush (v := 64) dX12_isGuess_74 rfl ?_
            refine r_iload_n (x := x1) dX12_isGuess_76 rfl ?_
            refine r_iload_n (x := (-1)) dX12_isGuess_77 rfl ?_
            obtain ⟨S88, h89, h⟩ := bV_e h
            refine r_cVV (y := mX12_leads) (As := [.int 64, .int x1, .int (-1)]) (rest := []) dX12_isGuess_78 qX12_369 kX12_leads rfl ob80 vc12 rfl (okX12_leads N 64 x1 (-1) S85 S88 h89) (by decide) (Nat.zero_le _) rfl (Nat.le_of_ble_eq_true rfl) ?_
            refine r_aload_n (x := 80) dX12_isGuess_81 rfl ?_
            obtain ⟨x90, S91, h92, h⟩ := bI_e h
            refine r_cVI (y := mX12_isHeard) (As := []) (rest := []) dX12_isGuess_82 qX12_408 kX12_isHeard rfl ob80 vc12 rfl (okX12_isHeard N  S88 x90 S91 h92) (by decide) (Nat.zero_le _) rfl (Nat.le_of_ble_eq_true rfl) ?_
            obtain ⟨g93, h⟩ := gd_e h
            cases h
            exact r_zreturn dX12_isGuess_85 rfl (nar01 g93) (Nat.zero_le _) ⟨rfl, rfl⟩
          · rw [if_pos c83] at h
            refine r_aload_n (x := 80) dX12_isGuess_54 rfl ?_
            refine r_getfield (o := 80) (v := .ref 91) dX12_isGuess_55 lX12_51 ck80 nC80 rfl ?_
            refine r_bipush (v := 19) dX12_isGuess_58 rfl ?_
            refine r_iload_n (x := x1) dX12_isGuess_60 rfl ?_
            refine r_iadd dX12_isGuess_61 ?_
            obtain ⟨g94, h⟩ := gd_e h
            refine r_iaload (a := 91) dX12_isGuess_62 ck91 nC91 (inr_IX g94) ?_
            refine r_iload_n (x := (-1)) dX12_isGuess_63 rfl ?_
            refine r_icmp_ne (tgt := 69) dX12_isGuess_64 (by decide) (fun c95 => ?_) (fun c95 => ?_)
            · rw [if_neg c95] at h
              refine r_aload_n (x := 80) dX12_isGuess_69 rfl ?_
              obtain ⟨S97, h98, h⟩ := bV_e h
              refine r_cVV (y := mX12_tries) (As := []) (rest := []) dX12_isGuess_70 qX12_381 kX12_tries rfl ob80 vc12 rfl (okX12_tries N  S S97 h98) (by decide) (Nat.zero_le _) rfl (Nat.le_of_ble_eq_true rfl) ?_
              refine r_aload_n (x := 80) dX12_isGuess_73 rfl ?_
              refine r_bipush (v := 64) dX12_isGuess_74 rfl ?_
              refine r_iload_n (x := x1) dX12_isGuess_76 rfl ?_
              refine r_iload_n (x := (-1)) dX12_isGuess_77 rfl ?_
              obtain ⟨S100, h101, h⟩ := bV_e h
              refine r_cVV (y := mX12_leads) (As := [.int 64, .int x1, .int (-1)]) (rest := []) dX12_isGuess_78 qX12_369 kX12_leads rfl ob80 vc12 rfl (okX12_leads N 64 x1 (-1) S97 S100 h101) (by decide) (Nat.zero_le _) rfl (Nat.le_of_ble_eq_true rfl) ?_
              refine r_aload_n (x := 80) dX12_isGuess_81 rfl ?_
              obtain ⟨x102, S103, h104, h⟩ := bI_e h
              refine r_cVI (y := mX12_isHeard) (As := []) (rest := []) dX12_isGuess_82 qX12_408 kX12_isHeard rfl ob80 vc12 rfl (okX12_isHeard N  S100 x102 S103 h104) (by decide) (Nat.zero_le _) rfl (Nat.le_of_ble_eq_true rfl) ?_
              obtain ⟨g105, h⟩ := gd_e h
              cases h
              exact r_zreturn dX12_isGuess_85 rfl (nar01 g105) (Nat.zero_le _) ⟨rfl, rfl⟩
            · rw [if_pos c95] at h
              refine r_iconst (v := 0) dX12_isGuess_67 rfl ?_
              cases h
              exact r_zreturn dX12_isGuess_68 rfl rfl (Nat.zero_le _) ⟨rfl, rfl⟩
def fX12_led_45 (N : Nat) (v1 : Int32) : Nat → Int32 → Int32 → Int32 → PS → Option (Int32 × Int32 × Int32 × PS)
  | 0, _, _, _, _ => none
  | n + 1, v2, v3, v4, S =>
    (if (10 * (S.1 80 1)) ≤ v4 then
      some (v2, v3, v4, S)
    else
      bI (fX12_isGuess N v4 S) fun x8 S9 =>
      (if x8 = 0 then
        lt (v4 + 1 : Int32) fun x16 =>
        fX12_led_45 N v1 n v2 v3 x16 S9
      else
        lt (v2 + 1 : Int32) fun x12 =>
        (if v3 = (-1) then
          lt (v4 + 1 : Int32) fun x15 =>
          fX12_led_45 N v1 n x12 v4 x15 S9
        else
          lt (v4 + 1 : Int32) fun x14 =>
          fX12_led_45 N v1 n x12 v3 x14 S9)))
set_option maxHeartbeats 4000000 in
set_option maxRecDepth 100000 in
theorem okX12_led_45 (N : Nat) (v1 : Int32) (Q : OQ) (u : Nat) (hu : u ≤ 0) : ∀ (n : Nat) (v2 : Int32) (v3 : Int32) (v4 : Int32) (S : PS) (y2 : Int32) (y3 : Int32) (y4 : Int32) (T : PS), fX12_led_45 N v1 n v2 v3 v4 S = some (y2, y3, y4, T) → WP [] mX12_led 7 0 Q 86 [some (.ref 80), some (.int v1), some (.int y2), some (.int y3), some (.int y4)] [] T u → WP [] mX12_led 7 0 Q 45 [some (.ref 80), some (.int v1), some (.int v2), some (.int v3), some (.int v4)] [] S u := by
  intro n
  induction n with
  | zero => intro v2 v3 v4 S y2 y3 y4 T h; rw [fX12_led_45] at h; cases h
  | succ n ih =>
    intro v2 v3 v4 S y2 y3 y4 T h k0
    rw [fX12_led_45] at h
    refine r_iload (x := v4) dX12_led_45 rfl ?_
    refine r_bipush (v := 10) dX12_led_47 rfl ?_
    refine r_aload_n (x := 80) dX12_led_49 rfl ?_
    refine r_getfield (o := 80) (v := .int (S.1 80 1)) dX12_led_50 lX12_269 ck80 nC80 rfl ?_
    refine r_imul dX12_led_53 ?_
    refine r_icmp_ge (tgt := 86) dX12_led_54 (by decide) (fun c7 => ?_) (fun c7 => ?_)
    · rw [if_pos c7] at h
      cases h
      exact k0
    · rw [if_neg c7] at h
      refine r_aload_n (x := 80) dX12_led_57 rfl ?_
      refine r_iload (x := v4) dX12_led_58 rfl ?_
      obtain ⟨x8, S9, h10, h⟩ := bI_e h
      refine r_cVI (y := mX12_isGuess) (As := [.int v4]) (rest := []) dX12_led_60 qX12_411 kX12_isGuess rfl ob80 vc12 rfl (okX12_isGuess N v4 S x8 S9 h10) (by decide) hu rfl (Nat.le_of_ble_eq_true rfl) ?_
      refine r_if_ne (tgt := 69) dX12_led_63 (by decide) (fun c11 => ?_) (fun c11 => ?_)
      · rw [if_neg c11] at h
        obtain ⟨x12, hx12⟩ : ∃ y : Int32, y = (v2 + 1 : Int32) := ⟨_, rfl⟩
        replace h := lt_e hx12 h
        refine r_iinc (x := v2) (v := x12) (L' := [some (.ref 80), some (.int v1), some (.int x12), some (.int v3), some (.int v4)]) dX12_led_69 rfl (by rw [hx12]; rfl) (Nat.le_of_ble_eq_true rfl) rfl rfl ?_
        refine r_iload_n (x := v3) dX12_led_72 rfl ?_
        refine r_iconst (v := (-1)) dX12_led_73 rfl ?_
        refine r_icmp_ne (tgt := 80) dX12_led_74 (by decide) (fun c13 => ?_) (fun c13 => ?_)
        · rw [if_neg c13] at h
          obtain ⟨x14, hx14⟩ : ∃ y : Int32, y = (v4 + 1 : Int32) := ⟨_, rfl⟩
          replace h := lt_e hx14 h
          refine r_iinc (x := v4) (v := x14) (L' := [some (.ref 80), some (.int v1), some (.int x12), some (.int v3), some (.int x14)]) dX12_led_80 rfl (by rw [hx14]; rfl) (Nat.le_of_ble_eq_true rfl) rfl rfl ?_
          refine r_goto (tgt := 45) dX12_led_83 (by decide) ?_
          exact ih _ _ _ _ _ _ _ _ h k0
        · rw [if_pos c13] at h
          refine r_iload (x := v4) dX12_led_77 rfl ?_
          refine r_istore_n (L' := [some (.ref 80), some (.int v1), some (.int x12), some (.int v4), some (.int v4)]) dX12_led_79 (Nat.le_of_ble_eq_true rfl) rfl rfl ?_
          obtain ⟨x15, hx15⟩ : ∃ y : Int32, y = (v4 + 1 : Int32) := ⟨_, rfl⟩
          replace h := lt_e hx15 h
          refine r_iinc (x := v4) (v := x15) (L' := [some (.ref 80), some (.int v1), some (.int x12), some (.int v4), some (.int x15)]) dX12_led_80 rfl (by rw [hx15]; rfl) (Nat.le_of_ble_eq_true rfl) rfl rfl ?_
          refine r_goto (tgt := 45) dX12_led_83 (by decide) ?_
          exact ih _ _ _ _ _ _ _ _ h k0
      · rw [if_pos c11] at h
        refine r_goto (tgt := 80) dX12_led_66 (by decide) ?_
        obtain ⟨x16, hx16⟩ : ∃ y : Int32, y = (v4 + 1 : Int32) := ⟨_, rfl⟩
        replace h := lt_e hx16 h
        refine r_iinc (x := v4) (v := x16) (L' := [some (.ref 80), some (.int v1), some (.int v2), some (.int v3), some (.int x16)]) dX12_led_80 rfl (by rw [hx16]; rfl) (Nat.le_of_ble_eq_true rfl) rfl rfl ?_
        refine r_goto (tgt := 45) dX12_led_83 (by decide) ?_
        exact ih _ _ _ _ _ _ _ _ h k0
def fX12_led (N : Nat) (p0 : Int32) (S : PS) : Option (Int32 × PS) :=
  lt ((u2 S.1 80 0 0, S.2) : PS) fun S1 =>
  bI (fX12_isWhat N p0 2 S1) fun x2 S3 =>
  (if x2 = 0 then
    some (0, S3)
  else
    (if p0 = 2 then
      bV (fX12_tries N  S3) fun S27 =>
      bI (fX12_isHeard N  S27) fun x29 S30 =>
      lt ((if x29 = 0 then 0 else 1) : Int32) fun x33 =>
      some (x33, S30)
    else
      bT (fX12_led_45 N p0 N 0 (-1) 0 S3) fun q17 =>
      lt (q17.1 : Int32) fun x18 =>
      lt (q17.2.1 : Int32) fun x19 =>
      lt (q17.2.2.1 : Int32) fun x20 =>
      lt (q17.2.2.2 : PS) fun S21 =>
      lt ((if p0 = 0 then x18 else x19) : Int32) fun x25 =>
      some (x25, S21)))
set_option maxHeartbeats 4000000 in
set_option maxRecDepth 100000 in
theorem okX12_led (N : Nat) (p0 : Int32) (S : PS) (r : Int32) (T : PS) (h : fX12_led N p0 S = some (r, T)) : CT mX12_led 7 0 [.ref 80, .int p0] S (qI r T) := by
  refine ct_of [some (.ref 80), some (.int p0), none, none, none] rfl (fun _ => rfl) (fun _ => Nat.le_of_ble_eq_true rfl) ?_
  unfold fX12_led at h
  refine r_aload_n (x := 80) dX12_led_0 rfl ?_
  refine r_iconst (v := 0) dX12_led_1 rfl ?_
  refine r_putI dX12_led_2 lX12_114 ck80 nC80 ?_
  refine r_topS (fun S1 hS1 => ?_)
  replace h := lt_e hS1 h
  refine r_aload_n (x := 80) dX12_led_5 rfl ?_
  refine r_iload_n (x := p0) dX12_led_6 rfl ?_
  refine r_iconst (v := 2) dX12_led_7 rfl ?_
  obtain ⟨x2, S3, h4, h⟩ := bI_e h
  refine r_cVI (y := mX12_isWhat) (As := [.int p0, .int 2]) (rest := []) dX12_led_8 qX12_354 kX12_isWhat rfl ob80 vc12 rfl (okX12_isWhat N p0 2 S1 x2 S3 h4) (by decide) (Nat.zero_le _) rfl (Nat.le_of_ble_eq_true rfl) ?_
  refine r_if_ne (tgt := 16) dX12_led_11 (by decide) (fun c5 => ?_) (fun c5 => ?_)
  · rw [if_neg c5] at h
    refine r_iload_n (x := p0) dX12_led_16 rfl ?_
    refine r_iconst (v := 2) dX12_led_17 rfl ?_
    refine r_icmp_ne (tgt := 38) dX12_led_18 (by decide) (fun c6 => ?_) (fun c6 => ?_)
    · rw [if_neg c6] at h
      refine r_iconst (v := 0) dX12_led_38 rfl ?_
      refine r_istore_n (L' := [some (.ref 80), some (.int p0), some (.int 0), none, none]) dX12_led_39 (Nat.le_of_ble_eq_true rfl) rfl rfl ?_
      refine r_iconst (v := (-1)) dX12_led_40 rfl ?_
      refine r_istore_n (L' := [some (.ref 80), some (.int p0), some (.int 0), some (.int (-1)), none]) dX12_led_41 (Nat.le_of_ble_eq_true rfl) rfl rfl ?_
      refine r_iconst (v := 0) dX12_led_42 rfl ?_
      refine r_istore (L' := [some (.ref 80), some (.int p0), some (.int 0), some (.int (-1)), some (.int 0)]) dX12_led_43 (Nat.le_of_ble_eq_true rfl) rfl rfl ?_
      obtain ⟨⟨x18, x19, x20, S21⟩, h23, h⟩ := bT_e h
      dsimp only at h
      replace h := pl_s (pl_s (pl_s (pl_s (h))))
      refine okX12_led_45 N p0 (qI r T) 0 (Nat.zero_le _) _ _ _ _ _ _ _ _ _ h23 ?_
      refine r_iload_n (x := p0) dX12_led_86 rfl ?_
      obtain ⟨x25, hx25⟩ : ∃ y : Int32, y = ((if p0 = 0 then x18 else x19) : Int32) := ⟨_, rfl⟩
      replace h := lt_e hx25 h
      have keyx25 : WP [] mX12_led 7 0 (qI r T) 95 [some (.ref 80), some (.int p0), some (.int x18), some (.int x19), some (.int x20)] (.int x25 :: []) S21 0 := by
        cases h
        exact r_ireturn dX12_led_95 rfl (Nat.zero_le _) ⟨rfl, rfl⟩
      refine r_if_ne (tgt := 94) dX12_led_87 (by decide) (fun c24 => ?_) (fun c24 => ?_)
      · refine r_iload_n (x := x19) dX12_led_94 rfl ?_
        exact r_tope (by rw [hx25, if_neg c24]) keyx25
      · refine r_iload_n (x := x18) dX12_led_90 rfl ?_
        refine r_goto (tgt := 95) dX12_led_91 (by decide) ?_
        exact r_tope (by rw [hx25, if_pos c24]) keyx25
    · rw [if_pos c6] at h
      refine r_aload_n (x := 80) dX12_led_21 rfl ?_
      obtain ⟨S27, h28, h⟩ := bV_e h
      refine r_cVV (y := mX12_tries) (As := []) (rest := []) dX12_led_22 qX12_381 kX12_tries rfl ob80 vc12 rfl (okX12_tries N  S3 S27 h28) (by decide) (Nat.zero_le _) rfl (Nat.le_of_ble_eq_true rfl) ?_
      refine r_aload_n (x := 80) dX12_led_25 rfl ?_
      obtain ⟨x29, S30, h31, h⟩ := bI_e h
      refine r_cVI (y := mX12_isHeard) (As := []) (rest := []) dX12_led_26 qX12_408 kX12_isHeard rfl ob80 vc12 rfl (okX12_isHeard N  S27 x29 S30 h31) (by decide) (Nat.zero_le _) rfl (Nat.le_of_ble_eq_true rfl) ?_
      obtain ⟨x33, hx33⟩ : ∃ y : Int32, y = ((if x29 = 0 then 0 else 1) : Int32) := ⟨_, rfl⟩
      replace h := lt_e hx33 h
      have keyx33 : WP [] mX12_led 7 0 (qI r T) 37 [some (.ref 80), some (.int p0), none, none, none] (.int x33 :: []) S30 0 := by
        cases h
        exact r_ireturn dX12_led_37 rfl (Nat.zero_le _) ⟨rfl, rfl⟩
      refine r_if_eq (tgt := 36) dX12_led_29 (by decide) (fun c32 => ?_) (fun c32 => ?_)
      · refine r_iconst (v := 0) dX12_led_36 rfl ?_
        exact r_tope (by rw [hx33, if_pos c32]) keyx33
      · refine r_iconst (v := 1) dX12_led_32 rfl ?_
        refine r_goto (tgt := 37) dX12_led_33 (by decide) ?_
        exact r_tope (by rw [hx33, if_neg c32]) keyx33
  · rw [if_pos c5] at h
    refine r_iconst (v := 0) dX12_led_14 rfl ?_
    cases h
    exact r_ireturn dX12_led_15 rfl (Nat.zero_le _) ⟨rfl, rfl⟩
def fX12_listen_18 (N : Nat) (v1 : Int32) : Nat → Int32 → PS → Option (Int32 × PS)
  | 0, _, _ => none
  | n + 1, v2, S =>
    (if 20480 ≤ v2 then
      some (v2, S)
    else
      gd (inr v2 20480) <|
      lt ((u2 S.1 107 (ix v2) 0, S.2) : PS) fun S8 =>
      lt (v2 + 1 : Int32) fun x9 =>
      fX12_listen_18 N v1 n x9 S8)
set_option maxHeartbeats 4000000 in
set_option maxRecDepth 100000 in
theorem okX12_listen_18 (N : Nat) (v1 : Int32) (Q : OQ) (u : Nat) (hu : u ≤ 0) : ∀ (n : Nat) (v2 : Int32) (S : PS) (y2 : Int32) (T : PS), fX12_listen_18 N v1 n v2 S = some (y2, T) → WP [] mX12_listen 7 0 Q 38 [some (.ref 80), some (.int v1), some (.int y2), none, none, none, none] [] T u → WP [] mX12_listen 7 0 Q 18 [some (.ref 80), some (.int v1), some (.int v2), none, none, none, none] [] S u := by
  intro n
  induction n with
  | zero => intro v2 S y2 T h; rw [fX12_listen_18] at h; cases h
  | succ n ih =>
    intro v2 S y2 T h k0
    rw [fX12_listen_18] at h
    refine r_iload_n (x := v2) dX12_listen_18 rfl ?_
    refine r_sipush (v := 20480) dX12_listen_19 rfl ?_
    refine r_icmp_ge (tgt := 38) dX12_listen_22 (by decide) (fun c6 => ?_) (fun c6 => ?_)
    · rw [if_pos c6] at h
      cases h
      exact k0
    · rw [if_neg c6] at h
      refine r_aload_n (x := 80) dX12_listen_25 rfl ?_
      refine r_getfield (o := 80) (v := .ref 107) dX12_listen_26 lX12_102 ck80 nC80 rfl ?_
      refine r_iload_n (x := v2) dX12_listen_29 rfl ?_
      refine r_iconst (v := 0) dX12_listen_30 rfl ?_
      obtain ⟨g7, h⟩ := gd_e h
      refine r_iastore (a := 107) dX12_listen_31 ck107 nC107 (inr_IX g7) ?_
      refine r_topS (fun S8 hS8 => ?_)
      replace h := lt_e hS8 h
      obtain ⟨x9, hx9⟩ : ∃ y : Int32, y = (v2 + 1 : Int32) := ⟨_, rfl⟩
      replace h := lt_e hx9 h
      refine r_iinc (x := v2) (v := x9) (L' := [some (.ref 80), some (.int v1), some (.int x9), none, none, none, none]) dX12_listen_32 rfl (by rw [hx9]; rfl) (Nat.le_of_ble_eq_true rfl) rfl rfl ?_
      refine r_goto (tgt := 18) dX12_listen_35 (by decide) ?_
      exact ih _ _ _ _ h k0
def fX12_listen_61 (N : Nat) (v1 : Int32) (v2 : Int32) : Nat → Int32 → PS → Option (Int32 × PS)
  | 0, _, _ => none
  | n + 1, v3, S =>
    (if 40 ≤ v3 then
      some (v3, S)
    else
      gd (inr v3 40) <|
      gd (inr ((512 * v3) + (S.1 106 (ix v3))) 20480) <|
      lt ((u2 S.1 107 (ix ((512 * v3) + (S.1 106 (ix v3)))) 1, S.2) : PS) fun S24 =>
      lt (v3 + 1 : Int32) fun x25 =>
      fX12_listen_61 N v1 v2 n x25 S24)
set_option maxHeartbeats 4000000 in
set_option maxRecDepth 100000 in
theorem okX12_listen_61 (N : Nat) (v1 : Int32) (v2 : Int32) (Q : OQ) (u : Nat) (hu : u ≤ 0) : ∀ (n : Nat) (v3 : Int32) (S : PS) (y3 : Int32) (T : PS), fX12_listen_61 N v1 v2 n v3 S = some (y3, T) → WP [] mX12_listen 7 0 Q 91 [some (.ref 80), some (.int v1), some (.int v2), some (.int y3), none, none, none] [] T u → WP [] mX12_listen 7 0 Q 61 [some (.ref 80), some (.int v1), some (.int v2), some (.int v3), none, none, none] [] S u := by
  intro n
  induction n with
  | zero => intro v3 S y3 T h; rw [fX12_listen_61] at h; cases h
  | succ n ih =>
    intro v3 S y3 T h k0
    rw [fX12_listen_61] at h
    refine r_iload_n (x := v3) dX12_listen_61 rfl ?_
    refine r_bipush (v := 40) dX12_listen_62 rfl ?_
    refine r_icmp_ge (tgt := 91) dX12_listen_64 (by decide) (fun c21 => ?_) (fun c21 => ?_)
    · rw [if_pos c21] at h
      cases h
      exact k0
    · rw [if_neg c21] at h
      refine r_aload_n (x := 80) dX12_listen_67 rfl ?_
      refine r_getfield (o := 80) (v := .ref 107) dX12_listen_68 lX12_102 ck80 nC80 rfl ?_
      refine r_sipush (v := 512) dX12_listen_71 rfl ?_
      refine r_iload_n (x := v3) dX12_listen_74 rfl ?_
      refine r_imul dX12_listen_75 ?_
      refine r_aload_n (x := 80) dX12_listen_76 rfl ?_
      refine r_getfield (o := 80) (v := .ref 106) dX12_listen_77 lX12_99 ck80 nC80 rfl ?_
      refine r_iload_n (x := v3) dX12_listen_80 rfl ?_
      obtain ⟨g22, h⟩ := gd_e h
      refine r_iaload (a := 106) dX12_listen_81 ck106 nC106 (inr_IX g22) ?_
      refine r_iadd dX12_listen_82 ?_
      refine r_iconst (v := 1) dX12_listen_83 rfl ?_
      obtain ⟨g23, h⟩ := gd_e h
      refine r_iastore (a := 107) dX12_listen_84 ck107 nC107 (inr_IX g23) ?_
      refine r_topS (fun S24 hS24 => ?_)
      replace h := lt_e hS24 h
      obtain ⟨x25, hx25⟩ : ∃ y : Int32, y = (v3 + 1 : Int32) := ⟨_, rfl⟩
      replace h := lt_e hx25 h
      refine r_iinc (x := v3) (v := x25) (L' := [some (.ref 80), some (.int v1), some (.int v2), some (.int x25), none, none, none]) dX12_listen_85 rfl (by rw [hx25]; rfl) (Nat.le_of_ble_eq_true rfl) rfl rfl ?_
      refine r_goto (tgt := 61) dX12_listen_88 (by decide) ?_
      exact ih _ _ _ _ h k0
def fX12_listen_40 (N : Nat) (v1 : Int32) : Nat → Int32 → PS → Option (Int32 × PS)
  | 0, _, _ => none
  | n + 1, v2, S =>
    (if (10 * (S.1 80 1)) ≤ v2 then
      some (v2, S)
    else
      bI (fX12_isGuess N v2 S) fun x16 S17 =>
      (if x16 = 0 then
        lt (v2 + 1 : Int32) fun x20 =>
        fX12_listen_40 N v1 n x20 S17
      else
        bT (fX12_listen_61 N v1 v2 N 0 S17) fun q26 =>
        lt (q26.1 : Int32) fun x27 =>
        lt (q26.2 : PS) fun S28 =>
        lt (v2 + 1 : Int32) fun x31 =>
        fX12_listen_40 N v1 n x31 S28))
set_option maxHeartbeats 4000000 in
set_option maxRecDepth 100000 in
theorem okX12_listen_40 (N : Nat) (v1 : Int32) (Q : OQ) (u : Nat) (hu : u ≤ 0) : ∀ (n : Nat) (v2 : Int32) (S : PS) (y2 : Int32) (T : PS), fX12_listen_40 N v1 n v2 S = some (y2, T) → WP [] mX12_listen 7 0 Q 97 [some (.ref 80), some (.int v1), some (.int y2), none, none, none, none] [] T u → WP [] mX12_listen 7 0 Q 40 [some (.ref 80), some (.int v1), some (.int v2), none, none, none, none] [] S u := by
  intro n
  induction n with
  | zero => intro v2 S y2 T h; rw [fX12_listen_40] at h; cases h
  | succ n ih =>
    intro v2 S y2 T h k0
    rw [fX12_listen_40] at h
    refine r_iload_n (x := v2) dX12_listen_40 rfl ?_
    refine r_bipush (v := 10) dX12_listen_41 rfl ?_
    refine r_aload_n (x := 80) dX12_listen_43 rfl ?_
    refine r_getfield (o := 80) (v := .int (S.1 80 1)) dX12_listen_44 lX12_269 ck80 nC80 rfl ?_
    refine r_imul dX12_listen_47 ?_
    refine r_icmp_ge (tgt := 97) dX12_listen_48 (by decide) (fun c15 => ?_) (fun c15 => ?_)
    · rw [if_pos c15] at h
      cases h
      exact k0
    · rw [if_neg c15] at h
      refine r_aload_n (x := 80) dX12_listen_51 rfl ?_
      refine r_iload_n (x := v2) dX12_listen_52 rfl ?_
      obtain ⟨x16, S17, h18, h⟩ := bI_e h
      refine r_cVI (y := mX12_isGuess) (As := [.int v2]) (rest := []) dX12_listen_53 qX12_411 kX12_isGuess rfl ob80 vc12 rfl (okX12_isGuess N v2 S x16 S17 h18) (by decide) hu rfl (Nat.le_of_ble_eq_true rfl) ?_
      refine r_if_eq (tgt := 91) dX12_listen_56 (by decide) (fun c19 => ?_) (fun c19 => ?_)
      · rw [if_pos c19] at h
        obtain ⟨x20, hx20⟩ : ∃ y : Int32, y = (v2 + 1 : Int32) := ⟨_, rfl⟩
        replace h := lt_e hx20 h
        refine r_iinc (x := v2) (v := x20) (L' := [some (.ref 80), some (.int v1), some (.int x20), none, none, none, none]) dX12_listen_91 rfl (by rw [hx20]; rfl) (Nat.le_of_ble_eq_true rfl) rfl rfl ?_
        refine r_goto (tgt := 40) dX12_listen_94 (by decide) ?_
        exact ih _ _ _ _ h k0
      · rw [if_neg c19] at h
        refine r_iconst (v := 0) dX12_listen_59 rfl ?_
        refine r_istore_n (L' := [some (.ref 80), some (.int v1), some (.int v2), some (.int 0), none, none, none]) dX12_listen_60 (Nat.le_of_ble_eq_true rfl) rfl rfl ?_
        obtain ⟨⟨x27, S28⟩, h30, h⟩ := bT_e h
        dsimp only at h
        replace h := pl_s (pl_s (h))
        refine okX12_listen_61 N v1 v2 Q u hu _ _ _ _ _ h30 ?_
        obtain ⟨x31, hx31⟩ : ∃ y : Int32, y = (v2 + 1 : Int32) := ⟨_, rfl⟩
        replace h := lt_e hx31 h
        refine r_iinc (x := v2) (v := x31) (L' := [some (.ref 80), some (.int v1), some (.int x31), some (.int x27), none, none, none]) dX12_listen_91 rfl (by rw [hx31]; rfl) (Nat.le_of_ble_eq_true rfl) rfl rfl ?_
        refine r_goto (tgt := 40) dX12_listen_94 (by decide) ?_
        refine r_drop [true, true, true, false, true, true, true] rfl ?_
        exact ih _ _ _ _ h k0
def fX12_listen_117 (N : Nat) (v1 : Int32) (v2 : Int32) (v3 : Int32) (v4 : Int32) : Nat → Int32 → Int32 → PS → Option (Int32 × Int32 × PS)
  | 0, _, _, _ => none
  | n + 1, v5, v6, S =>
    (if 512 ≤ v6 then
      some (v5, v6, S)
    else
      gd (inr ((512 * v4) + v6) 20480) <|
      lt ((v5 + (S.1 107 (ix ((512 * v4) + v6)))) : Int32) fun x40 =>
      lt (v6 + 1 : Int32) fun x41 =>
      fX12_listen_117 N v1 v2 v3 v4 n x40 x41 S)
set_option maxHeartbeats 4000000 in
set_option maxRecDepth 100000 in
theorem okX12_listen_117 (N : Nat) (v1 : Int32) (v2 : Int32) (v3 : Int32) (v4 : Int32) (Q : OQ) (u : Nat) (hu : u ≤ 0) : ∀ (n : Nat) (v5 : Int32) (v6 : Int32) (S : PS) (y5 : Int32) (y6 : Int32) (T : PS), fX12_listen_117 N v1 v2 v3 v4 n v5 v6 S = some (y5, y6, T) → WP [] mX12_listen 7 0 Q 150 [some (.ref 80), some (.int v1), some (.int v2), some (.int v3), some (.int v4), some (.int y5), some (.int y6)] [] T u → WP [] mX12_listen 7 0 Q 117 [some (.ref 80), some (.int v1), some (.int v2), some (.int v3), some (.int v4), some (.int v5), some (.int v6)] [] S u := by
  intro n
  induction n with
  | zero => intro v5 v6 S y5 y6 T h; rw [fX12_listen_117] at h; cases h
  | succ n ih =>
    intro v5 v6 S y5 y6 T h k0
    rw [fX12_listen_117] at h
    refine r_iload (x := v6) dX12_listen_117 rfl ?_
    refine r_sipush (v := 512) dX12_listen_119 rfl ?_
    refine r_icmp_ge (tgt := 150) dX12_listen_122 (by decide) (fun c38 => ?_) (fun c38 => ?_)
    · rw [if_pos c38] at h
      cases h
      exact k0
    · rw [if_neg c38] at h
      refine r_iload (x := v5) dX12_listen_125 rfl ?_
      refine r_aload_n (x := 80) dX12_listen_127 rfl ?_
      refine r_getfield (o := 80) (v := .ref 107) dX12_listen_128 lX12_102 ck80 nC80 rfl ?_
      refine r_sipush (v := 512) dX12_listen_131 rfl ?_
      refine r_iload (x := v4) dX12_listen_134 rfl ?_
      refine r_imul dX12_listen_136 ?_
      refine r_iload (x := v6) dX12_listen_137 rfl ?_
      refine r_iadd dX12_listen_139 ?_
      obtain ⟨g39, h⟩ := gd_e h
      refine r_iaload (a := 107) dX12_listen_140 ck107 nC107 (inr_IX g39) ?_
      refine r_iadd dX12_listen_141 ?_
      refine r_topi (fun x40 hx40 => ?_)
      replace h := lt_e hx40 h
      refine r_istore (L' := [some (.ref 80), some (.int v1), some (.int v2), some (.int v3), some (.int v4), some (.int x40), some (.int v6)]) dX12_listen_142 (Nat.le_of_ble_eq_true rfl) rfl rfl ?_
      obtain ⟨x41, hx41⟩ : ∃ y : Int32, y = (v6 + 1 : Int32) := ⟨_, rfl⟩
      replace h := lt_e hx41 h
      refine r_iinc (x := v6) (v := x41) (L' := [some (.ref 80), some (.int v1), some (.int v2), some (.int v3), some (.int v4), some (.int x40), some (.int x41)]) dX12_listen_144 rfl (by rw [hx41]; rfl) (Nat.le_of_ble_eq_true rfl) rfl rfl ?_
      refine r_goto (tgt := 117) dX12_listen_147 (by decide) ?_
      exact ih _ _ _ _ _ _ h k0
def fX12_listen_104 (N : Nat) (v1 : Int32) : Nat → Int32 → Int32 → Int32 → PS → Option (Int32 × Int32 × Int32 × PS)
  | 0, _, _, _, _ => none
  | n + 1, v2, v3, v4, S =>
    (if 40 ≤ v4 then
      some (v2, v3, v4, S)
    else
      bT (fX12_listen_117 N v1 v2 v3 v4 N 0 0 S) fun q42 =>
      lt (q42.1 : Int32) fun x43 =>
      lt (q42.2.1 : Int32) fun x44 =>
      lt (q42.2.2 : PS) fun S45 =>
      (if v3 < x43 then
        lt ((v4 + 1) : Int32) fun x49 =>
        lt (v4 + 1 : Int32) fun x50 =>
        fX12_listen_104 N v1 n x49 x43 x50 S45
      else
        lt (v4 + 1 : Int32) fun x51 =>
        fX12_listen_104 N v1 n v2 v3 x51 S45))
set_option maxHeartbeats 4000000 in
set_option maxRecDepth 100000 in
theorem okX12_listen_104 (N : Nat) (v1 : Int32) (Q : OQ) (u : Nat) (hu : u ≤ 0) : ∀ (n : Nat) (v2 : Int32) (v3 : Int32) (v4 : Int32) (S : PS) (y2 : Int32) (y3 : Int32) (y4 : Int32) (T : PS), fX12_listen_104 N v1 n v2 v3 v4 S = some (y2, y3, y4, T) → WP [] mX12_listen 7 0 Q 173 [some (.ref 80), some (.int v1), some (.int y2), some (.int y3), some (.int y4), none, none] [] T u → WP [] mX12_listen 7 0 Q 104 [some (.ref 80), some (.int v1), some (.int v2), some (.int v3), some (.int v4), none, none] [] S u := by
  intro n
  induction n with
  | zero => intro v2 v3 v4 S y2 y3 y4 T h; rw [fX12_listen_104] at h; cases h
  | succ n ih =>
    intro v2 v3 v4 S y2 y3 y4 T h k0
    rw [fX12_listen_104] at h
    refine r_iload (x := v4) dX12_listen_104 rfl ?_
    refine r_bipush (v := 40) dX12_listen_106 rfl ?_
    refine r_icmp_ge (tgt := 173) dX12_listen_108 (by decide) (fun c37 => ?_) (fun c37 => ?_)
    · rw [if_pos c37] at h
      cases h
      exact k0
    · rw [if_neg c37] at h
      refine r_iconst (v := 0) dX12_listen_111 rfl ?_
      refine r_istore (L' := [some (.ref 80), some (.int v1), some (.int v2), some (.int v3), some (.int v4), some (.int 0), none]) dX12_listen_112 (Nat.le_of_ble_eq_true rfl) rfl rfl ?_
      refine r_iconst (v := 0) dX12_listen_114 rfl ?_
      refine r_istore (L' := [some (.ref 80), some (.int v1), some (.int v2), some (.int v3), some (.int v4), some (.int 0), some (.int 0)]) dX12_listen_115 (Nat.le_of_ble_eq_true rfl) rfl rfl ?_
      obtain ⟨⟨x43, x44, S45⟩, h47, h⟩ := bT_e h
      dsimp only at h
      replace h := pl_s (pl_s (pl_s (h)))
      refine okX12_listen_117 N v1 v2 v3 v4 Q u hu _ _ _ _ _ _ _ h47 ?_
      refine r_iload (x := x43) dX12_listen_150 rfl ?_
      refine r_iload_n (x := v3) dX12_listen_152 rfl ?_
      refine r_icmp_gt (tgt := 159) dX12_listen_153 (by decide) (fun c48 => ?_) (fun c48 => ?_)
      · rw [if_pos c48] at h
        refine r_iload (x := v4) dX12_listen_159 rfl ?_
        refine r_iconst (v := 1) dX12_listen_161 rfl ?_
        refine r_iadd dX12_listen_162 ?_
        refine r_topi (fun x49 hx49 => ?_)
        replace h := lt_e hx49 h
        refine r_istore_n (L' := [some (.ref 80), some (.int v1), some (.int x49), some (.int v3), some (.int v4), some (.int x43), some (.int x44)]) dX12_listen_163 (Nat.le_of_ble_eq_true rfl) rfl rfl ?_
        refine r_iload (x := x43) dX12_listen_164 rfl ?_
        refine r_istore_n (L' := [some (.ref 80), some (.int v1), some (.int x49), some (.int x43), some (.int v4), some (.int x43), some (.int x44)]) dX12_listen_166 (Nat.le_of_ble_eq_true rfl) rfl rfl ?_
        obtain ⟨x50, hx50⟩ : ∃ y : Int32, y = (v4 + 1 : Int32) := ⟨_, rfl⟩
        replace h := lt_e hx50 h
        refine r_iinc (x := v4) (v := x50) (L' := [some (.ref 80), some (.int v1), some (.int x49), some (.int x43), some (.int x50), some (.int x43), some (.int x44)]) dX12_listen_167 rfl (by rw [hx50]; rfl) (Nat.le_of_ble_eq_true rfl) rfl rfl ?_
        refine r_goto (tgt := 104) dX12_listen_170 (by decide) ?_
        refine r_drop [true, true, true, true, true, false, false] rfl ?_
        exact ih _ _ _ _ _ _ _ _ h k0
      · rw [if_neg c48] at h
        refine r_goto (tgt := 167) dX12_listen_156 (by decide) ?_
        obtain ⟨x51, hx51⟩ : ∃ y : Int32, y = (v4 + 1 : Int32) := ⟨_, rfl⟩
        replace h := lt_e hx51 h
        refine r_iinc (x := v4) (v := x51) (L' := [some (.ref 80), some (.int v1), some (.int v2), some (.int v3), some (.int x51), some (.int x43), some (.int x44)]) dX12_listen_167 rfl (by rw [hx51]; rfl) (Nat.le_of_ble_eq_true rfl) rfl rfl ?_
        refine r_goto (tgt := 104) dX12_listen_170 (by decide) ?_
        refine r_drop [true, true, true, true, true, false, false] rfl ?_
        exact ih _ _ _ _ _ _ _ _ h k0
def fX12_listen (N : Nat) (p0 : Int32) (S : PS) : Option (Int32 × PS) :=
  lt ((u2 S.1 80 0 0, S.2) : PS) fun S1 =>
  bI (fX12_isWhat N p0 1 S1) fun x2 S3 =>
  (if x2 = 0 then
    some (0, S3)
  else
    bT (fX12_listen_18 N p0 N 0 S3) fun q10 =>
    lt (q10.1 : Int32) fun x11 =>
    lt (q10.2 : PS) fun S12 =>
    bT (fX12_listen_40 N p0 N 0 S12) fun q32 =>
    lt (q32.1 : Int32) fun x33 =>
    lt (q32.2 : PS) fun S34 =>
    bT (fX12_listen_104 N p0 N (-1) 0 0 S34) fun q52 =>
    lt (q52.1 : Int32) fun x53 =>
    lt (q52.2.1 : Int32) fun x54 =>
    lt (q52.2.2.1 : Int32) fun x55 =>
    lt (q52.2.2.2 : PS) fun S56 =>
    lt ((if p0 = 0 then x53 else x54) : Int32) fun x60 =>
    some (x60, S56))
set_option maxHeartbeats 4000000 in
set_option maxRecDepth 100000 in
theorem okX12_listen (N : Nat) (p0 : Int32) (S : PS) (r : Int32) (T : PS) (h : fX12_listen N p0 S = some (r, T)) : CT mX12_listen 7 0 [.ref 80, .int p0] S (qI r T) := by
  refine ct_of [some (.ref 80), some (.int p0), none, none, none, none, none] rfl (fun _ => rfl) (fun _ => Nat.le_of_ble_eq_true rfl) ?_
  unfold fX12_listen at h
  refine r_aload_n (x := 80) dX12_listen_0 rfl ?_
  refine r_iconst (v := 0) dX12_listen_1 rfl ?_
  refine r_putI dX12_listen_2 lX12_114 ck80 nC80 ?_
  refine r_topS (fun S1 hS1 => ?_)
  replace h := lt_e hS1 h
  refine r_aload_n (x := 80) dX12_listen_5 rfl ?_
  refine r_iload_n (x := p0) dX12_listen_6 rfl ?_
  refine r_iconst (v := 1) dX12_listen_7 rfl ?_
  obtain ⟨x2, S3, h4, h⟩ := bI_e h
  refine r_cVI (y := mX12_isWhat) (As := [.int p0, .int 1]) (rest := []) dX12_listen_8 qX12_354 kX12_isWhat rfl ob80 vc12 rfl (okX12_isWhat N p0 1 S1 x2 S3 h4) (by decide) (Nat.zero_le _) rfl (Nat.le_of_ble_eq_true rfl) ?_
  refine r_if_ne (tgt := 16) dX12_listen_11 (by decide) (fun c5 => ?_) (fun c5 => ?_)
  · rw [if_neg c5] at h
    refine r_iconst (v := 0) dX12_listen_16 rfl ?_
    refine r_istore_n (L' := [some (.ref 80), some (.int p0), some (.int 0), none, none, none, none]) dX12_listen_17 (Nat.le_of_ble_eq_true rfl) rfl rfl ?_
    obtain ⟨⟨x11, S12⟩, h14, h⟩ := bT_e h
    dsimp only at h
    replace h := pl_s (pl_s (h))
    refine okX12_listen_18 N p0 (qI r T) 0 (Nat.zero_le _) _ _ _ _ _ h14 ?_
    refine r_iconst (v := 0) dX12_listen_38 rfl ?_
    refine r_istore_n (L' := [some (.ref 80), some (.int p0), some (.int 0), none, none, none, none]) dX12_listen_39 (Nat.le_of_ble_eq_true rfl) rfl rfl ?_
    obtain ⟨⟨x33, S34⟩, h36, h⟩ := bT_e h
    dsimp only at h
    replace h := pl_s (pl_s (h))
    refine okX12_listen_40 N p0 (qI r T) 0 (Nat.zero_le _) _ _ _ _ _ h36 ?_
    refine r_iconst (v := (-1)) dX12_listen_97 rfl ?_
    refine r_istore_n (L' := [some (.ref 80), some (.int p0), some (.int (-1)), none, none, none, none]) dX12_listen_98 (Nat.le_of_ble_eq_true rfl) rfl rfl ?_
    refine r_iconst (v := 0) dX12_listen_99 rfl ?_
    refine r_istore_n (L' := [some (.ref 80), some (.int p0), some (.int (-1)), some (.int 0), none, none, none]) dX12_listen_100 (Nat.le_of_ble_eq_true rfl) rfl rfl ?_
    refine r_iconst (v := 0) dX12_listen_101 rfl ?_
    refine r_istore (L' := [some (.ref 80), some (.int p0), some (.int (-1)), some (.int 0), some (.int 0), none, none]) dX12_listen_102 (Nat.le_of_ble_eq_true rfl) rfl rfl ?_
    obtain ⟨⟨x53, x54, x55, S56⟩, h58, h⟩ := bT_e h
    dsimp only at h
    replace h := pl_s (pl_s (pl_s (pl_s (h))))
    refine okX12_listen_104 N p0 (qI r T) 0 (Nat.zero_le _) _ _ _ _ _ _ _ _ _ h58 ?_
    refine r_iload_n (x := p0) dX12_listen_173 rfl ?_
    obtain ⟨x60, hx60⟩ : ∃ y : Int32, y = ((if p0 = 0 then x53 else x54) : Int32) := ⟨_, rfl⟩
    replace h := lt_e hx60 h
    have keyx60 : WP [] mX12_listen 7 0 (qI r T) 182 [some (.ref 80), some (.int p0), some (.int x53), some (.int x54), some (.int x55), none, none] (.int x60 :: []) S56 0 := by
      cases h
      exact r_ireturn dX12_listen_182 rfl (Nat.zero_le _) ⟨rfl, rfl⟩
    refine r_if_ne (tgt := 181) dX12_listen_174 (by decide) (fun c59 => ?_) (fun c59 => ?_)
    · refine r_iload_n (x := x54) dX12_listen_181 rfl ?_
      exact r_tope (by rw [hx60, if_neg c59]) keyx60
    · refine r_iload_n (x := x53) dX12_listen_177 rfl ?_
      refine r_goto (tgt := 182) dX12_listen_178 (by decide) ?_
      exact r_tope (by rw [hx60, if_pos c59]) keyx60
  · rw [if_pos c5] at h
    refine r_iconst (v := 0) dX12_listen_14 rfl ?_
    cases h
    exact r_ireturn dX12_listen_15 rfl (Nat.zero_le _) ⟨rfl, rfl⟩
def fX12_cold_74 (N : Nat) (v1 : Int32) (v2 : Int32) (v3 : Int32) (v4 : Int32) (v5 : Int32) : Nat → Int32 → Int32 → Int32 → PS → Option (Int32 × Int32 × Int32 × PS)
  | 0, _, _, _, _ => none
  | n + 1, v6, v7, v8, S =>
    (if v2 ≤ v8 then
      some (v6, v7, v8, S)
    else
      lt ((u2 S.1 80 40 ((v5 >>> (v8 &&& 31)) &&& 1), S.2) : PS) fun S19 =>
      lt ((if (S19.1 80 40) = 1 then v3 else (10 - v3)) : Int32) fun x21 =>
      lt ((v6 * x21) : Int32) fun x22 =>
      bV (fX12_hourGoes N 64 S19) fun S24 =>
      lt ((v7 ||| (S24.1 80 38)) : Int32) fun x26 =>
      lt (v8 + 1 : Int32) fun x27 =>
      fX12_cold_74 N v1 v2 v3 v4 v5 n x22 x26 x27 S24)
set_option maxHeartbeats 4000000 in
set_option maxRecDepth 100000 in
theorem okX12_cold_74 (N : Nat) (v1 : Int32) (v2 : Int32) (v3 : Int32) (v4 : Int32) (v5 : Int32) (Q : OQ) (u : Nat) (hu : u ≤ 0) : ∀ (n : Nat) (v6 : Int32) (v7 : Int32) (v8 : Int32) (S : PS) (y6 : Int32) (y7 : Int32) (y8 : Int32) (T : PS), fX12_cold_74 N v1 v2 v3 v4 v5 n v6 v7 v8 S = some (y6, y7, y8, T) → WP [] mX12_cold 5 0 Q 133 [some (.ref 80), some (.int v1), some (.int v2), some (.int v3), some (.int v4), some (.int v5), some (.int y6), some (.int y7), some (.int y8)] [] T u → WP [] mX12_cold 5 0 Q 74 [some (.ref 80), some (.int v1), some (.int v2), some (.int v3), some (.int v4), some (.int v5), some (.int v6), some (.int v7), some (.int v8)] [] S u := by
  intro n
  induction n with
  | zero => intro v6 v7 v8 S y6 y7 y8 T h; rw [fX12_cold_74] at h; cases h
  | succ n ih =>
    intro v6 v7 v8 S y6 y7 y8 T h k0
    rw [fX12_cold_74] at h
    refine r_iload (x := v8) dX12_cold_74 rfl ?_
    refine r_iload_n (x := v2) dX12_cold_76 rfl ?_
    refine r_icmp_ge (tgt := 133) dX12_cold_77 (by decide) (fun c18 => ?_) (fun c18 => ?_)
    · rw [if_pos c18] at h
      cases h
      exact k0
    · rw [if_neg c18] at h
      refine r_aload_n (x := 80) dX12_cold_80 rfl ?_
      refine r_iload (x := v5) dX12_cold_81 rfl ?_
      refine r_iload (x := v8) dX12_cold_83 rfl ?_
      refine r_ishr dX12_cold_85 ?_
      refine r_iconst (v := 1) dX12_cold_86 rfl ?_
      refine r_iand dX12_cold_87 ?_
      refine r_putI dX12_cold_88 lX12_69 ck80 nC80 ?_
      refine r_topS (fun S19 hS19 => ?_)
      replace h := lt_e hS19 h
      refine r_iload (x := v6) dX12_cold_91 rfl ?_
      refine r_aload_n (x := 80) dX12_cold_93 rfl ?_
      refine r_getfield (o := 80) (v := .int (S19.1 80 40)) dX12_cold_94 lX12_69 ck80 nC80 rfl ?_
      refine r_iconst (v := 1) dX12_cold_97 rfl ?_
      obtain ⟨x21, hx21⟩ : ∃ y : Int32, y = ((if (S19.1 80 40) = 1 then v3 else (10 - v3)) : Int32) := ⟨_, rfl⟩
      replace h := lt_e hx21 h
      have keyx21 : WP [] mX12_cold 5 0 Q 109 [some (.ref 80), some (.int v1), some (.int v2), some (.int v3), some (.int v4), some (.int v5), some (.int v6), some (.int v7), some (.int v8)] (.int x21 :: [.int v6]) S19 u := by
        refine r_imul dX12_cold_109 ?_
        refine r_topi (fun x22 hx22 => ?_)
        replace h := lt_e hx22 h
        refine r_istore (L' := [some (.ref 80), some (.int v1), some (.int v2), some (.int v3), some (.int v4), some (.int v5), some (.int x22), some (.int v7), some (.int v8)]) dX12_cold_110 (Nat.le_of_ble_eq_true rfl) rfl rfl ?_
        refine r_aload_n (x := 80) dX12_cold_112 rfl ?_
        refine r_bipush (v := 64) dX12_cold_113 rfl ?_
        obtain ⟨S24, h25, h⟩ := bV_e h
        refine r_cVV (y := mX12_hourGoes) (As := [.int 64]) (rest := []) dX12_cold_115 qX12_323 kX12_hourGoes rfl ob80 vc12 rfl (okX12_hourGoes N 64 S19 S24 h25) (by decide) hu rfl (Nat.le_of_ble_eq_true rfl) ?_
        refine r_iload (x := v7) dX12_cold_118 rfl ?_
        refine r_aload_n (x := 80) dX12_cold_120 rfl ?_
        refine r_getfield (o := 80) (v := .int (S24.1 80 38)) dX12_cold_121 lX12_300 ck80 nC80 rfl ?_
        refine r_ior dX12_cold_124 ?_
        refine r_topi (fun x26 hx26 => ?_)
        replace h := lt_e hx26 h
        refine r_istore (L' := [some (.ref 80), some (.int v1), some (.int v2), some (.int v3), some (.int v4), some (.int v5), some (.int x22), some (.int x26), some (.int v8)]) dX12_cold_125 (Nat.le_of_ble_eq_true rfl) rfl rfl ?_
        obtain ⟨x27, hx27⟩ : ∃ y : Int32, y = (v8 + 1 : Int32) := ⟨_, rfl⟩
        replace h := lt_e hx27 h
        refine r_iinc (x := v8) (v := x27) (L' := [some (.ref 80), some (.int v1), some (.int v2), some (.int v3), some (.int v4), some (.int v5), some (.int x22), some (.int x26), some (.int x27)]) dX12_cold_127 rfl (by rw [hx27]; rfl) (Nat.le_of_ble_eq_true rfl) rfl rfl ?_
        refine r_goto (tgt := 74) dX12_cold_130 (by decide) ?_
        exact ih _ _ _ _ _ _ _ _ h k0
      refine r_icmp_ne (tgt := 105) dX12_cold_98 (by decide) (fun c20 => ?_) (fun c20 => ?_)
      · refine r_bipush (v := 10) dX12_cold_105 rfl ?_
        refine r_iload_n (x := v3) dX12_cold_107 rfl ?_
        refine r_isub dX12_cold_108 ?_
        exact r_tope (by rw [hx21, if_neg c20]) keyx21
      · refine r_iload_n (x := v3) dX12_cold_101 rfl ?_
        refine r_goto (tgt := 109) dX12_cold_102 (by decide) ?_
        exact r_tope (by rw [hx21, if_pos c20]) keyx21
def fX12_cold_53 (N : Nat) (v1 : Int32) (v2 : Int32) (v3 : Int32) : Nat → Int32 → Int32 → PS → Option (Int32 × Int32 × PS)
  | 0, _, _, _ => none
  | n + 1, v4, v5, S =>
    (if (1 <<< (v2 &&& 31)) ≤ v5 then
      some (v4, v5, S)
    else
      bV (fX12_tries N  S) fun S16 =>
      bT (fX12_cold_74 N v1 v2 v3 v4 v5 N 1 0 0 S16) fun q28 =>
      lt (q28.1 : Int32) fun x29 =>
      lt (q28.2.1 : Int32) fun x30 =>
      lt (q28.2.2.1 : Int32) fun x31 =>
      lt (q28.2.2.2 : PS) fun S32 =>
      lt ((if ((x30 >>> (v1 &&& 31)) &&& 1) = 1 then x29 else 0) : Int32) fun x36 =>
      lt ((v4 + x36) : Int32) fun x37 =>
      lt (v5 + 1 : Int32) fun x38 =>
      fX12_cold_53 N v1 v2 v3 n x37 x38 S32)
set_option maxHeartbeats 4000000 in
set_option maxRecDepth 100000 in
theorem okX12_cold_53 (N : Nat) (v1 : Int32) (v2 : Int32) (v3 : Int32) (Q : OQ) (u : Nat) (hu : u ≤ 0) : ∀ (n : Nat) (v4 : Int32) (v5 : Int32) (S : PS) (y4 : Int32) (y5 : Int32) (T : PS), fX12_cold_53 N v1 v2 v3 n v4 v5 S = some (y4, y5, T) → WP [] mX12_cold 5 0 Q 160 [some (.ref 80), some (.int v1), some (.int v2), some (.int v3), some (.int y4), some (.int y5), none, none, none] [] T u → WP [] mX12_cold 5 0 Q 53 [some (.ref 80), some (.int v1), some (.int v2), some (.int v3), some (.int v4), some (.int v5), none, none, none] [] S u := by
  intro n
  induction n with
  | zero => intro v4 v5 S y4 y5 T h; rw [fX12_cold_53] at h; cases h
  | succ n ih =>
    intro v4 v5 S y4 y5 T h k0
    rw [fX12_cold_53] at h
    refine r_iload (x := v5) dX12_cold_53 rfl ?_
    refine r_iconst (v := 1) dX12_cold_55 rfl ?_
    refine r_iload_n (x := v2) dX12_cold_56 rfl ?_
    refine r_ishl dX12_cold_57 ?_
    refine r_icmp_ge (tgt := 160) dX12_cold_58 (by decide) (fun c14 => ?_) (fun c14 => ?_)
    · rw [if_pos c14] at h
      cases h
      exact k0
    · rw [if_neg c14] at h
      refine r_iconst (v := 1) dX12_cold_61 rfl ?_
      refine r_istore (L' := [some (.ref 80), some (.int v1), some (.int v2), some (.int v3), some (.int v4), some (.int v5), some (.int 1), none, none]) dX12_cold_62 (Nat.le_of_ble_eq_true rfl) rfl rfl ?_
      refine r_iconst (v := 0) dX12_cold_64 rfl ?_
      refine r_istore (L' := [some (.ref 80), some (.int v1), some (.int v2), some (.int v3), some (.int v4), some (.int v5), some (.int 1), some (.int 0), none]) dX12_cold_65 (Nat.le_of_ble_eq_true rfl) rfl rfl ?_
      refine r_aload_n (x := 80) dX12_cold_67 rfl ?_
      obtain ⟨S16, h17, h⟩ := bV_e h
      refine r_cVV (y := mX12_tries) (As := []) (rest := []) dX12_cold_68 qX12_381 kX12_tries rfl ob80 vc12 rfl (okX12_tries N  S S16 h17) (by decide) hu rfl (Nat.le_of_ble_eq_true rfl) ?_
      refine r_iconst (v := 0) dX12_cold_71 rfl ?_
      refine r_istore (L' := [some (.ref 80), some (.int v1), some (.int v2), some (.int v3), some (.int v4), some (.int v5), some (.int 1), some (.int 0), some (.int 0)]) dX12_cold_72 (Nat.le_of_ble_eq_true rfl) rfl rfl ?_
      obtain ⟨⟨x29, x30, x31, S32⟩, h34, h⟩ := bT_e h
      dsimp only at h
      replace h := pl_s (pl_s (pl_s (pl_s (h))))
      refine okX12_cold_74 N v1 v2 v3 v4 v5 Q u hu _ _ _ _ _ _ _ _ _ h34 ?_
      refine r_iload (x := v4) dX12_cold_133 rfl ?_
      refine r_iload (x := x30) dX12_cold_135 rfl ?_
      refine r_iload_n (x := v1) dX12_cold_137 rfl ?_
      refine r_ishr dX12_cold_138 ?_
      refine r_iconst (v := 1) dX12_cold_139 rfl ?_
      refine r_iand dX12_cold_140 ?_
      refine r_iconst (v := 1) dX12_cold_141 rfl ?_
      obtain ⟨x36, hx36⟩ : ∃ y : Int32, y = ((if ((x30 >>> (v1 &&& 31)) &&& 1) = 1 then x29 else 0) : Int32) := ⟨_, rfl⟩
      replace h := lt_e hx36 h
      have keyx36 : WP [] mX12_cold 5 0 Q 151 [some (.ref 80), some (.int v1), some (.int v2), some (.int v3), some (.int v4), some (.int v5), some (.int x29), some (.int x30), some (.int x31)] (.int x36 :: [.int v4]) S32 u := by
        refine r_iadd dX12_cold_151 ?_
        refine r_topi (fun x37 hx37 => ?_)
        replace h := lt_e hx37 h
        refine r_istore (L' := [some (.ref 80), some (.int v1), some (.int v2), some (.int v3), some (.int x37), some (.int v5), some (.int x29), some (.int x30), some (.int x31)]) dX12_cold_152 (Nat.le_of_ble_eq_true rfl) rfl rfl ?_
        obtain ⟨x38, hx38⟩ : ∃ y : Int32, y = (v5 + 1 : Int32) := ⟨_, rfl⟩
        replace h := lt_e hx38 h
        refine r_iinc (x := v5) (v := x38) (L' := [some (.ref 80), some (.int v1), some (.int v2), some (.int v3), some (.int x37), some (.int x38), some (.int x29), some (.int x30), some (.int x31)]) dX12_cold_154 rfl (by rw [hx38]; rfl) (Nat.le_of_ble_eq_true rfl) rfl rfl ?_
        refine r_goto (tgt := 53) dX12_cold_157 (by decide) ?_
        refine r_drop [true, true, true, true, true, true, false, false, false] rfl ?_
        exact ih _ _ _ _ _ _ h k0
      refine r_icmp_ne (tgt := 150) dX12_cold_142 (by decide) (fun c35 => ?_) (fun c35 => ?_)
      · refine r_iconst (v := 0) dX12_cold_150 rfl ?_
        exact r_tope (by rw [hx36, if_neg c35]) keyx36
      · refine r_iload (x := x29) dX12_cold_145 rfl ?_
        refine r_goto (tgt := 151) dX12_cold_147 (by decide) ?_
        exact r_tope (by rw [hx36, if_pos c35]) keyx36
def fX12_cold (N : Nat) (p0 : Int32) (p1 : Int32) (p2 : Int32) (S : PS) : Option (Int32 × PS) :=
  lt ((u2 S.1 80 0 0, S.2) : PS) fun S1 =>
  bI (fX12_isCup N p0 S1) fun x2 S3 =>
  (if x2 = 0 then
    some (0, S3)
  else
    bI (fX12_within N p1 1 5 S3) fun x6 S7 =>
    (if x6 = 0 then
      bI (fX12_right N 0 2 S7) fun x10 S11 =>
      (if x10 = 0 then
        some (0, S11)
      else
        bT (fX12_cold_53 N p0 p1 p2 N 0 0 S11) fun q39 =>
        lt (q39.1 : Int32) fun x40 =>
        lt (q39.2.1 : Int32) fun x41 =>
        lt (q39.2.2 : PS) fun S42 =>
        lt ((u2 S42.1 80 40 (-1), S42.2) : PS) fun S45 =>
        some (x40, S45))
    else
      bI (fX12_within N p2 0 10 S7) fun x46 S47 =>
      lt ((if x46 = 0 then 0 else 1) : Int32) fun x50 =>
      bI (fX12_right N x50 2 S47) fun x51 S52 =>
      (if x51 = 0 then
        some (0, S52)
      else
        bT (fX12_cold_53 N p0 p1 p2 N 0 0 S52) fun q55 =>
        lt (q55.1 : Int32) fun x56 =>
        lt (q55.2.1 : Int32) fun x57 =>
        lt (q55.2.2 : PS) fun S58 =>
        lt ((u2 S58.1 80 40 (-1), S58.2) : PS) fun S61 =>
        some (x56, S61))))
set_option maxHeartbeats 4000000 in
set_option maxRecDepth 100000 in
theorem okX12_cold (N : Nat) (p0 : Int32) (p1 : Int32) (p2 : Int32) (S : PS) (r : Int32) (T : PS) (h : fX12_cold N p0 p1 p2 S = some (r, T)) : CT mX12_cold 5 0 [.ref 80, .int p0, .int p1, .int p2] S (qI r T) := by
  refine ct_of [some (.ref 80), some (.int p0), some (.int p1), some (.int p2), none, none, none, none, none] rfl (fun _ => rfl) (fun _ => Nat.le_of_ble_eq_true rfl) ?_
  unfold fX12_cold at h
  refine r_aload_n (x := 80) dX12_cold_0 rfl ?_
  refine r_iconst (v := 0) dX12_cold_1 rfl ?_
  refine r_putI dX12_cold_2 lX12_114 ck80 nC80 ?_
  refine r_topS (fun S1 hS1 => ?_)
  replace h := lt_e hS1 h
  refine r_aload_n (x := 80) dX12_cold_5 rfl ?_
  refine r_iload_n (x := p0) dX12_cold_6 rfl ?_
  obtain ⟨x2, S3, h4, h⟩ := bI_e h
  refine r_cVI (y := mX12_isCup) (As := [.int p0]) (rest := []) dX12_cold_7 qX12_351 kX12_isCup rfl ob80 vc12 rfl (okX12_isCup N p0 S1 x2 S3 h4) (by decide) (Nat.zero_le _) rfl (Nat.le_of_ble_eq_true rfl) ?_
  refine r_if_eq (tgt := 45) dX12_cold_10 (by decide) (fun c5 => ?_) (fun c5 => ?_)
  · rw [if_pos c5] at h
    refine r_iconst (v := 0) dX12_cold_45 rfl ?_
    cases h
    exact r_ireturn dX12_cold_46 rfl (Nat.zero_le _) ⟨rfl, rfl⟩
  · rw [if_neg c5] at h
    refine r_aload_n (x := 80) dX12_cold_13 rfl ?_
    refine r_iload_n (x := p1) dX12_cold_14 rfl ?_
    refine r_iconst (v := 1) dX12_cold_15 rfl ?_
    refine r_iconst (v := 5) dX12_cold_16 rfl ?_
    obtain ⟨x6, S7, h8, h⟩ := bI_e h
    refine r_cSI (y := mX12_within) (As := [.int p1, .int 1, .int 5]) (rest := [.ref 80]) dX12_cold_17 qX12_332 kX12_within rfl (okX12_within N p1 1 5 S3 x6 S7 h8) (by decide) (Nat.zero_le _) rfl (Nat.le_of_ble_eq_true rfl) ?_
    refine r_if_eq (tgt := 37) dX12_cold_20 (by decide) (fun c9 => ?_) (fun c9 => ?_)
    · rw [if_pos c9] at h
      refine r_iconst (v := 0) dX12_cold_37 rfl ?_
      refine r_iconst (v := 2) dX12_cold_38 rfl ?_
      obtain ⟨x10, S11, h12, h⟩ := bI_e h
      refine r_cVI (y := mX12_right) (As := [.int 0, .int 2]) (rest := []) dX12_cold_39 qX12_262 kX12_right rfl ob80 vc12 rfl (okX12_right N 0 2 S7 x10 S11 h12) (by decide) (Nat.zero_le _) rfl (Nat.le_of_ble_eq_true rfl) ?_
      refine r_if_ne (tgt := 47) dX12_cold_42 (by decide) (fun c13 => ?_) (fun c13 => ?_)
      · rw [if_neg c13] at h
        refine r_iconst (v := 0) dX12_cold_47 rfl ?_
        refine r_istore (L' := [some (.ref 80), some (.int p0), some (.int p1), some (.int p2), some (.int 0), none, none, none, none]) dX12_cold_48 (Nat.le_of_ble_eq_true rfl) rfl rfl ?_
        refine r_iconst (v := 0) dX12_cold_50 rfl ?_
        refine r_istore (L' := [some (.ref 80), some (.int p0), some (.int p1), some (.int p2), some (.int 0), some (.int 0), none, none, none]) dX12_cold_51 (Nat.le_of_ble_eq_true rfl) rfl rfl ?_
        obtain ⟨⟨x40, x41, S42⟩, h44, h⟩ := bT_e h
        dsimp only at h
        replace h := pl_s (pl_s (pl_s (h)))
        refine okX12_cold_53 N p0 p1 p2 (qI r T) 0 (Nat.zero_le _) _ _ _ _ _ _ _ h44 ?_
        refine r_aload_n (x := 80) dX12_cold_160 rfl ?_
        refine r_iconst (v := (-1)) dX12_cold_161 rfl ?_
        refine r_putI dX12_cold_162 lX12_69 ck80 nC80 ?_
        refine r_topS (fun S45 hS45 => ?_)
        replace h := lt_e hS45 h
        refine r_iload (x := x40) dX12_cold_165 rfl ?_
        cases h
        exact r_ireturn dX12_cold_167 rfl (Nat.zero_le _) ⟨rfl, rfl⟩
      · rw [if_pos c13] at h
        refine r_iconst (v := 0) dX12_cold_45 rfl ?_
        cases h
        exact r_ireturn dX12_cold_46 rfl (Nat.zero_le _) ⟨rfl, rfl⟩
    · rw [if_neg c9] at h
      refine r_iload_n (x := p2) dX12_cold_23 rfl ?_
      refine r_iconst (v := 0) dX12_cold_24 rfl ?_
      refine r_bipush (v := 10) dX12_cold_25 rfl ?_
      obtain ⟨x46, S47, h48, h⟩ := bI_e h
      refine r_cSI (y := mX12_within) (As := [.int p2, .int 0, .int 10]) (rest := [.ref 80]) dX12_cold_27 qX12_332 kX12_within rfl (okX12_within N p2 0 10 S7 x46 S47 h48) (by decide) (Nat.zero_le _) rfl (Nat.le_of_ble_eq_true rfl) ?_
      obtain ⟨x50, hx50⟩ : ∃ y : Int32, y = ((if x46 = 0 then 0 else 1) : Int32) := ⟨_, rfl⟩
      replace h := lt_e hx50 h
      have keyx50 : WP [] mX12_cold 5 0 (qI r T) 38 [some (.ref 80), some (.int p0), some (.int p1), some (.int p2), none, none, none, none, none] (.int x50 :: [.ref 80]) S47 0 := by
        refine r_iconst (v := 2) dX12_cold_38 rfl ?_
        obtain ⟨x51, S52, h53, h⟩ := bI_e h
        refine r_cVI (y := mX12_right) (As := [.int x50, .int 2]) (rest := []) dX12_cold_39 qX12_262 kX12_right rfl ob80 vc12 rfl (okX12_right N x50 2 S47 x51 S52 h53) (by decide) (Nat.zero_le _) rfl (Nat.le_of_ble_eq_true rfl) ?_
        refine r_if_ne (tgt := 47) dX12_cold_42 (by decide) (fun c54 => ?_) (fun c54 => ?_)
        · rw [if_neg c54] at h
          refine r_iconst (v := 0) dX12_cold_47 rfl ?_
          refine r_istore (L' := [some (.ref 80), some (.int p0), some (.int p1), some (.int p2), some (.int 0), none, none, none, none]) dX12_cold_48 (Nat.le_of_ble_eq_true rfl) rfl rfl ?_
          refine r_iconst (v := 0) dX12_cold_50 rfl ?_
          refine r_istore (L' := [some (.ref 80), some (.int p0), some (.int p1), some (.int p2), some (.int 0), some (.int 0), none, none, none]) dX12_cold_51 (Nat.le_of_ble_eq_true rfl) rfl rfl ?_
          obtain ⟨⟨x56, x57, S58⟩, h60, h⟩ := bT_e h
          dsimp only at h
          replace h := pl_s (pl_s (pl_s (h)))
          refine okX12_cold_53 N p0 p1 p2 (qI r T) 0 (Nat.zero_le _) _ _ _ _ _ _ _ h60 ?_
          refine r_aload_n (x := 80) dX12_cold_160 rfl ?_
          refine r_iconst (v := (-1)) dX12_cold_161 rfl ?_
          refine r_putI dX12_cold_162 lX12_69 ck80 nC80 ?_
          refine r_topS (fun S61 hS61 => ?_)
          replace h := lt_e hS61 h
          refine r_iload (x := x56) dX12_cold_165 rfl ?_
          cases h
          exact r_ireturn dX12_cold_167 rfl (Nat.zero_le _) ⟨rfl, rfl⟩
        · rw [if_pos c54] at h
          refine r_iconst (v := 0) dX12_cold_45 rfl ?_
          cases h
          exact r_ireturn dX12_cold_46 rfl (Nat.zero_le _) ⟨rfl, rfl⟩
      refine r_if_eq (tgt := 37) dX12_cold_30 (by decide) (fun c49 => ?_) (fun c49 => ?_)
      · refine r_iconst (v := 0) dX12_cold_37 rfl ?_
        exact r_tope (by rw [hx50, if_pos c49]) keyx50
      · refine r_iconst (v := 1) dX12_cold_33 rfl ?_
        refine r_goto (tgt := 38) dX12_cold_34 (by decide) ?_
        exact r_tope (by rw [hx50, if_neg c49]) keyx50
def fX12_gains_41 (N : Nat) (v1 : Int32) (v2 : Int32) (v3 : Int32) (v4 : Int32) : Nat → Int32 → Int32 → PS → Option (Int32 × Int32 × PS)
  | 0, _, _, _ => none
  | n + 1, v5, v6, S =>
    (if 12 ≤ v6 then
      some (v5, v6, S)
    else
      bV (fX12_hourGoes N 64 S) fun S8 =>
      gd (inr v1 9) <|
      gd (inr v2 9) <|
      lt ((v5 + ((S8.1 96 (ix v1)) - (S8.1 96 (ix v2)))) : Int32) fun x12 =>
      lt (v6 + 1 : Int32) fun x13 =>
      fX12_gains_41 N v1 v2 v3 v4 n x12 x13 S8)
set_option maxHeartbeats 4000000 in
set_option maxRecDepth 100000 in
theorem okX12_gains_41 (N : Nat) (v1 : Int32) (v2 : Int32) (v3 : Int32) (v4 : Int32) (Q : OQ) (u : Nat) (hu : u ≤ 0) : ∀ (n : Nat) (v5 : Int32) (v6 : Int32) (S : PS) (y5 : Int32) (y6 : Int32) (T : PS), fX12_gains_41 N v1 v2 v3 v4 n v5 v6 S = some (y5, y6, T) → WP [] mX12_gains 5 0 Q 78 [some (.ref 80), some (.int v1), some (.int v2), some (.int v3), some (.int v4), some (.int y5), some (.int y6)] [] T u → WP [] mX12_gains 5 0 Q 41 [some (.ref 80), some (.int v1), some (.int v2), some (.int v3), some (.int v4), some (.int v5), some (.int v6)] [] S u := by
  intro n
  induction n with
  | zero => intro v5 v6 S y5 y6 T h; rw [fX12_gains_41] at h; cases h
  | succ n ih =>
    intro v5 v6 S y5 y6 T h k0
    rw [fX12_gains_41] at h
    refine r_iload (x := v6) dX12_gains_41 rfl ?_
    refine r_bipush (v := 12) dX12_gains_43 rfl ?_
    refine r_icmp_ge (tgt := 78) dX12_gains_45 (by decide) (fun c6 => ?_) (fun c6 => ?_)
    · rw [if_pos c6] at h
      cases h
      exact k0
    · rw [if_neg c6] at h
      refine r_aload_n (x := 80) dX12_gains_48 rfl ?_
      refine r_bipush (v := 64) dX12_gains_49 rfl ?_
      obtain ⟨S8, h9, h⟩ := bV_e h
      refine r_cVV (y := mX12_hourGoes) (As := [.int 64]) (rest := []) dX12_gains_51 qX12_323 kX12_hourGoes rfl ob80 vc12 rfl (okX12_hourGoes N 64 S S8 h9) (by decide) hu rfl (Nat.le_of_ble_eq_true rfl) ?_
      refine r_iload (x := v5) dX12_gains_54 rfl ?_
      refine r_aload_n (x := 80) dX12_gains_56 rfl ?_
      refine r_getfield (o := 80) (v := .ref 96) dX12_gains_57 lX12_66 ck80 nC80 rfl ?_
      refine r_iload_n (x := v1) dX12_gains_60 rfl ?_
      obtain ⟨g10, h⟩ := gd_e h
      refine r_iaload (a := 96) dX12_gains_61 ck96 nC96 (inr_IX g10) ?_
      refine r_aload_n (x := 80) dX12_gains_62 rfl ?_
      refine r_getfield (o := 80) (v := .ref 96) dX12_gains_63 lX12_66 ck80 nC80 rfl ?_
      refine r_iload_n (x := v2) dX12_gains_66 rfl ?_
      obtain ⟨g11, h⟩ := gd_e h
      refine r_iaload (a := 96) dX12_gains_67 ck96 nC96 (inr_IX g11) ?_
      refine r_isub dX12_gains_68 ?_
      refine r_iadd dX12_gains_69 ?_
      refine r_topi (fun x12 hx12 => ?_)
      replace h := lt_e hx12 h
      refine r_istore (L' := [some (.ref 80), some (.int v1), some (.int v2), some (.int v3), some (.int v4), some (.int x12), some (.int v6)]) dX12_gains_70 (Nat.le_of_ble_eq_true rfl) rfl rfl ?_
      obtain ⟨x13, hx13⟩ : ∃ y : Int32, y = (v6 + 1 : Int32) := ⟨_, rfl⟩
      replace h := lt_e hx13 h
      refine r_iinc (x := v6) (v := x13) (L' := [some (.ref 80), some (.int v1), some (.int v2), some (.int v3), some (.int v4), some (.int x12), some (.int x13)]) dX12_gains_72 rfl (by rw [hx13]; rfl) (Nat.le_of_ble_eq_true rfl) rfl rfl ?_
      refine r_goto (tgt := 41) dX12_gains_75 (by decide) ?_
      exact ih _ _ _ _ _ _ h k0
def fX12_gains (N : Nat) (p0 : Int32) (p1 : Int32) (p2 : Int32) (p3 : Int32) (S : PS) : Option (Int32 × PS) :=
  bV (fX12_tries N  S) fun S2 =>
  (if p2 = 1 then
    gd (inr (119 + p0) 128) <|
    lt ((u2 S2.1 91 (ix (119 + p0)) 1, S2.2) : PS) fun S29 =>
    (if p3 = 1 then
      gd (inr (119 + p1) 128) <|
      lt ((u2 S29.1 91 (ix (119 + p1)) 1, S29.2) : PS) fun S38 =>
      bT (fX12_gains_41 N p0 p1 p2 p3 N 0 0 S38) fun q39 =>
      lt (q39.1 : Int32) fun x40 =>
      lt (q39.2.1 : Int32) fun x41 =>
      lt (q39.2.2 : PS) fun S42 =>
      some (((x40 / 2) - p2), S42)
    else
      bT (fX12_gains_41 N p0 p1 p2 p3 N 0 0 S29) fun q31 =>
      lt (q31.1 : Int32) fun x32 =>
      lt (q31.2.1 : Int32) fun x33 =>
      lt (q31.2.2 : PS) fun S34 =>
      some (((x32 / 2) - p2), S34))
  else
    (if p3 = 1 then
      gd (inr (119 + p1) 128) <|
      lt ((u2 S2.1 91 (ix (119 + p1)) 1, S2.2) : PS) fun S21 =>
      bT (fX12_gains_41 N p0 p1 p2 p3 N 0 0 S21) fun q22 =>
      lt (q22.1 : Int32) fun x23 =>
      lt (q22.2.1 : Int32) fun x24 =>
      lt (q22.2.2 : PS) fun S25 =>
      some (((x23 / 2) - p2), S25)
    else
      bT (fX12_gains_41 N p0 p1 p2 p3 N 0 0 S2) fun q14 =>
      lt (q14.1 : Int32) fun x15 =>
      lt (q14.2.1 : Int32) fun x16 =>
      lt (q14.2.2 : PS) fun S17 =>
      some (((x15 / 2) - p2), S17)))
set_option maxHeartbeats 4000000 in
set_option maxRecDepth 100000 in
theorem okX12_gains (N : Nat) (p0 : Int32) (p1 : Int32) (p2 : Int32) (p3 : Int32) (S : PS) (r : Int32) (T : PS) (h : fX12_gains N p0 p1 p2 p3 S = some (r, T)) : CT mX12_gains 5 0 [.ref 80, .int p0, .int p1, .int p2, .int p3] S (qI r T) := by
  refine ct_of [some (.ref 80), some (.int p0), some (.int p1), some (.int p2), some (.int p3), none, none] rfl (fun _ => rfl) (fun _ => Nat.le_of_ble_eq_true rfl) ?_
  unfold fX12_gains at h
  refine r_aload_n (x := 80) dX12_gains_0 rfl ?_
  obtain ⟨S2, h3, h⟩ := bV_e h
  refine r_cVV (y := mX12_tries) (As := []) (rest := []) dX12_gains_1 qX12_381 kX12_tries rfl ob80 vc12 rfl (okX12_tries N  S S2 h3) (by decide) (Nat.zero_le _) rfl (Nat.le_of_ble_eq_true rfl) ?_
  refine r_iload_n (x := p2) dX12_gains_4 rfl ?_
  refine r_iconst (v := 1) dX12_gains_5 rfl ?_
  refine r_icmp_ne (tgt := 19) dX12_gains_6 (by decide) (fun c4 => ?_) (fun c4 => ?_)
  · rw [if_neg c4] at h
    refine r_iload (x := p3) dX12_gains_19 rfl ?_
    refine r_iconst (v := 1) dX12_gains_21 rfl ?_
    refine r_icmp_ne (tgt := 35) dX12_gains_22 (by decide) (fun c5 => ?_) (fun c5 => ?_)
    · rw [if_neg c5] at h
      refine r_iconst (v := 0) dX12_gains_35 rfl ?_
      refine r_istore (L' := [some (.ref 80), some (.int p0), some (.int p1), some (.int p2), some (.int p3), some (.int 0), none]) dX12_gains_36 (Nat.le_of_ble_eq_true rfl) rfl rfl ?_
      refine r_iconst (v := 0) dX12_gains_38 rfl ?_
      refine r_istore (L' := [some (.ref 80), some (.int p0), some (.int p1), some (.int p2), some (.int p3), some (.int 0), some (.int 0)]) dX12_gains_39 (Nat.le_of_ble_eq_true rfl) rfl rfl ?_
      obtain ⟨⟨x15, x16, S17⟩, h19, h⟩ := bT_e h
      dsimp only at h
      replace h := pl_s (pl_s (pl_s (h)))
      refine okX12_gains_41 N p0 p1 p2 p3 (qI r T) 0 (Nat.zero_le _) _ _ _ _ _ _ _ h19 ?_
      refine r_iload (x := x15) dX12_gains_78 rfl ?_
      refine r_iconst (v := 2) dX12_gains_80 rfl ?_
      refine r_idiv dX12_gains_81 (by decide) ?_
      refine r_iload_n (x := p2) dX12_gains_82 rfl ?_
      refine r_isub dX12_gains_83 ?_
      cases h
      exact r_ireturn dX12_gains_84 rfl (Nat.zero_le _) ⟨rfl, rfl⟩
    · rw [if_pos c5] at h
      refine r_aload_n (x := 80) dX12_gains_25 rfl ?_
      refine r_getfield (o := 80) (v := .ref 91) dX12_gains_26 lX12_51 ck80 nC80 rfl ?_
      refine r_bipush (v := 119) dX12_gains_29 rfl ?_
      refine r_iload_n (x := p1) dX12_gains_31 rfl ?_
      refine r_iadd dX12_gains_32 ?_
      refine r_iconst (v := 1) dX12_gains_33 rfl ?_
      obtain ⟨g20, h⟩ := gd_e h
      refine r_iastore (a := 91) dX12_gains_34 ck91 nC91 (inr_IX g20) ?_
      refine r_topS (fun S21 hS21 => ?_)
      replace h := lt_e hS21 h
      refine r_iconst (v := 0) dX12_gains_35 rfl ?_
      refine r_istore (L' := [some (.ref 80), some (.int p0), some (.int p1), some (.int p2), some (.int p3), some (.int 0), none]) dX12_gains_36 (Nat.le_of_ble_eq_true rfl) rfl rfl ?_
      refine r_iconst (v := 0) dX12_gains_38 rfl ?_
      refine r_istore (L' := [some (.ref 80), some (.int p0), some (.int p1), some (.int p2), some (.int p3), some (.int 0), some (.int 0)]) dX12_gains_39 (Nat.le_of_ble_eq_true rfl) rfl rfl ?_
      obtain ⟨⟨x23, x24, S25⟩, h27, h⟩ := bT_e h
      dsimp only at h
      replace h := pl_s (pl_s (pl_s (h)))
      refine okX12_gains_41 N p0 p1 p2 p3 (qI r T) 0 (Nat.zero_le _) _ _ _ _ _ _ _ h27 ?_
      refine r_iload (x := x23) dX12_gains_78 rfl ?_
      refine r_iconst (v := 2) dX12_gains_80 rfl ?_
      refine r_idiv dX12_gains_81 (by decide) ?_
      refine r_iload_n (x := p2) dX12_gains_82 rfl ?_
      refine r_isub dX12_gains_83 ?_
      cases h
      exact r_ireturn dX12_gains_84 rfl (Nat.zero_le _) ⟨rfl, rfl⟩
  · rw [if_pos c4] at h
    refine r_aload_n (x := 80) dX12_gains_9 rfl ?_
    refine r_getfield (o := 80) (v := .ref 91) dX12_gains_10 lX12_51 ck80 nC80 rfl ?_
    refine r_bipush (v := 119) dX12_gains_13 rfl ?_
    refine r_iload_n (x := p0) dX12_gains_15 rfl ?_
    refine r_iadd dX12_gains_16 ?_
    refine r_iconst (v := 1) dX12_gains_17 rfl ?_
    obtain ⟨g28, h⟩ := gd_e h
    refine r_iastore (a := 91) dX12_gains_18 ck91 nC91 (inr_IX g28) ?_
    refine r_topS (fun S29 hS29 => ?_)
    replace h := lt_e hS29 h
    refine r_iload (x := p3) dX12_gains_19 rfl ?_
    refine r_iconst (v := 1) dX12_gains_21 rfl ?_
    refine r_icmp_ne (tgt := 35) dX12_gains_22 (by decide) (fun c30 => ?_) (fun c30 => ?_)
    · rw [if_neg c30] at h
      refine r_iconst (v := 0) dX12_gains_35 rfl ?_
      refine r_istore (L' := [some (.ref 80), some (.int p0), some (.int p1), some (.int p2), some (.int p3), some (.int 0), none]) dX12_gains_36 (Nat.le_of_ble_eq_true rfl) rfl rfl ?_
      refine r_iconst (v := 0) dX12_gains_38 rfl ?_
      refine r_istore (L' := [some (.ref 80), some (.int p0), some (.int p1), some (.int p2), some (.int p3), some (.int 0), some (.int 0)]) dX12_gains_39 (Nat.le_of_ble_eq_true rfl) rfl rfl ?_
      obtain ⟨⟨x32, x33, S34⟩, h36, h⟩ := bT_e h
      dsimp only at h
      replace h := pl_s (pl_s (pl_s (h)))
      refine okX12_gains_41 N p0 p1 p2 p3 (qI r T) 0 (Nat.zero_le _) _ _ _ _ _ _ _ h36 ?_
      refine r_iload (x := x32) dX12_gains_78 rfl ?_
      refine r_iconst (v := 2) dX12_gains_80 rfl ?_
      refine r_idiv dX12_gains_81 (by decide) ?_
      refine r_iload_n (x := p2) dX12_gains_82 rfl ?_
      refine r_isub dX12_gains_83 ?_
      cases h
      exact r_ireturn dX12_gains_84 rfl (Nat.zero_le _) ⟨rfl, rfl⟩
    · rw [if_pos c30] at h
      refine r_aload_n (x := 80) dX12_gains_25 rfl ?_
      refine r_getfield (o := 80) (v := .ref 91) dX12_gains_26 lX12_51 ck80 nC80 rfl ?_
      refine r_bipush (v := 119) dX12_gains_29 rfl ?_
      refine r_iload_n (x := p1) dX12_gains_31 rfl ?_
      refine r_iadd dX12_gains_32 ?_
      refine r_iconst (v := 1) dX12_gains_33 rfl ?_
      obtain ⟨g37, h⟩ := gd_e h
      refine r_iastore (a := 91) dX12_gains_34 ck91 nC91 (inr_IX g37) ?_
      refine r_topS (fun S38 hS38 => ?_)
      replace h := lt_e hS38 h
      refine r_iconst (v := 0) dX12_gains_35 rfl ?_
      refine r_istore (L' := [some (.ref 80), some (.int p0), some (.int p1), some (.int p2), some (.int p3), some (.int 0), none]) dX12_gains_36 (Nat.le_of_ble_eq_true rfl) rfl rfl ?_
      refine r_iconst (v := 0) dX12_gains_38 rfl ?_
      refine r_istore (L' := [some (.ref 80), some (.int p0), some (.int p1), some (.int p2), some (.int p3), some (.int 0), some (.int 0)]) dX12_gains_39 (Nat.le_of_ble_eq_true rfl) rfl rfl ?_
      obtain ⟨⟨x40, x41, S42⟩, h44, h⟩ := bT_e h
      dsimp only at h
      replace h := pl_s (pl_s (pl_s (h)))
      refine okX12_gains_41 N p0 p1 p2 p3 (qI r T) 0 (Nat.zero_le _) _ _ _ _ _ _ _ h44 ?_
      refine r_iload (x := x40) dX12_gains_78 rfl ?_
      refine r_iconst (v := 2) dX12_gains_80 rfl ?_
      refine r_idiv dX12_gains_81 (by decide) ?_
      refine r_iload_n (x := p2) dX12_gains_82 rfl ?_
      refine r_isub dX12_gains_83 ?_
      cases h
      exact r_ireturn dX12_gains_84 rfl (Nat.zero_le _) ⟨rfl, rfl⟩
def fX12_game_59 (N : Nat) (v1 : Int32) (v2 : Int32) (v3 : Int32) : Nat → Int32 → Int32 → Int32 → PS → Option (Int32 × Int32 × Int32 × PS)
  | 0, _, _, _, _ => none
  | n + 1, v4, v5, v6, S =>
    (if 4 ≤ v6 then
      some (v4, v5, v6, S)
    else
      lt ((v6 / 2) : Int32) fun x21 =>
      lt ((v6 - v6 / 2 * 2) : Int32) fun x22 =>
      bI (fX12_gains N v1 v2 (1 - x21) x22 S) fun x23 S24 =>
      bI (fX12_gains N v1 v2 x21 x22 S24) fun x26 S27 =>
      (if x26 < x23 then
        lt (v6 + 1 : Int32) fun x30 =>
        fX12_game_59 N v1 v2 v3 n v4 v5 x30 S27
      else
        bI (fX12_gains N v2 v1 (1 - x22) x21 S27) fun x31 S32 =>
        bI (fX12_gains N v2 v1 x22 x21 S32) fun x34 S35 =>
        (if x31 ≤ x34 then
          lt (v4 + 1 : Int32) fun x38 =>
          (if v5 = (-1) then
            lt (((10 * x21) + x22) : Int32) fun x41 =>
            lt (v6 + 1 : Int32) fun x42 =>
            fX12_game_59 N v1 v2 v3 n x38 x41 x42 S35
          else
            lt (v6 + 1 : Int32) fun x40 =>
            fX12_game_59 N v1 v2 v3 n x38 v5 x40 S35)
        else
          lt (v6 + 1 : Int32) fun x43 =>
          fX12_game_59 N v1 v2 v3 n v4 v5 x43 S35)))
set_option maxHeartbeats 4000000 in
set_option maxRecDepth 100000 in
theorem okX12_game_59 (N : Nat) (v1 : Int32) (v2 : Int32) (v3 : Int32) (Q : OQ) (u : Nat) (hu : u ≤ 0) : ∀ (n : Nat) (v4 : Int32) (v5 : Int32) (v6 : Int32) (S : PS) (y4 : Int32) (y5 : Int32) (y6 : Int32) (T : PS), fX12_game_59 N v1 v2 v3 n v4 v5 v6 S = some (y4, y5, y6, T) → WP [] mX12_game 6 0 Q 155 [some (.ref 80), some (.int v1), some (.int v2), some (.int v3), some (.int y4), some (.int y5), some (.int y6), none, none] [] T u → WP [] mX12_game 6 0 Q 59 [some (.ref 80), some (.int v1), some (.int v2), some (.int v3), some (.int v4), some (.int v5), some (.int v6), none, none] [] S u := by
  intro n
  induction n with
  | zero => intro v4 v5 v6 S y4 y5 y6 T h; rw [fX12_game_59] at h; cases h
  | succ n ih =>
    intro v4 v5 v6 S y4 y5 y6 T h k0
    rw [fX12_game_59] at h
    refine r_iload (x := v6) dX12_game_59 rfl ?_
    refine r_iconst (v := 4) dX12_game_61 rfl ?_
    refine r_icmp_ge (tgt := 155) dX12_game_62 (by decide) (fun c20 => ?_) (fun c20 => ?_)
    · rw [if_pos c20] at h
      cases h
      exact k0
    · rw [if_neg c20] at h
      refine r_iload (x := v6) dX12_game_65 rfl ?_
      refine r_iconst (v := 2) dX12_game_67 rfl ?_
      refine r_idiv dX12_game_68 (by decide) ?_
      refine r_topi (fun x21 hx21 => ?_)
      replace h := lt_e hx21 h
      refine r_istore (L' := [some (.ref 80), some (.int v1), some (.int v2), some (.int v3), some (.int v4), some (.int v5), some (.int v6), some (.int x21), none]) dX12_game_69 (Nat.le_of_ble_eq_true rfl) rfl rfl ?_
      refine r_iload (x := v6) dX12_game_71 rfl ?_
      refine r_iconst (v := 2) dX12_game_73 rfl ?_
      refine r_irem dX12_game_74 (by decide) ?_
      refine r_topi (fun x22 hx22 => ?_)
      replace h := lt_e hx22 h
      refine r_istore (L' := [some (.ref 80), some (.int v1), some (.int v2), some (.int v3), some (.int v4), some (.int v5), some (.int v6), some (.int x21), some (.int x22)]) dX12_game_75 (Nat.le_of_ble_eq_true rfl) rfl rfl ?_
      refine r_aload_n (x := 80) dX12_game_77 rfl ?_
      refine r_iload_n (x := v1) dX12_game_78 rfl ?_
      refine r_iload_n (x := v2) dX12_game_79 rfl ?_
      refine r_iconst (v := 1) dX12_game_80 rfl ?_
      refine r_iload (x := x21) dX12_game_81 rfl ?_
      refine r_isub dX12_game_83 ?_
      refine r_iload (x := x22) dX12_game_84 rfl ?_
      obtain ⟨x23, S24, h25, h⟩ := bI_e h
      refine r_cVI (y := mX12_gains) (As := [.int v1, .int v2, .int (1 - x21), .int x22]) (rest := []) dX12_game_86 qX12_414 kX12_gains rfl ob80 vc12 rfl (okX12_gains N v1 v2 (1 - x21) x22 S x23 S24 h25) (by decide) hu rfl (Nat.le_of_ble_eq_true rfl) ?_
      refine r_aload_n (x := 80) dX12_game_89 rfl ?_
      refine r_iload_n (x := v1) dX12_game_90 rfl ?_
      refine r_iload_n (x := v2) dX12_game_91 rfl ?_
      refine r_iload (x := x21) dX12_game_92 rfl ?_
      refine r_iload (x := x22) dX12_game_94 rfl ?_
      obtain ⟨x26, S27, h28, h⟩ := bI_e h
      refine r_cVI (y := mX12_gains) (As := [.int v1, .int v2, .int x21, .int x22]) (rest := [.int x23]) dX12_game_96 qX12_414 kX12_gains rfl ob80 vc12 rfl (okX12_gains N v1 v2 x21 x22 S24 x26 S27 h28) (by decide) hu rfl (Nat.le_of_ble_eq_true rfl) ?_
      refine r_icmp_gt (tgt := 149) dX12_game_99 (by decide) (fun c29 => ?_) (fun c29 => ?_)
      · rw [if_pos c29] at h
        obtain ⟨x30, hx30⟩ : ∃ y : Int32, y = (v6 + 1 : Int32) := ⟨_, rfl⟩
        replace h := lt_e hx30 h
        refine r_iinc (x := v6) (v := x30) (L' := [some (.ref 80), some (.int v1), some (.int v2), some (.int v3), some (.int v4), some (.int v5), some (.int x30), some (.int x21), some (.int x22)]) dX12_game_149 rfl (by rw [hx30]; rfl) (Nat.le_of_ble_eq_true rfl) rfl rfl ?_
        refine r_goto (tgt := 59) dX12_game_152 (by decide) ?_
        refine r_drop [true, true, true, true, true, true, true, false, false] rfl ?_
        exact ih _ _ _ _ _ _ _ _ h k0
      · rw [if_neg c29] at h
        refine r_aload_n (x := 80) dX12_game_102 rfl ?_
        refine r_iload_n (x := v2) dX12_game_103 rfl ?_
        refine r_iload_n (x := v1) dX12_game_104 rfl ?_
        refine r_iconst (v := 1) dX12_game_105 rfl ?_
        refine r_iload (x := x22) dX12_game_106 rfl ?_
        refine r_isub dX12_game_108 ?_
        refine r_iload (x := x21) dX12_game_109 rfl ?_
        obtain ⟨x31, S32, h33, h⟩ := bI_e h
        refine r_cVI (y := mX12_gains) (As := [.int v2, .int v1, .int (1 - x22), .int x21]) (rest := []) dX12_game_111 qX12_414 kX12_gains rfl ob80 vc12 rfl (okX12_gains N v2 v1 (1 - x22) x21 S27 x31 S32 h33) (by decide) hu rfl (Nat.le_of_ble_eq_true rfl) ?_
        refine r_aload_n (x := 80) dX12_game_114 rfl ?_
        refine r_iload_n (x := v2) dX12_game_115 rfl ?_
        refine r_iload_n (x := v1) dX12_game_116 rfl ?_
        refine r_iload (x := x22) dX12_game_117 rfl ?_
        refine r_iload (x := x21) dX12_game_119 rfl ?_
        obtain ⟨x34, S35, h36, h⟩ := bI_e h
        refine r_cVI (y := mX12_gains) (As := [.int v2, .int v1, .int x22, .int x21]) (rest := [.int x31]) dX12_game_121 qX12_414 kX12_gains rfl ob80 vc12 rfl (okX12_gains N v2 v1 x22 x21 S32 x34 S35 h36) (by decide) hu rfl (Nat.le_of_ble_eq_true rfl) ?_
        refine r_icmp_le (tgt := 130) dX12_game_124 (by decide) (fun c37 => ?_) (fun c37 => ?_)
        · rw [if_pos c37] at h
          obtain ⟨x38, hx38⟩ : ∃ y : Int32, y = (v4 + 1 : Int32) := ⟨_, rfl⟩
          replace h := lt_e hx38 h
          refine r_iinc (x := v4) (v := x38) (L' := [some (.ref 80), some (.int v1), some (.int v2), some (.int v3), some (.int x38), some (.int v5), some (.int v6), some (.int x21), some (.int x22)]) dX12_game_130 rfl (by rw [hx38]; rfl) (Nat.le_of_ble_eq_true rfl) rfl rfl ?_
          refine r_iload (x := v5) dX12_game_133 rfl ?_
          refine r_iconst (v := (-1)) dX12_game_135 rfl ?_
          refine r_icmp_ne (tgt := 149) dX12_game_136 (by decide) (fun c39 => ?_) (fun c39 => ?_)
          · rw [if_neg c39] at h
            obtain ⟨x40, hx40⟩ : ∃ y : Int32, y = (v6 + 1 : Int32) := ⟨_, rfl⟩
            replace h := lt_e hx40 h
            refine r_iinc (x := v6) (v := x40) (L' := [some (.ref 80), some (.int v1), some (.int v2), some (.int v3), some (.int x38), some (.int v5), some (.int x40), some (.int x21), some (.int x22)]) dX12_game_149 rfl (by rw [hx40]; rfl) (Nat.le_of_ble_eq_true rfl) rfl rfl ?_
            refine r_goto (tgt := 59) dX12_game_152 (by decide) ?_
            refine r_drop [true, true, true, true, true, true, true, false, false] rfl ?_
            exact ih _ _ _ _ _ _ _ _ h k0
          · rw [if_pos c39] at h
            refine r_bipush (v := 10) dX12_game_139 rfl ?_
            refine r_iload (x := x21) dX12_game_141 rfl ?_
            refine r_imul dX12_game_143 ?_
            refine r_iload (x := x22) dX12_game_144 rfl ?_
            refine r_iadd dX12_game_146 ?_
            refine r_topi (fun x41 hx41 => ?_)
            replace h := lt_e hx41 h
            refine r_istore (L' := [some (.ref 80), some (.int v1), some (.int v2), some (.int v3), some (.int x38), some (.int x41), some (.int v6), some (.int x21), some (.int x22)]) dX12_game_147 (Nat.le_of_ble_eq_true rfl) rfl rfl ?_
            obtain ⟨x42, hx42⟩ : ∃ y : Int32, y = (v6 + 1 : Int32) := ⟨_, rfl⟩
            replace h := lt_e hx42 h
            refine r_iinc (x := v6) (v := x42) (L' := [some (.ref 80), some (.int v1), some (.int v2), some (.int v3), some (.int x38), some (.int x41), some (.int x42), some (.int x21), some (.int x22)]) dX12_game_149 rfl (by rw [hx42]; rfl) (Nat.le_of_ble_eq_true rfl) rfl rfl ?_
            refine r_goto (tgt := 59) dX12_game_152 (by decide) ?_
            refine r_drop [true, true, true, true, true, true, true, false, false] rfl ?_
            exact ih _ _ _ _ _ _ _ _ h k0
        · rw [if_neg c37] at h
          refine r_goto (tgt := 149) dX12_game_127 (by decide) ?_
          obtain ⟨x43, hx43⟩ : ∃ y : Int32, y = (v6 + 1 : Int32) := ⟨_, rfl⟩
          replace h := lt_e hx43 h
          refine r_iinc (x := v6) (v := x43) (L' := [some (.ref 80), some (.int v1), some (.int v2), some (.int v3), some (.int v4), some (.int v5), some (.int x43), some (.int x21), some (.int x22)]) dX12_game_149 rfl (by rw [hx43]; rfl) (Nat.le_of_ble_eq_true rfl) rfl rfl ?_
          refine r_goto (tgt := 59) dX12_game_152 (by decide) ?_
          refine r_drop [true, true, true, true, true, true, true, false, false] rfl ?_
          exact ih _ _ _ _ _ _ _ _ h k0
def fX12_game (N : Nat) (p0 : Int32) (p1 : Int32) (p2 : Int32) (S : PS) : Option (Int32 × PS) :=
  lt ((u2 S.1 80 0 0, S.2) : PS) fun S1 =>
  bI (fX12_isCup N p0 S1) fun x2 S3 =>
  (if x2 = 0 then
    some (0, S3)
  else
    bI (fX12_isCup N p1 S3) fun x6 S7 =>
    (if x6 = 0 then
      some (0, S7)
    else
      bI (fX12_isWhat N p2 1 S7) fun x10 S11 =>
      (if x10 = 0 then
        some (0, S11)
      else
        lt ((if p0 = p1 then 0 else 1) : Int32) fun x15 =>
        bI (fX12_right N x15 2 S11) fun x16 S17 =>
        (if x16 = 0 then
          some (0, S17)
        else
          bT (fX12_game_59 N p0 p1 p2 N 0 (-1) 0 S17) fun q44 =>
          lt (q44.1 : Int32) fun x45 =>
          lt (q44.2.1 : Int32) fun x46 =>
          lt (q44.2.2.1 : Int32) fun x47 =>
          lt (q44.2.2.2 : PS) fun S48 =>
          lt ((if p2 = 0 then x45 else x46) : Int32) fun x52 =>
          some (x52, S48)))))
set_option maxHeartbeats 4000000 in
set_option maxRecDepth 100000 in
theorem okX12_game (N : Nat) (p0 : Int32) (p1 : Int32) (p2 : Int32) (S : PS) (r : Int32) (T : PS) (h : fX12_game N p0 p1 p2 S = some (r, T)) : CT mX12_game 6 0 [.ref 80, .int p0, .int p1, .int p2] S (qI r T) := by
  refine ct_of [some (.ref 80), some (.int p0), some (.int p1), some (.int p2), none, none, none, none, none] rfl (fun _ => rfl) (fun _ => Nat.le_of_ble_eq_true rfl) ?_
  unfold fX12_game at h
  refine r_aload_n (x := 80) dX12_game_0 rfl ?_
  refine r_iconst (v := 0) dX12_game_1 rfl ?_
  refine r_putI dX12_game_2 lX12_114 ck80 nC80 ?_
  refine r_topS (fun S1 hS1 => ?_)
  replace h := lt_e hS1 h
  refine r_aload_n (x := 80) dX12_game_5 rfl ?_
  refine r_iload_n (x := p0) dX12_game_6 rfl ?_
  obtain ⟨x2, S3, h4, h⟩ := bI_e h
  refine r_cVI (y := mX12_isCup) (As := [.int p0]) (rest := []) dX12_game_7 qX12_351 kX12_isCup rfl ob80 vc12 rfl (okX12_isCup N p0 S1 x2 S3 h4) (by decide) (Nat.zero_le _) rfl (Nat.le_of_ble_eq_true rfl) ?_
  refine r_if_eq (tgt := 48) dX12_game_10 (by decide) (fun c5 => ?_) (fun c5 => ?_)
  · rw [if_pos c5] at h
    refine r_iconst (v := 0) dX12_game_48 rfl ?_
    cases h
    exact r_ireturn dX12_game_49 rfl (Nat.zero_le _) ⟨rfl, rfl⟩
  · rw [if_neg c5] at h
    refine r_aload_n (x := 80) dX12_game_13 rfl ?_
    refine r_iload_n (x := p1) dX12_game_14 rfl ?_
    obtain ⟨x6, S7, h8, h⟩ := bI_e h
    refine r_cVI (y := mX12_isCup) (As := [.int p1]) (rest := []) dX12_game_15 qX12_351 kX12_isCup rfl ob80 vc12 rfl (okX12_isCup N p1 S3 x6 S7 h8) (by decide) (Nat.zero_le _) rfl (Nat.le_of_ble_eq_true rfl) ?_
    refine r_if_eq (tgt := 48) dX12_game_18 (by decide) (fun c9 => ?_) (fun c9 => ?_)
    · rw [if_pos c9] at h
      refine r_iconst (v := 0) dX12_game_48 rfl ?_
      cases h
      exact r_ireturn dX12_game_49 rfl (Nat.zero_le _) ⟨rfl, rfl⟩
    · rw [if_neg c9] at h
      refine r_aload_n (x := 80) dX12_game_21 rfl ?_
      refine r_iload_n (x := p2) dX12_game_22 rfl ?_
      refine r_iconst (v := 1) dX12_game_23 rfl ?_
      obtain ⟨x10, S11, h12, h⟩ := bI_e h
      refine r_cVI (y := mX12_isWhat) (As := [.int p2, .int 1]) (rest := []) dX12_game_24 qX12_354 kX12_isWhat rfl ob80 vc12 rfl (okX12_isWhat N p2 1 S7 x10 S11 h12) (by decide) (Nat.zero_le _) rfl (Nat.le_of_ble_eq_true rfl) ?_
      refine r_if_eq (tgt := 48) dX12_game_27 (by decide) (fun c13 => ?_) (fun c13 => ?_)
      · rw [if_pos c13] at h
        refine r_iconst (v := 0) dX12_game_48 rfl ?_
        cases h
        exact r_ireturn dX12_game_49 rfl (Nat.zero_le _) ⟨rfl, rfl⟩
      · rw [if_neg c13] at h
        refine r_aload_n (x := 80) dX12_game_30 rfl ?_
        refine r_iload_n (x := p0) dX12_game_31 rfl ?_
        refine r_iload_n (x := p1) dX12_game_32 rfl ?_
        obtain ⟨x15, hx15⟩ : ∃ y : Int32, y = ((if p0 = p1 then 0 else 1) : Int32) := ⟨_, rfl⟩
        replace h := lt_e hx15 h
        have keyx15 : WP [] mX12_game 6 0 (qI r T) 41 [some (.ref 80), some (.int p0), some (.int p1), some (.int p2), none, none, none, none, none] (.int x15 :: [.ref 80]) S11 0 := by
          refine r_iconst (v := 2) dX12_game_41 rfl ?_
          obtain ⟨x16, S17, h18, h⟩ := bI_e h
          refine r_cVI (y := mX12_right) (As := [.int x15, .int 2]) (rest := []) dX12_game_42 qX12_262 kX12_right rfl ob80 vc12 rfl (okX12_right N x15 2 S11 x16 S17 h18) (by decide) (Nat.zero_le _) rfl (Nat.le_of_ble_eq_true rfl) ?_
          refine r_if_ne (tgt := 50) dX12_game_45 (by decide) (fun c19 => ?_) (fun c19 => ?_)
          · rw [if_neg c19] at h
            refine r_iconst (v := 0) dX12_game_50 rfl ?_
            refine r_istore (L' := [some (.ref 80), some (.int p0), some (.int p1), some (.int p2), some (.int 0), none, none, none, none]) dX12_game_51 (Nat.le_of_ble_eq_true rfl) rfl rfl ?_
            refine r_iconst (v := (-1)) dX12_game_53 rfl ?_
            refine r_istore (L' := [some (.ref 80), some (.int p0), some (.int p1), some (.int p2), some (.int 0), some (.int (-1)), none, none, none]) dX12_game_54 (Nat.le_of_ble_eq_true rfl) rfl rfl ?_
            refine r_iconst (v := 0) dX12_game_56 rfl ?_
            refine r_istore (L' := [some (.ref 80), some (.int p0), some (.int p1), some (.int p2), some (.int 0), some (.int (-1)), some (.int 0), none, none]) dX12_game_57 (Nat.le_of_ble_eq_true rfl) rfl rfl ?_
            obtain ⟨⟨x45, x46, x47, S48⟩, h50, h⟩ := bT_e h
            dsimp only at h
            replace h := pl_s (pl_s (pl_s (pl_s (h))))
            refine okX12_game_59 N p0 p1 p2 (qI r T) 0 (Nat.zero_le _) _ _ _ _ _ _ _ _ _ h50 ?_
            refine r_iload_n (x := p2) dX12_game_155 rfl ?_
            obtain ⟨x52, hx52⟩ : ∃ y : Int32, y = ((if p2 = 0 then x45 else x46) : Int32) := ⟨_, rfl⟩
            replace h := lt_e hx52 h
            have keyx52 : WP [] mX12_game 6 0 (qI r T) 166 [some (.ref 80), some (.int p0), some (.int p1), some (.int p2), some (.int x45), some (.int x46), some (.int x47), none, none] (.int x52 :: []) S48 0 := by
              cases h
              exact r_ireturn dX12_game_166 rfl (Nat.zero_le _) ⟨rfl, rfl⟩
            refine r_if_ne (tgt := 164) dX12_game_156 (by decide) (fun c51 => ?_) (fun c51 => ?_)
            · refine r_iload (x := x46) dX12_game_164 rfl ?_
              exact r_tope (by rw [hx52, if_neg c51]) keyx52
            · refine r_iload (x := x45) dX12_game_159 rfl ?_
              refine r_goto (tgt := 166) dX12_game_161 (by decide) ?_
              exact r_tope (by rw [hx52, if_pos c51]) keyx52
          · rw [if_pos c19] at h
            refine r_iconst (v := 0) dX12_game_48 rfl ?_
            cases h
            exact r_ireturn dX12_game_49 rfl (Nat.zero_le _) ⟨rfl, rfl⟩
        refine r_icmp_eq (tgt := 40) dX12_game_33 (by decide) (fun c14 => ?_) (fun c14 => ?_)
        · refine r_iconst (v := 0) dX12_game_40 rfl ?_
          exact r_tope (by rw [hx15, if_pos c14]) keyx15
        · refine r_iconst (v := 1) dX12_game_36 rfl ?_
          refine r_goto (tgt := 41) dX12_game_37 (by decide) ?_
          exact r_tope (by rw [hx15, if_neg c14]) keyx15
def fX12_draw (N : Nat) (p0 : Int32) (S : PS) : Option (Int32 × PS) :=
  lt ((u2 S.1 80 53 (((S.1 80 53) * 1103515245) + 12345), S.2) : PS) fun S1 =>
  gd (¬ p0 = 0) <|
  some (((((S1.1 80 53) >>> ((16 : Int32) &&& 31)) &&& 32767) - (((S1.1 80 53) >>> ((16 : Int32) &&& 31)) &&& 32767) / p0 * p0), S1)
set_option maxHeartbeats 4000000 in
set_option maxRecDepth 100000 in
theorem okX12_draw (N : Nat) (p0 : Int32) (S : PS) (r : Int32) (T : PS) (h : fX12_draw N p0 S = some (r, T)) : CT mX12_draw 0 0 [.ref 80, .int p0] S (qI r T) := by
  refine ct_of [some (.ref 80), some (.int p0)] rfl (fun _ => rfl) (fun _ => Nat.le_of_ble_eq_true rfl) ?_
  unfold fX12_draw at h
  refine r_aload_n (x := 80) dX12_draw_0 rfl ?_
  refine r_aload_n (x := 80) dX12_draw_1 rfl ?_
  refine r_getfield (o := 80) (v := .int (S.1 80 53)) dX12_draw_2 lX12_418 ck80 nC80 rfl ?_
  refine r_ldcw (v := 1103515245) dX12_draw_5 kX12_421 ?_
  refine r_imul dX12_draw_8 ?_
  refine r_sipush (v := 12345) dX12_draw_9 rfl ?_
  refine r_iadd dX12_draw_12 ?_
  refine r_putI dX12_draw_13 lX12_418 ck80 nC80 ?_
  refine r_topS (fun S1 hS1 => ?_)
  replace h := lt_e hS1 h
  refine r_aload_n (x := 80) dX12_draw_16 rfl ?_
  refine r_getfield (o := 80) (v := .int (S1.1 80 53)) dX12_draw_17 lX12_418 ck80 nC80 rfl ?_
  refine r_bipush (v := 16) dX12_draw_20 rfl ?_
  refine r_ishr dX12_draw_22 ?_
  refine r_sipush (v := 32767) dX12_draw_23 rfl ?_
  refine r_iand dX12_draw_26 ?_
  refine r_iload_n (x := p0) dX12_draw_27 rfl ?_
  obtain ⟨g2, h⟩ := gd_e h
  refine r_irem dX12_draw_28 g2 ?_
  cases h
  exact r_ireturn dX12_draw_29 rfl (Nat.zero_le _) ⟨rfl, rfl⟩
def fX12_happens (N : Nat)  (S : PS) : Option PS :=
  bI (fX12_draw N 6 S) fun x1 S2 =>
  (if 2 < x1 then
    some S2
  else
    (if (S2.1 80 1) = 0 then
      some S2
    else
      bI (fX12_draw N (S2.1 80 1) S2) fun x6 S7 =>
      (if x1 = 0 then
        gd (inr (119 + x6) 128) <|
        gd (inr (119 + x6) 128) <|
        lt ((u2 S7.1 91 (ix (119 + x6)) (1 - (S7.1 91 (ix (119 + x6)))), S7.2) : PS) fun S37 =>
        (if x1 = 1 then
          bI (fX12_draw N 30 S37) fun x48 S49 =>
          bV (fX12_cracks N 64 x6 (x48 + 1) S49) fun S52 =>
          (if x1 = 2 then
            bI (fX12_draw N (S52.1 80 1) S52) fun x55 S56 =>
            lt ((if x55 ≤ x6 then (-1) else x55) : Int32) fun x59 =>
            bV (fX12_leads N 64 x6 x59 S56) fun S61 =>
            some S61
          else
            some S52)
        else
          (if x1 = 2 then
            bI (fX12_draw N (S37.1 80 1) S37) fun x40 S41 =>
            lt ((if x40 ≤ x6 then (-1) else x40) : Int32) fun x44 =>
            bV (fX12_leads N 64 x6 x44 S41) fun S46 =>
            some S46
          else
            some S37))
      else
        (if x1 = 1 then
          bI (fX12_draw N 30 S7) fun x20 S21 =>
          bV (fX12_cracks N 64 x6 (x20 + 1) S21) fun S24 =>
          (if x1 = 2 then
            bI (fX12_draw N (S24.1 80 1) S24) fun x27 S28 =>
            lt ((if x27 ≤ x6 then (-1) else x27) : Int32) fun x31 =>
            bV (fX12_leads N 64 x6 x31 S28) fun S33 =>
            some S33
          else
            some S24)
        else
          (if x1 = 2 then
            bI (fX12_draw N (S7.1 80 1) S7) fun x12 S13 =>
            lt ((if x12 ≤ x6 then (-1) else x12) : Int32) fun x16 =>
            bV (fX12_leads N 64 x6 x16 S13) fun S18 =>
            some S18
          else
            some S7)))))
set_option maxHeartbeats 4000000 in
set_option maxRecDepth 100000 in
theorem okX12_happens (N : Nat)  (S : PS) (T : PS) (h : fX12_happens N  S = some T) : CT mX12_happens 2 0 [.ref 80] S (qV T) := by
  refine ct_of [some (.ref 80), none, none, none] rfl (fun _ => rfl) (fun _ => Nat.le_of_ble_eq_true rfl) ?_
  unfold fX12_happens at h
  refine r_aload_n (x := 80) dX12_happens_0 rfl ?_
  refine r_bipush (v := 6) dX12_happens_1 rfl ?_
  obtain ⟨x1, S2, h3, h⟩ := bI_e h
  refine r_cVI (y := mX12_draw) (As := [.int 6]) (rest := []) dX12_happens_3 qX12_422 kX12_draw rfl ob80 vc12 rfl (okX12_draw N 6 S x1 S2 h3) (by decide) (Nat.zero_le _) rfl (Nat.le_of_ble_eq_true rfl) ?_
  refine r_istore_n (L' := [some (.ref 80), some (.int x1), none, none]) dX12_happens_6 (Nat.le_of_ble_eq_true rfl) rfl rfl ?_
  refine r_iload_n (x := x1) dX12_happens_7 rfl ?_
  refine r_iconst (v := 2) dX12_happens_8 rfl ?_
  refine r_icmp_gt (tgt := 19) dX12_happens_9 (by decide) (fun c4 => ?_) (fun c4 => ?_)
  · rw [if_pos c4] at h
    cases h
    exact r_return dX12_happens_19 rfl (Nat.zero_le _) ⟨rfl, rfl⟩
  · rw [if_neg c4] at h
    refine r_aload_n (x := 80) dX12_happens_12 rfl ?_
    refine r_getfield (o := 80) (v := .int (S2.1 80 1)) dX12_happens_13 lX12_269 ck80 nC80 rfl ?_
    refine r_if_ne (tgt := 20) dX12_happens_16 (by decide) (fun c5 => ?_) (fun c5 => ?_)
    · rw [if_neg c5] at h
      refine r_aload_n (x := 80) dX12_happens_20 rfl ?_
      refine r_aload_n (x := 80) dX12_happens_21 rfl ?_
      refine r_getfield (o := 80) (v := .int (S2.1 80 1)) dX12_happens_22 lX12_269 ck80 nC80 rfl ?_
      obtain ⟨x6, S7, h8, h⟩ := bI_e h
      refine r_cVI (y := mX12_draw) (As := [.int (S2.1 80 1)]) (rest := []) dX12_happens_25 qX12_422 kX12_draw rfl ob80 vc12 rfl (okX12_draw N (S2.1 80 1) S2 x6 S7 h8) (by decide) (Nat.zero_le _) rfl (Nat.le_of_ble_eq_true rfl) ?_
      refine r_istore_n (L' := [some (.ref 80), some (.int x1), some (.int x6), none]) dX12_happens_28 (Nat.le_of_ble_eq_true rfl) rfl rfl ?_
      refine r_iload_n (x := x1) dX12_happens_29 rfl ?_
      refine r_if_ne (tgt := 53) dX12_happens_30 (by decide) (fun c9 => ?_) (fun c9 => ?_)
      · rw [if_neg c9] at h
        refine r_iload_n (x := x1) dX12_happens_53 rfl ?_
        refine r_iconst (v := 1) dX12_happens_54 rfl ?_
        refine r_icmp_ne (tgt := 73) dX12_happens_55 (by decide) (fun c10 => ?_) (fun c10 => ?_)
        · rw [if_neg c10] at h
          refine r_iload_n (x := x1) dX12_happens_73 rfl ?_
          refine r_iconst (v := 2) dX12_happens_74 rfl ?_
          refine r_icmp_eq (tgt := 79) dX12_happens_75 (by decide) (fun c11 => ?_) (fun c11 => ?_)
          · rw [if_pos c11] at h
            refine r_aload_n (x := 80) dX12_happens_79 rfl ?_
            refine r_aload_n (x := 80) dX12_happens_80 rfl ?_
            refine r_getfield (o := 80) (v := .int (S7.1 80 1)) dX12_happens_81 lX12_269 ck80 nC80 rfl ?_
            obtain ⟨x12, S13, h14, h⟩ := bI_e h
            refine r_cVI (y := mX12_draw) (As := [.int (S7.1 80 1)]) (rest := []) dX12_happens_84 qX12_422 kX12_draw rfl ob80 vc12 rfl (okX12_draw N (S7.1 80 1) S7 x12 S13 h14) (by decide) (Nat.zero_le _) rfl (Nat.le_of_ble_eq_true rfl) ?_
            refine r_istore_n (L' := [some (.ref 80), some (.int x1), some (.int x6), some (.int x12)]) dX12_happens_87 (Nat.le_of_ble_eq_true rfl) rfl rfl ?_
            refine r_aload_n (x := 80) dX12_happens_88 rfl ?_
            refine r_bipush (v := 64) dX12_happens_89 rfl ?_
            refine r_iload_n (x := x6) dX12_happens_91 rfl ?_
            refine r_iload_n (x := x12) dX12_happens_92 rfl ?_
            refine r_iload_n (x := x6) dX12_happens_93 rfl ?_
            obtain ⟨x16, hx16⟩ : ∃ y : Int32, y = ((if x12 ≤ x6 then (-1) else x12) : Int32) := ⟨_, rfl⟩
            replace h := lt_e hx16 h
            have keyx16 : WP [] mX12_happens 2 0 (qV T) 102 [some (.ref 80), some (.int x1), some (.int x6), some (.int x12)] (.int x16 :: [.int x6, .int 64, .ref 80]) S13 0 := by
              obtain ⟨S18, h19, h⟩ := bV_e h
              refine r_cVV (y := mX12_leads) (As := [.int 64, .int x6, .int x16]) (rest := []) dX12_happens_102 qX12_369 kX12_leads rfl ob80 vc12 rfl (okX12_leads N 64 x6 x16 S13 S18 h19) (by decide) (Nat.zero_le _) rfl (Nat.le_of_ble_eq_true rfl) ?_
              cases h
              exact r_return dX12_happens_105 rfl (Nat.zero_le _) ⟨rfl, rfl⟩
            refine r_icmp_le (tgt := 101) dX12_happens_94 (by decide) (fun c15 => ?_) (fun c15 => ?_)
            · refine r_iconst (v := (-1)) dX12_happens_101 rfl ?_
              exact r_tope (by rw [hx16, if_pos c15]) keyx16
            · refine r_iload_n (x := x12) dX12_happens_97 rfl ?_
              refine r_goto (tgt := 102) dX12_happens_98 (by decide) ?_
              exact r_tope (by rw [hx16, if_neg c15]) keyx16
          · rw [if_neg c11] at h
            cases h
            exact r_return dX12_happens_78 rfl (Nat.zero_le _) ⟨rfl, rfl⟩
        · rw [if_pos c10] at h
          refine r_aload_n (x := 80) dX12_happens_58 rfl ?_
          refine r_bipush (v := 64) dX12_happens_59 rfl ?_
          refine r_iload_n (x := x6) dX12_happens_61 rfl ?_
          refine r_aload_n (x := 80) dX12_happens_62 rfl ?_
          refine r_bipush (v := 30) dX12_happens_63 rfl ?_
          obtain ⟨x20, S21, h22, h⟩ := bI_e h
          refine r_cVI (y := mX12_draw) (As := [.int 30]) (rest := [.int x6, .int 64, .ref 80]) dX12_happens_65 qX12_422 kX12_draw rfl ob80 vc12 rfl (okX12_draw N 30 S7 x20 S21 h22) (by decide) (Nat.zero_le _) rfl (Nat.le_of_ble_eq_true rfl) ?_
          refine r_iconst (v := 1) dX12_happens_68 rfl ?_
          refine r_iadd dX12_happens_69 ?_
          obtain ⟨S24, h25, h⟩ := bV_e h
          refine r_cVV (y := mX12_cracks) (As := [.int 64, .int x6, .int (x20 + 1)]) (rest := []) dX12_happens_70 qX12_375 kX12_cracks rfl ob80 vc12 rfl (okX12_cracks N 64 x6 (x20 + 1) S21 S24 h25) (by decide) (Nat.zero_le _) rfl (Nat.le_of_ble_eq_true rfl) ?_
          refine r_iload_n (x := x1) dX12_happens_73 rfl ?_
          refine r_iconst (v := 2) dX12_happens_74 rfl ?_
          refine r_icmp_eq (tgt := 79) dX12_happens_75 (by decide) (fun c26 => ?_) (fun c26 => ?_)
          · rw [if_pos c26] at h
            refine r_aload_n (x := 80) dX12_happens_79 rfl ?_
            refine r_aload_n (x := 80) dX12_happens_80 rfl ?_
            refine r_getfield (o := 80) (v := .int (S24.1 80 1)) dX12_happens_81 lX12_269 ck80 nC80 rfl ?_
            obtain ⟨x27, S28, h29, h⟩ := bI_e h
            refine r_cVI (y := mX12_draw) (As := [.int (S24.1 80 1)]) (rest := []) dX12_happens_84 qX12_422 kX12_draw rfl ob80 vc12 rfl (okX12_draw N (S24.1 80 1) S24 x27 S28 h29) (by decide) (Nat.zero_le _) rfl (Nat.le_of_ble_eq_true rfl) ?_
            refine r_istore_n (L' := [some (.ref 80), some (.int x1), some (.int x6), some (.int x27)]) dX12_happens_87 (Nat.le_of_ble_eq_true rfl) rfl rfl ?_
            refine r_aload_n (x := 80) dX12_happens_88 rfl ?_
            refine r_bipush (v := 64) dX12_happens_89 rfl ?_
            refine r_iload_n (x := x6) dX12_happens_91 rfl ?_
            refine r_iload_n (x := x27) dX12_happens_92 rfl ?_
            refine r_iload_n (x := x6) dX12_happens_93 rfl ?_
            obtain ⟨x31, hx31⟩ : ∃ y : Int32, y = ((if x27 ≤ x6 then (-1) else x27) : Int32) := ⟨_, rfl⟩
            replace h := lt_e hx31 h
            have keyx31 : WP [] mX12_happens 2 0 (qV T) 102 [some (.ref 80), some (.int x1), some (.int x6), some (.int x27)] (.int x31 :: [.int x6, .int 64, .ref 80]) S28 0 := by
              obtain ⟨S33, h34, h⟩ := bV_e h
              refine r_cVV (y := mX12_leads) (As := [.int 64, .int x6, .int x31]) (rest := []) dX12_happens_102 qX12_369 kX12_leads rfl ob80 vc12 rfl (okX12_leads N 64 x6 x31 S28 S33 h34) (by decide) (Nat.zero_le _) rfl (Nat.le_of_ble_eq_true rfl) ?_
              cases h
              exact r_return dX12_happens_105 rfl (Nat.zero_le _) ⟨rfl, rfl⟩
            refine r_icmp_le (tgt := 101) dX12_happens_94 (by decide) (fun c30 => ?_) (fun c30 => ?_)
            · refine r_iconst (v := (-1)) dX12_happens_101 rfl ?_
              exact r_tope (by rw [hx31, if_pos c30]) keyx31
            · refine r_iload_n (x := x27) dX12_happens_97 rfl ?_
              refine r_goto (tgt := 102) dX12_happens_98 (by decide) ?_
              exact r_tope (by rw [hx31, if_neg c30]) keyx31
          · rw [if_neg c26] at h
            cases h
            exact r_return dX12_happens_78 rfl (Nat.zero_le _) ⟨rfl, rfl⟩
      · rw [if_pos c9] at h
        refine r_aload_n (x := 80) dX12_happens_33 rfl ?_
        refine r_getfield (o := 80) (v := .ref 91) dX12_happens_34 lX12_51 ck80 nC80 rfl ?_
        refine r_bipush (v := 119) dX12_happens_37 rfl ?_
        refine r_iload_n (x := x6) dX12_happens_39 rfl ?_
        refine r_iadd dX12_happens_40 ?_
        refine r_iconst (v := 1) dX12_happens_41 rfl ?_
        refine r_aload_n (x := 80) dX12_happens_42 rfl ?_
        refine r_getfield (o := 80) (v := .ref 91) dX12_happens_43 lX12_51 ck80 nC80 rfl ?_
        refine r_bipush (v := 119) dX12_happens_46 rfl ?_
        refine r_iload_n (x := x6) dX12_happens_48 rfl ?_
        refine r_iadd dX12_happens_49 ?_
        obtain ⟨g35, h⟩ := gd_e h
        refine r_iaload (a := 91) dX12_happens_50 ck91 nC91 (inr_IX g35) ?_
        refine r_isub dX12_happens_51 ?_
        obtain ⟨g36, h⟩ := gd_e h
        refine r_iastore (a := 91) dX12_happens_52 ck91 nC91 (inr_IX g36) ?_
        refine r_topS (fun S37 hS37 => ?_)
        replace h := lt_e hS37 h
        refine r_iload_n (x := x1) dX12_happens_53 rfl ?_
        refine r_iconst (v := 1) dX12_happens_54 rfl ?_
        refine r_icmp_ne (tgt := 73) dX12_happens_55 (by decide) (fun c38 => ?_) (fun c38 => ?_)
        · rw [if_neg c38] at h
          refine r_iload_n (x := x1) dX12_happens_73 rfl ?_
          refine r_iconst (v := 2) dX12_happens_74 rfl ?_
          refine r_icmp_eq (tgt := 79) dX12_happens_75 (by decide) (fun c39 => ?_) (fun c39 => ?_)
          · rw [if_pos c39] at h
            refine r_aload_n (x := 80) dX12_happens_79 rfl ?_
            refine r_aload_n (x := 80) dX12_happens_80 rfl ?_
            refine r_getfield (o := 80) (v := .int (S37.1 80 1)) dX12_happens_81 lX12_269 ck80 nC80 rfl ?_
            obtain ⟨x40, S41, h42, h⟩ := bI_e h
            refine r_cVI (y := mX12_draw) (As := [.int (S37.1 80 1)]) (rest := []) dX12_happens_84 qX12_422 kX12_draw rfl ob80 vc12 rfl (okX12_draw N (S37.1 80 1) S37 x40 S41 h42) (by decide) (Nat.zero_le _) rfl (Nat.le_of_ble_eq_true rfl) ?_
            refine r_istore_n (L' := [some (.ref 80), some (.int x1), some (.int x6), some (.int x40)]) dX12_happens_87 (Nat.le_of_ble_eq_true rfl) rfl rfl ?_
            refine r_aload_n (x := 80) dX12_happens_88 rfl ?_
            refine r_bipush (v := 64) dX12_happens_89 rfl ?_
            refine r_iload_n (x := x6) dX12_happens_91 rfl ?_
            refine r_iload_n (x := x40) dX12_happens_92 rfl ?_
            refine r_iload_n (x := x6) dX12_happens_93 rfl ?_
            obtain ⟨x44, hx44⟩ : ∃ y : Int32, y = ((if x40 ≤ x6 then (-1) else x40) : Int32) := ⟨_, rfl⟩
            replace h := lt_e hx44 h
            have keyx44 : WP [] mX12_happens 2 0 (qV T) 102 [some (.ref 80), some (.int x1), some (.int x6), some (.int x40)] (.int x44 :: [.int x6, .int 64, .ref 80]) S41 0 := by
              obtain ⟨S46, h47, h⟩ := bV_e h
              refine r_cVV (y := mX12_leads) (As := [.int 64, .int x6, .int x44]) (rest := []) dX12_happens_102 qX12_369 kX12_leads rfl ob80 vc12 rfl (okX12_leads N 64 x6 x44 S41 S46 h47) (by decide) (Nat.zero_le _) rfl (Nat.le_of_ble_eq_true rfl) ?_
              cases h
              exact r_return dX12_happens_105 rfl (Nat.zero_le _) ⟨rfl, rfl⟩
            refine r_icmp_le (tgt := 101) dX12_happens_94 (by decide) (fun c43 => ?_) (fun c43 => ?_)
            · refine r_iconst (v := (-1)) dX12_happens_101 rfl ?_
              exact r_tope (by rw [hx44, if_pos c43]) keyx44
            · refine r_iload_n (x := x40) dX12_happens_97 rfl ?_
              refine r_goto (tgt := 102) dX12_happens_98 (by decide) ?_
              exact r_tope (by rw [hx44, if_neg c43]) keyx44
          · rw [if_neg c39] at h
            cases h
            exact r_return dX12_happens_78 rfl (Nat.zero_le _) ⟨rfl, rfl⟩
        · rw [if_pos c38] at h
          refine r_aload_n (x := 80) dX12_happens_58 rfl ?_
          refine r_bipush (v := 64) dX12_happens_59 rfl ?_
          refine r_iload_n (x := x6) dX12_happens_61 rfl ?_
          refine r_aload_n (x := 80) dX12_happens_62 rfl ?_
          refine r_bipush (v := 30) dX12_happens_63 rfl ?_
          obtain ⟨x48, S49, h50, h⟩ := bI_e h
          refine r_cVI (y := mX12_draw) (As := [.int 30]) (rest := [.int x6, .int 64, .ref 80]) dX12_happens_65 qX12_422 kX12_draw rfl ob80 vc12 rfl (okX12_draw N 30 S37 x48 S49 h50) (by decide) (Nat.zero_le _) rfl (Nat.le_of_ble_eq_true rfl) ?_
          refine r_iconst (v := 1) dX12_happens_68 rfl ?_
          refine r_iadd dX12_happens_69 ?_
          obtain ⟨S52, h53, h⟩ := bV_e h
          refine r_cVV (y := mX12_cracks) (As := [.int 64, .int x6, .int (x48 + 1)]) (rest := []) dX12_happens_70 qX12_375 kX12_cracks rfl ob80 vc12 rfl (okX12_cracks N 64 x6 (x48 + 1) S49 S52 h53) (by decide) (Nat.zero_le _) rfl (Nat.le_of_ble_eq_true rfl) ?_
          refine r_iload_n (x := x1) dX12_happens_73 rfl ?_
          refine r_iconst (v := 2) dX12_happens_74 rfl ?_
          refine r_icmp_eq (tgt := 79) dX12_happens_75 (by decide) (fun c54 => ?_) (fun c54 => ?_)
          · rw [if_pos c54] at h
            refine r_aload_n (x := 80) dX12_happens_79 rfl ?_
            refine r_aload_n (x := 80) dX12_happens_80 rfl ?_
            refine r_getfield (o := 80) (v := .int (S52.1 80 1)) dX12_happens_81 lX12_269 ck80 nC80 rfl ?_
            obtain ⟨x55, S56, h57, h⟩ := bI_e h
            refine r_cVI (y := mX12_draw) (As := [.int (S52.1 80 1)]) (rest := []) dX12_happens_84 qX12_422 kX12_draw rfl ob80 vc12 rfl (okX12_draw N (S52.1 80 1) S52 x55 S56 h57) (by decide) (Nat.zero_le _) rfl (Nat.le_of_ble_eq_true rfl) ?_
            refine r_istore_n (L' := [some (.ref 80), some (.int x1), some (.int x6), some (.int x55)]) dX12_happens_87 (Nat.le_of_ble_eq_true rfl) rfl rfl ?_
            refine r_aload_n (x := 80) dX12_happens_88 rfl ?_
            refine r_bipush (v := 64) dX12_happens_89 rfl ?_
            refine r_iload_n (x := x6) dX12_happens_91 rfl ?_
            refine r_iload_n (x := x55) dX12_happens_92 rfl ?_
            refine r_iload_n (x := x6) dX12_happens_93 rfl ?_
            obtain ⟨x59, hx59⟩ : ∃ y : Int32, y = ((if x55 ≤ x6 then (-1) else x55) : Int32) := ⟨_, rfl⟩
            replace h := lt_e hx59 h
            have keyx59 : WP [] mX12_happens 2 0 (qV T) 102 [some (.ref 80), some (.int x1), some (.int x6), some (.int x55)] (.int x59 :: [.int x6, .int 64, .ref 80]) S56 0 := by
              obtain ⟨S61, h62, h⟩ := bV_e h
              refine r_cVV (y := mX12_leads) (As := [.int 64, .int x6, .int x59]) (rest := []) dX12_happens_102 qX12_369 kX12_leads rfl ob80 vc12 rfl (okX12_leads N 64 x6 x59 S56 S61 h62) (by decide) (Nat.zero_le _) rfl (Nat.le_of_ble_eq_true rfl) ?_
              cases h
              exact r_return dX12_happens_105 rfl (Nat.zero_le _) ⟨rfl, rfl⟩
            refine r_icmp_le (tgt := 101) dX12_happens_94 (by decide) (fun c58 => ?_) (fun c58 => ?_)
            · refine r_iconst (v := (-1)) dX12_happens_101 rfl ?_
              exact r_tope (by rw [hx59, if_pos c58]) keyx59
            · refine r_iload_n (x := x55) dX12_happens_97 rfl ?_
              refine r_goto (tgt := 102) dX12_happens_98 (by decide) ?_
              exact r_tope (by rw [hx59, if_neg c58]) keyx59
          · rw [if_neg c54] at h
            cases h
            exact r_return dX12_happens_78 rfl (Nat.zero_le _) ⟨rfl, rfl⟩
    · rw [if_pos c5] at h
      cases h
      exact r_return dX12_happens_19 rfl (Nat.zero_le _) ⟨rfl, rfl⟩
def fX12_years_63 (N : Nat) (v1 : Int32) (v2 : Int32) (v3 : Int32) (v5 : Int32) (v6 : Int32) : Nat → Int32 → Int32 → PS → Option (Int32 × Int32 × PS)
  | 0, _, _, _ => none
  | n + 1, v4, v7, S =>
    (if (S.1 80 1) ≤ v7 then
      some (v4, v7, S)
    else
      gd (inr v7 9) <|
      lt ((v4 + (S.1 96 (ix v7))) : Int32) fun x23 =>
      lt (v7 + 1 : Int32) fun x24 =>
      fX12_years_63 N v1 v2 v3 v5 v6 n x23 x24 S)
set_option maxHeartbeats 4000000 in
set_option maxRecDepth 100000 in
theorem okX12_years_63 (N : Nat) (v1 : Int32) (v2 : Int32) (v3 : Int32) (v5 : Int32) (v6 : Int32) (Q : OQ) (u : Nat) (hu : u ≤ 0) : ∀ (n : Nat) (v4 : Int32) (v7 : Int32) (S : PS) (y4 : Int32) (y7 : Int32) (T : PS), fX12_years_63 N v1 v2 v3 v5 v6 n v4 v7 S = some (y4, y7, T) → WP [] mX12_years 5 0 Q 90 [some (.ref 80), some (.int v1), some (.int v2), some (.int v3), some (.int y4), some (.int v5), some (.int v6), some (.int y7)] [] T u → WP [] mX12_years 5 0 Q 63 [some (.ref 80), some (.int v1), some (.int v2), some (.int v3), some (.int v4), some (.int v5), some (.int v6), some (.int v7)] [] S u := by
  intro n
  induction n with
  | zero => intro v4 v7 S y4 y7 T h; rw [fX12_years_63] at h; cases h
  | succ n ih =>
    intro v4 v7 S y4 y7 T h k0
    rw [fX12_years_63] at h
    refine r_iload (x := v7) dX12_years_63 rfl ?_
    refine r_aload_n (x := 80) dX12_years_65 rfl ?_
    refine r_getfield (o := 80) (v := .int (S.1 80 1)) dX12_years_66 lX12_269 ck80 nC80 rfl ?_
    refine r_icmp_ge (tgt := 90) dX12_years_69 (by decide) (fun c21 => ?_) (fun c21 => ?_)
    · rw [if_pos c21] at h
      cases h
      exact k0
    · rw [if_neg c21] at h
      refine r_iload (x := v4) dX12_years_72 rfl ?_
      refine r_aload_n (x := 80) dX12_years_74 rfl ?_
      refine r_getfield (o := 80) (v := .ref 96) dX12_years_75 lX12_66 ck80 nC80 rfl ?_
      refine r_iload (x := v7) dX12_years_78 rfl ?_
      obtain ⟨g22, h⟩ := gd_e h
      refine r_iaload (a := 96) dX12_years_80 ck96 nC96 (inr_IX g22) ?_
      refine r_iadd dX12_years_81 ?_
      refine r_topi (fun x23 hx23 => ?_)
      replace h := lt_e hx23 h
      refine r_istore (L' := [some (.ref 80), some (.int v1), some (.int v2), some (.int v3), some (.int x23), some (.int v5), some (.int v6), some (.int v7)]) dX12_years_82 (Nat.le_of_ble_eq_true rfl) rfl rfl ?_
      obtain ⟨x24, hx24⟩ : ∃ y : Int32, y = (v7 + 1 : Int32) := ⟨_, rfl⟩
      replace h := lt_e hx24 h
      refine r_iinc (x := v7) (v := x24) (L' := [some (.ref 80), some (.int v1), some (.int v2), some (.int v3), some (.int x23), some (.int v5), some (.int v6), some (.int x24)]) dX12_years_84 rfl (by rw [hx24]; rfl) (Nat.le_of_ble_eq_true rfl) rfl rfl ?_
      refine r_goto (tgt := 63) dX12_years_87 (by decide) ?_
      exact ih _ _ _ _ _ _ h k0
def fX12_years_44 (N : Nat) (v1 : Int32) (v2 : Int32) (v3 : Int32) : Nat → Int32 → Int32 → Int32 → PS → Option (Int32 × Int32 × Int32 × PS)
  | 0, _, _, _, _ => none
  | n + 1, v4, v5, v6, S =>
    (if v2 ≤ v6 then
      some (v4, v5, v6, S)
    else
      bV (fX12_happens N  S) fun S16 =>
      bV (fX12_hourGoes N 64 S16) fun S19 =>
      bT (fX12_years_63 N v1 v2 v3 v5 v6 N v4 0 S19) fun q25 =>
      lt (q25.1 : Int32) fun x26 =>
      lt (q25.2.1 : Int32) fun x27 =>
      lt (q25.2.2 : PS) fun S28 =>
      lt ((v5 ||| (S28.1 80 38)) : Int32) fun x31 =>
      lt (v6 + 1 : Int32) fun x32 =>
      fX12_years_44 N v1 v2 v3 n x26 x31 x32 S28)
set_option maxHeartbeats 4000000 in
set_option maxRecDepth 100000 in
theorem okX12_years_44 (N : Nat) (v1 : Int32) (v2 : Int32) (v3 : Int32) (Q : OQ) (u : Nat) (hu : u ≤ 0) : ∀ (n : Nat) (v4 : Int32) (v5 : Int32) (v6 : Int32) (S : PS) (y4 : Int32) (y5 : Int32) (y6 : Int32) (T : PS), fX12_years_44 N v1 v2 v3 n v4 v5 v6 S = some (y4, y5, y6, T) → WP [] mX12_years 5 0 Q 105 [some (.ref 80), some (.int v1), some (.int v2), some (.int v3), some (.int y4), some (.int y5), some (.int y6), none] [] T u → WP [] mX12_years 5 0 Q 44 [some (.ref 80), some (.int v1), some (.int v2), some (.int v3), some (.int v4), some (.int v5), some (.int v6), none] [] S u := by
  intro n
  induction n with
  | zero => intro v4 v5 v6 S y4 y5 y6 T h; rw [fX12_years_44] at h; cases h
  | succ n ih =>
    intro v4 v5 v6 S y4 y5 y6 T h k0
    rw [fX12_years_44] at h
    refine r_iload (x := v6) dX12_years_44 rfl ?_
    refine r_iload_n (x := v2) dX12_years_46 rfl ?_
    refine r_icmp_ge (tgt := 105) dX12_years_47 (by decide) (fun c14 => ?_) (fun c14 => ?_)
    · rw [if_pos c14] at h
      cases h
      exact k0
    · rw [if_neg c14] at h
      refine r_aload_n (x := 80) dX12_years_50 rfl ?_
      obtain ⟨S16, h17, h⟩ := bV_e h
      refine r_cVV (y := mX12_happens) (As := []) (rest := []) dX12_years_51 qX12_425 kX12_happens rfl ob80 vc12 rfl (okX12_happens N  S S16 h17) (by decide) hu rfl (Nat.le_of_ble_eq_true rfl) ?_
      refine r_aload_n (x := 80) dX12_years_54 rfl ?_
      refine r_bipush (v := 64) dX12_years_55 rfl ?_
      obtain ⟨S19, h20, h⟩ := bV_e h
      refine r_cVV (y := mX12_hourGoes) (As := [.int 64]) (rest := []) dX12_years_57 qX12_323 kX12_hourGoes rfl ob80 vc12 rfl (okX12_hourGoes N 64 S16 S19 h20) (by decide) hu rfl (Nat.le_of_ble_eq_true rfl) ?_
      refine r_iconst (v := 0) dX12_years_60 rfl ?_
      refine r_istore (L' := [some (.ref 80), some (.int v1), some (.int v2), some (.int v3), some (.int v4), some (.int v5), some (.int v6), some (.int 0)]) dX12_years_61 (Nat.le_of_ble_eq_true rfl) rfl rfl ?_
      obtain ⟨⟨x26, x27, S28⟩, h30, h⟩ := bT_e h
      dsimp only at h
      replace h := pl_s (pl_s (pl_s (h)))
      refine okX12_years_63 N v1 v2 v3 v5 v6 Q u hu _ _ _ _ _ _ _ h30 ?_
      refine r_iload (x := v5) dX12_years_90 rfl ?_
      refine r_aload_n (x := 80) dX12_years_92 rfl ?_
      refine r_getfield (o := 80) (v := .int (S28.1 80 38)) dX12_years_93 lX12_300 ck80 nC80 rfl ?_
      refine r_ior dX12_years_96 ?_
      refine r_topi (fun x31 hx31 => ?_)
      replace h := lt_e hx31 h
      refine r_istore (L' := [some (.ref 80), some (.int v1), some (.int v2), some (.int v3), some (.int x26), some (.int x31), some (.int v6), some (.int x27)]) dX12_years_97 (Nat.le_of_ble_eq_true rfl) rfl rfl ?_
      obtain ⟨x32, hx32⟩ : ∃ y : Int32, y = (v6 + 1 : Int32) := ⟨_, rfl⟩
      replace h := lt_e hx32 h
      refine r_iinc (x := v6) (v := x32) (L' := [some (.ref 80), some (.int v1), some (.int v2), some (.int v3), some (.int x26), some (.int x31), some (.int x32), some (.int x27)]) dX12_years_99 rfl (by rw [hx32]; rfl) (Nat.le_of_ble_eq_true rfl) rfl rfl ?_
      refine r_goto (tgt := 44) dX12_years_102 (by decide) ?_
      refine r_drop [true, true, true, true, true, true, true, false] rfl ?_
      exact ih _ _ _ _ _ _ _ _ h k0
def fX12_years (N : Nat) (p0 : Int32) (p1 : Int32) (p2 : Int32) (S : PS) : Option (Int32 × PS) :=
  lt ((u2 S.1 80 0 0, S.2) : PS) fun S1 =>
  bI (fX12_isWhat N p2 2 S1) fun x2 S3 =>
  (if x2 = 0 then
    some (0, S3)
  else
    bI (fX12_isSoon N p1 0 2 S3) fun x6 S7 =>
    (if x6 = 0 then
      some (0, S7)
    else
      bV (fX12_tries N  S7) fun S11 =>
      lt ((u2 S11.1 80 53 p0, S11.2) : PS) fun S13 =>
      bT (fX12_years_44 N p0 p1 p2 N 0 0 0 S13) fun q33 =>
      lt (q33.1 : Int32) fun x34 =>
      lt (q33.2.1 : Int32) fun x35 =>
      lt (q33.2.2.1 : Int32) fun x36 =>
      lt (q33.2.2.2 : PS) fun S37 =>
      (if p2 = 0 then
        some (x34, S37)
      else
        (if p2 = 1 then
          bI (fX12_sumOf N 64 10 S37) fun x45 S46 =>
          some (x45, S46)
        else
          bI (fX12_bits N x35 S37) fun x42 S43 =>
          some (((S37.1 80 1) - x42), S43)))))
set_option maxHeartbeats 4000000 in
set_option maxRecDepth 100000 in
theorem okX12_years (N : Nat) (p0 : Int32) (p1 : Int32) (p2 : Int32) (S : PS) (r : Int32) (T : PS) (h : fX12_years N p0 p1 p2 S = some (r, T)) : CT mX12_years 5 0 [.ref 80, .int p0, .int p1, .int p2] S (qI r T) := by
  refine ct_of [some (.ref 80), some (.int p0), some (.int p1), some (.int p2), none, none, none, none] rfl (fun _ => rfl) (fun _ => Nat.le_of_ble_eq_true rfl) ?_
  unfold fX12_years at h
  refine r_aload_n (x := 80) dX12_years_0 rfl ?_
  refine r_iconst (v := 0) dX12_years_1 rfl ?_
  refine r_putI dX12_years_2 lX12_114 ck80 nC80 ?_
  refine r_topS (fun S1 hS1 => ?_)
  replace h := lt_e hS1 h
  refine r_aload_n (x := 80) dX12_years_5 rfl ?_
  refine r_iload_n (x := p2) dX12_years_6 rfl ?_
  refine r_iconst (v := 2) dX12_years_7 rfl ?_
  obtain ⟨x2, S3, h4, h⟩ := bI_e h
  refine r_cVI (y := mX12_isWhat) (As := [.int p2, .int 2]) (rest := []) dX12_years_8 qX12_354 kX12_isWhat rfl ob80 vc12 rfl (okX12_isWhat N p2 2 S1 x2 S3 h4) (by decide) (Nat.zero_le _) rfl (Nat.le_of_ble_eq_true rfl) ?_
  refine r_if_eq (tgt := 24) dX12_years_11 (by decide) (fun c5 => ?_) (fun c5 => ?_)
  · rw [if_pos c5] at h
    refine r_iconst (v := 0) dX12_years_24 rfl ?_
    cases h
    exact r_ireturn dX12_years_25 rfl (Nat.zero_le _) ⟨rfl, rfl⟩
  · rw [if_neg c5] at h
    refine r_aload_n (x := 80) dX12_years_14 rfl ?_
    refine r_iload_n (x := p1) dX12_years_15 rfl ?_
    refine r_iconst (v := 0) dX12_years_16 rfl ?_
    refine r_iconst (v := 2) dX12_years_17 rfl ?_
    obtain ⟨x6, S7, h8, h⟩ := bI_e h
    refine r_cVI (y := mX12_isSoon) (As := [.int p1, .int 0, .int 2]) (rest := []) dX12_years_18 qX12_378 kX12_isSoon rfl ob80 vc12 rfl (okX12_isSoon N p1 0 2 S3 x6 S7 h8) (by decide) (Nat.zero_le _) rfl (Nat.le_of_ble_eq_true rfl) ?_
    refine r_if_ne (tgt := 26) dX12_years_21 (by decide) (fun c9 => ?_) (fun c9 => ?_)
    · rw [if_neg c9] at h
      refine r_aload_n (x := 80) dX12_years_26 rfl ?_
      obtain ⟨S11, h12, h⟩ := bV_e h
      refine r_cVV (y := mX12_tries) (As := []) (rest := []) dX12_years_27 qX12_381 kX12_tries rfl ob80 vc12 rfl (okX12_tries N  S7 S11 h12) (by decide) (Nat.zero_le _) rfl (Nat.le_of_ble_eq_true rfl) ?_
      refine r_aload_n (x := 80) dX12_years_30 rfl ?_
      refine r_iload_n (x := p0) dX12_years_31 rfl ?_
      refine r_putI dX12_years_32 lX12_418 ck80 nC80 ?_
      refine r_topS (fun S13 hS13 => ?_)
      replace h := lt_e hS13 h
      refine r_iconst (v := 0) dX12_years_35 rfl ?_
      refine r_istore (L' := [some (.ref 80), some (.int p0), some (.int p1), some (.int p2), some (.int 0), none, none, none]) dX12_years_36 (Nat.le_of_ble_eq_true rfl) rfl rfl ?_
      refine r_iconst (v := 0) dX12_years_38 rfl ?_
      refine r_istore (L' := [some (.ref 80), some (.int p0), some (.int p1), some (.int p2), some (.int 0), some (.int 0), none, none]) dX12_years_39 (Nat.le_of_ble_eq_true rfl) rfl rfl ?_
      refine r_iconst (v := 0) dX12_years_41 rfl ?_
      refine r_istore (L' := [some (.ref 80), some (.int p0), some (.int p1), some (.int p2), some (.int 0), some (.int 0), some (.int 0), none]) dX12_years_42 (Nat.le_of_ble_eq_true rfl) rfl rfl ?_
      obtain ⟨⟨x34, x35, x36, S37⟩, h39, h⟩ := bT_e h
      dsimp only at h
      replace h := pl_s (pl_s (pl_s (pl_s (h))))
      refine okX12_years_44 N p0 p1 p2 (qI r T) 0 (Nat.zero_le _) _ _ _ _ _ _ _ _ _ h39 ?_
      refine r_iload_n (x := p2) dX12_years_105 rfl ?_
      refine r_if_ne (tgt := 114) dX12_years_106 (by decide) (fun c40 => ?_) (fun c40 => ?_)
      · rw [if_neg c40] at h
        refine r_iload_n (x := p2) dX12_years_114 rfl ?_
        refine r_iconst (v := 1) dX12_years_115 rfl ?_
        refine r_icmp_ne (tgt := 130) dX12_years_116 (by decide) (fun c41 => ?_) (fun c41 => ?_)
        · rw [if_neg c41] at h
          refine r_aload_n (x := 80) dX12_years_130 rfl ?_
          refine r_getfield (o := 80) (v := .int (S37.1 80 1)) dX12_years_131 lX12_269 ck80 nC80 rfl ?_
          refine r_iload (x := x35) dX12_years_134 rfl ?_
          obtain ⟨x42, S43, h44, h⟩ := bI_e h
          refine r_cSI (y := mX12_bits) (As := [.int x35]) (rest := [.int (S37.1 80 1)]) dX12_years_136 qX12_393 kX12_bits rfl (okX12_bits N x35 S37 x42 S43 h44) (by decide) (Nat.zero_le _) rfl (Nat.le_of_ble_eq_true rfl) ?_
          refine r_isub dX12_years_139 ?_
          cases h
          exact r_ireturn dX12_years_140 rfl (Nat.zero_le _) ⟨rfl, rfl⟩
        · rw [if_pos c41] at h
          refine r_aload_n (x := 80) dX12_years_119 rfl ?_
          refine r_bipush (v := 64) dX12_years_120 rfl ?_
          refine r_bipush (v := 10) dX12_years_122 rfl ?_
          obtain ⟨x45, S46, h47, h⟩ := bI_e h
          refine r_cVI (y := mX12_sumOf) (As := [.int 64, .int 10]) (rest := []) dX12_years_124 qX12_339 kX12_sumOf rfl ob80 vc12 rfl (okX12_sumOf N 64 10 S37 x45 S46 h47) (by decide) (Nat.zero_le _) rfl (Nat.le_of_ble_eq_true rfl) ?_
          refine r_goto (tgt := 140) dX12_years_127 (by decide) ?_
          cases h
          exact r_ireturn dX12_years_140 rfl (Nat.zero_le _) ⟨rfl, rfl⟩
      · rw [if_pos c40] at h
        refine r_iload (x := x34) dX12_years_109 rfl ?_
        refine r_goto (tgt := 140) dX12_years_111 (by decide) ?_
        cases h
        exact r_ireturn dX12_years_140 rfl (Nat.zero_le _) ⟨rfl, rfl⟩
    · rw [if_pos c9] at h
      refine r_iconst (v := 0) dX12_years_24 rfl ?_
      cases h
      exact r_ireturn dX12_years_25 rfl (Nat.zero_le _) ⟨rfl, rfl⟩
def fX12_image_28 (N : Nat)  : Nat → Int32 → PS → Option (Int32 × PS)
  | 0, _, _ => none
  | n + 1, v1, S =>
    (if 64 ≤ v1 then
      some (v1, S)
    else
      gd (inr v1 128) <|
      gd (inr v1 64) <|
      lt ((u2 S.1 108 (ix v1) (S.1 91 (ix v1)), S.2) : PS) fun S8 =>
      lt (v1 + 1 : Int32) fun x9 =>
      fX12_image_28 N  n x9 S8)
set_option maxHeartbeats 4000000 in
set_option maxRecDepth 100000 in
theorem okX12_image_28 (N : Nat)  (Q : OQ) (u : Nat) (hu : u ≤ 0) : ∀ (n : Nat) (v1 : Int32) (S : PS) (y1 : Int32) (T : PS), fX12_image_28 N  n v1 S = some (y1, T) → WP [] mX12_image 1 0 Q 52 [some (.ref 80), some (.int y1)] [] T u → WP [] mX12_image 1 0 Q 28 [some (.ref 80), some (.int v1)] [] S u := by
  intro n
  induction n with
  | zero => intro v1 S y1 T h; rw [fX12_image_28] at h; cases h
  | succ n ih =>
    intro v1 S y1 T h k0
    rw [fX12_image_28] at h
    refine r_iload_n (x := v1) dX12_image_28 rfl ?_
    refine r_bipush (v := 64) dX12_image_29 rfl ?_
    refine r_icmp_ge (tgt := 52) dX12_image_31 (by decide) (fun c5 => ?_) (fun c5 => ?_)
    · rw [if_pos c5] at h
      cases h
      exact k0
    · rw [if_neg c5] at h
      refine r_aload_n (x := 80) dX12_image_34 rfl ?_
      refine r_getfield (o := 80) (v := .ref 108) dX12_image_35 lX12_105 ck80 nC80 rfl ?_
      refine r_iload_n (x := v1) dX12_image_38 rfl ?_
      refine r_aload_n (x := 80) dX12_image_39 rfl ?_
      refine r_getfield (o := 80) (v := .ref 91) dX12_image_40 lX12_51 ck80 nC80 rfl ?_
      refine r_iload_n (x := v1) dX12_image_43 rfl ?_
      obtain ⟨g6, h⟩ := gd_e h
      refine r_iaload (a := 91) dX12_image_44 ck91 nC91 (inr_IX g6) ?_
      obtain ⟨g7, h⟩ := gd_e h
      refine r_iastore (a := 108) dX12_image_45 ck108 nC108 (inr_IX g7) ?_
      refine r_topS (fun S8 hS8 => ?_)
      replace h := lt_e hS8 h
      obtain ⟨x9, hx9⟩ : ∃ y : Int32, y = (v1 + 1 : Int32) := ⟨_, rfl⟩
      replace h := lt_e hx9 h
      refine r_iinc (x := v1) (v := x9) (L' := [some (.ref 80), some (.int x9)]) dX12_image_46 rfl (by rw [hx9]; rfl) (Nat.le_of_ble_eq_true rfl) rfl rfl ?_
      refine r_goto (tgt := 28) dX12_image_49 (by decide) ?_
      exact ih _ _ _ _ h k0
def fX12_image (N : Nat)  (S : PS) : Option PS :=
  lt ((u2 S.1 80 0 0, S.2) : PS) fun S1 =>
  lt ((u2 S1.1 80 54 1, S1.2) : PS) fun S2 =>
  lt ((u2 S2.1 80 55 (S2.1 80 33), S2.2) : PS) fun S3 =>
  lt ((u2 S3.1 80 56 (S3.1 80 49), S3.2) : PS) fun S4 =>
  bT (fX12_image_28 N  N 0 S4) fun q10 =>
  lt (q10.1 : Int32) fun x11 =>
  lt (q10.2 : PS) fun S12 =>
  bV (fX12_copies N 92 109 S12) fun S16 =>
  bV (fX12_copies N 105 110 S16) fun S19 =>
  some S19
set_option maxHeartbeats 4000000 in
set_option maxRecDepth 100000 in
theorem okX12_image (N : Nat)  (S : PS) (T : PS) (h : fX12_image N  S = some T) : CT mX12_image 1 0 [.ref 80] S (qV T) := by
  refine ct_of [some (.ref 80), none] rfl (fun _ => rfl) (fun _ => Nat.le_of_ble_eq_true rfl) ?_
  unfold fX12_image at h
  refine r_aload_n (x := 80) dX12_image_0 rfl ?_
  refine r_iconst (v := 0) dX12_image_1 rfl ?_
  refine r_putI dX12_image_2 lX12_114 ck80 nC80 ?_
  refine r_topS (fun S1 hS1 => ?_)
  replace h := lt_e hS1 h
  refine r_aload_n (x := 80) dX12_image_5 rfl ?_
  refine r_iconst (v := 1) dX12_image_6 rfl ?_
  refine r_putZ dX12_image_7 lX12_282 ck80 nC80 (by decide) ?_
  refine r_topS (fun S2 hS2 => ?_)
  replace h := lt_e hS2 h
  refine r_aload_n (x := 80) dX12_image_10 rfl ?_
  refine r_aload_n (x := 80) dX12_image_11 rfl ?_
  refine r_getfield (o := 80) (v := .int (S2.1 80 33)) dX12_image_12 lX12_276 ck80 nC80 rfl ?_
  refine r_putI dX12_image_15 lX12_428 ck80 nC80 ?_
  refine r_topS (fun S3 hS3 => ?_)
  replace h := lt_e hS3 h
  refine r_aload_n (x := 80) dX12_image_18 rfl ?_
  refine r_aload_n (x := 80) dX12_image_19 rfl ?_
  refine r_getfield (o := 80) (v := .int (S3.1 80 49)) dX12_image_20 lX12_279 ck80 nC80 rfl ?_
  refine r_putI dX12_image_23 lX12_431 ck80 nC80 ?_
  refine r_topS (fun S4 hS4 => ?_)
  replace h := lt_e hS4 h
  refine r_iconst (v := 0) dX12_image_26 rfl ?_
  refine r_istore_n (L' := [some (.ref 80), some (.int 0)]) dX12_image_27 (Nat.le_of_ble_eq_true rfl) rfl rfl ?_
  obtain ⟨⟨x11, S12⟩, h14, h⟩ := bT_e h
  dsimp only at h
  replace h := pl_s (pl_s (h))
  refine okX12_image_28 N  (qV T) 0 (Nat.zero_le _) _ _ _ _ _ h14 ?_
  refine r_aload_n (x := 80) dX12_image_52 rfl ?_
  refine r_aload_n (x := 80) dX12_image_53 rfl ?_
  refine r_getfield (o := 80) (v := .ref 92) dX12_image_54 lX12_54 ck80 nC80 rfl ?_
  refine r_aload_n (x := 80) dX12_image_57 rfl ?_
  refine r_getfield (o := 80) (v := .ref 109) dX12_image_58 lX12_108 ck80 nC80 rfl ?_
  obtain ⟨S16, h17, h⟩ := bV_e h
  refine r_cVV (y := mX12_copies) (As := [.ref 92, .ref 109]) (rest := []) dX12_image_61 qX12_272 kX12_copies rfl ob80 vc12 rfl (okX12_copies N 92 109 S12 S16 h17) (by decide) (Nat.zero_le _) rfl (Nat.le_of_ble_eq_true rfl) ?_
  refine r_aload_n (x := 80) dX12_image_64 rfl ?_
  refine r_aload_n (x := 80) dX12_image_65 rfl ?_
  refine r_getfield (o := 80) (v := .ref 105) dX12_image_66 lX12_96 ck80 nC80 rfl ?_
  refine r_aload_n (x := 80) dX12_image_69 rfl ?_
  refine r_getfield (o := 80) (v := .ref 110) dX12_image_70 lX12_111 ck80 nC80 rfl ?_
  obtain ⟨S19, h20, h⟩ := bV_e h
  refine r_cVV (y := mX12_copies) (As := [.ref 105, .ref 110]) (rest := []) dX12_image_73 qX12_272 kX12_copies rfl ob80 vc12 rfl (okX12_copies N 105 110 S16 S19 h20) (by decide) (Nat.zero_le _) rfl (Nat.le_of_ble_eq_true rfl) ?_
  cases h
  exact r_return dX12_image_76 rfl (Nat.zero_le _) ⟨rfl, rfl⟩
def fX12_restore_32 (N : Nat)  : Nat → Int32 → PS → Option (Int32 × PS)
  | 0, _, _ => none
  | n + 1, v1, S =>
    (if 64 ≤ v1 then
      some (v1, S)
    else
      gd (inr v1 64) <|
      gd (inr v1 128) <|
      lt ((u2 S.1 91 (ix v1) (S.1 108 (ix v1)), S.2) : PS) fun S8 =>
      lt (v1 + 1 : Int32) fun x9 =>
      fX12_restore_32 N  n x9 S8)
set_option maxHeartbeats 4000000 in
set_option maxRecDepth 100000 in
theorem okX12_restore_32 (N : Nat)  (Q : OQ) (u : Nat) (hu : u ≤ 0) : ∀ (n : Nat) (v1 : Int32) (S : PS) (y1 : Int32) (T : PS), fX12_restore_32 N  n v1 S = some (y1, T) → WP [] mX12_restore 1 0 Q 56 [some (.ref 80), some (.int y1)] [] T u → WP [] mX12_restore 1 0 Q 32 [some (.ref 80), some (.int v1)] [] S u := by
  intro n
  induction n with
  | zero => intro v1 S y1 T h; rw [fX12_restore_32] at h; cases h
  | succ n ih =>
    intro v1 S y1 T h k0
    rw [fX12_restore_32] at h
    refine r_iload_n (x := v1) dX12_restore_32 rfl ?_
    refine r_bipush (v := 64) dX12_restore_33 rfl ?_
    refine r_icmp_ge (tgt := 56) dX12_restore_35 (by decide) (fun c5 => ?_) (fun c5 => ?_)
    · rw [if_pos c5] at h
      cases h
      exact k0
    · rw [if_neg c5] at h
      refine r_aload_n (x := 80) dX12_restore_38 rfl ?_
      refine r_getfield (o := 80) (v := .ref 91) dX12_restore_39 lX12_51 ck80 nC80 rfl ?_
      refine r_iload_n (x := v1) dX12_restore_42 rfl ?_
      refine r_aload_n (x := 80) dX12_restore_43 rfl ?_
      refine r_getfield (o := 80) (v := .ref 108) dX12_restore_44 lX12_105 ck80 nC80 rfl ?_
      refine r_iload_n (x := v1) dX12_restore_47 rfl ?_
      obtain ⟨g6, h⟩ := gd_e h
      refine r_iaload (a := 108) dX12_restore_48 ck108 nC108 (inr_IX g6) ?_
      obtain ⟨g7, h⟩ := gd_e h
      refine r_iastore (a := 91) dX12_restore_49 ck91 nC91 (inr_IX g7) ?_
      refine r_topS (fun S8 hS8 => ?_)
      replace h := lt_e hS8 h
      obtain ⟨x9, hx9⟩ : ∃ y : Int32, y = (v1 + 1 : Int32) := ⟨_, rfl⟩
      replace h := lt_e hx9 h
      refine r_iinc (x := v1) (v := x9) (L' := [some (.ref 80), some (.int x9)]) dX12_restore_50 rfl (by rw [hx9]; rfl) (Nat.le_of_ble_eq_true rfl) rfl rfl ?_
      refine r_goto (tgt := 32) dX12_restore_53 (by decide) ?_
      exact ih _ _ _ _ h k0
def fX12_restore (N : Nat)  (S : PS) : Option (Int32 × PS) :=
  lt ((u2 S.1 80 0 0, S.2) : PS) fun S1 =>
  (if (S1.1 80 54) = 0 then
    some (0, S1)
  else
    lt ((u2 S1.1 80 33 (S1.1 80 55), S1.2) : PS) fun S3 =>
    lt ((u2 S3.1 80 49 (S3.1 80 56), S3.2) : PS) fun S4 =>
    bT (fX12_restore_32 N  N 0 S4) fun q10 =>
    lt (q10.1 : Int32) fun x11 =>
    lt (q10.2 : PS) fun S12 =>
    bV (fX12_copies N 109 92 S12) fun S16 =>
    bV (fX12_copies N 110 105 S16) fun S19 =>
    some (1, S19))
set_option maxHeartbeats 4000000 in
set_option maxRecDepth 100000 in
theorem okX12_restore (N : Nat)  (S : PS) (r : Int32) (T : PS) (h : fX12_restore N  S = some (r, T)) : CT mX12_restore 1 0 [.ref 80] S (qI r T) := by
  refine ct_of [some (.ref 80), none] rfl (fun _ => rfl) (fun _ => Nat.le_of_ble_eq_true rfl) ?_
  unfold fX12_restore at h
  refine r_aload_n (x := 80) dX12_restore_0 rfl ?_
  refine r_iconst (v := 0) dX12_restore_1 rfl ?_
  refine r_putI dX12_restore_2 lX12_114 ck80 nC80 ?_
  refine r_topS (fun S1 hS1 => ?_)
  replace h := lt_e hS1 h
  refine r_aload_n (x := 80) dX12_restore_5 rfl ?_
  refine r_getfield (o := 80) (v := .int (S1.1 80 54)) dX12_restore_6 lX12_282 ck80 nC80 rfl ?_
  refine r_if_ne (tgt := 14) dX12_restore_9 (by decide) (fun c2 => ?_) (fun c2 => ?_)
  · rw [if_neg c2] at h
    refine r_aload_n (x := 80) dX12_restore_14 rfl ?_
    refine r_aload_n (x := 80) dX12_restore_15 rfl ?_
    refine r_getfield (o := 80) (v := .int (S1.1 80 55)) dX12_restore_16 lX12_428 ck80 nC80 rfl ?_
    refine r_putI dX12_restore_19 lX12_276 ck80 nC80 ?_
    refine r_topS (fun S3 hS3 => ?_)
    replace h := lt_e hS3 h
    refine r_aload_n (x := 80) dX12_restore_22 rfl ?_
    refine r_aload_n (x := 80) dX12_restore_23 rfl ?_
    refine r_getfield (o := 80) (v := .int (S3.1 80 56)) dX12_restore_24 lX12_431 ck80 nC80 rfl ?_
    refine r_putI dX12_restore_27 lX12_279 ck80 nC80 ?_
    refine r_topS (fun S4 hS4 => ?_)
    replace h := lt_e hS4 h
    refine r_iconst (v := 0) dX12_restore_30 rfl ?_
    refine r_istore_n (L' := [some (.ref 80), some (.int 0)]) dX12_restore_31 (Nat.le_of_ble_eq_true rfl) rfl rfl ?_
    obtain ⟨⟨x11, S12⟩, h14, h⟩ := bT_e h
    dsimp only at h
    replace h := pl_s (pl_s (h))
    refine okX12_restore_32 N  (qI r T) 0 (Nat.zero_le _) _ _ _ _ _ h14 ?_
    refine r_aload_n (x := 80) dX12_restore_56 rfl ?_
    refine r_aload_n (x := 80) dX12_restore_57 rfl ?_
    refine r_getfield (o := 80) (v := .ref 109) dX12_restore_58 lX12_108 ck80 nC80 rfl ?_
    refine r_aload_n (x := 80) dX12_restore_61 rfl ?_
    refine r_getfield (o := 80) (v := .ref 92) dX12_restore_62 lX12_54 ck80 nC80 rfl ?_
    obtain ⟨S16, h17, h⟩ := bV_e h
    refine r_cVV (y := mX12_copies) (As := [.ref 109, .ref 92]) (rest := []) dX12_restore_65 qX12_272 kX12_copies rfl ob80 vc12 rfl (okX12_copies N 109 92 S12 S16 h17) (by decide) (Nat.zero_le _) rfl (Nat.le_of_ble_eq_true rfl) ?_
    refine r_aload_n (x := 80) dX12_restore_68 rfl ?_
    refine r_aload_n (x := 80) dX12_restore_69 rfl ?_
    refine r_getfield (o := 80) (v := .ref 110) dX12_restore_70 lX12_111 ck80 nC80 rfl ?_
    refine r_aload_n (x := 80) dX12_restore_73 rfl ?_
    refine r_getfield (o := 80) (v := .ref 105) dX12_restore_74 lX12_96 ck80 nC80 rfl ?_
    obtain ⟨S19, h20, h⟩ := bV_e h
    refine r_cVV (y := mX12_copies) (As := [.ref 110, .ref 105]) (rest := []) dX12_restore_77 qX12_272 kX12_copies rfl ob80 vc12 rfl (okX12_copies N 110 105 S16 S19 h20) (by decide) (Nat.zero_le _) rfl (Nat.le_of_ble_eq_true rfl) ?_
    refine r_iconst (v := 1) dX12_restore_80 rfl ?_
    cases h
    exact r_zreturn dX12_restore_81 rfl rfl (Nat.zero_le _) ⟨rfl, rfl⟩
  · rw [if_pos c2] at h
    refine r_iconst (v := 0) dX12_restore_12 rfl ?_
    cases h
    exact r_zreturn dX12_restore_13 rfl rfl (Nat.zero_le _) ⟨rfl, rfl⟩
def fX12_feed (N : Nat) (p0 : Int32) (p1 : Int32) (p2 : Int32) (p3 : Int32) (p4 : Int32) (S : PS) : Option (Int32 × PS) :=
  lt ((u2 S.1 80 0 0, S.2) : PS) fun S1 =>
  (if ((S1.1 80 7) + 20) ≤ 700 then
    bV (fX12_lays N p0 S1) fun S4 =>
    bV (fX12_lays N p1 S4) fun S7 =>
    bV (fX12_lays N p2 S7) fun S10 =>
    bV (fX12_lays N p3 S10) fun S13 =>
    bV (fX12_lays N p4 S13) fun S16 =>
    some ((S16.1 80 7), S16)
  else
    some ((-1), S1))
set_option maxHeartbeats 4000000 in
set_option maxRecDepth 100000 in
theorem okX12_feed (N : Nat) (p0 : Int32) (p1 : Int32) (p2 : Int32) (p3 : Int32) (p4 : Int32) (S : PS) (r : Int32) (T : PS) (h : fX12_feed N p0 p1 p2 p3 p4 S = some (r, T)) : CT mX12_feed 1 0 [.ref 80, .int p0, .int p1, .int p2, .int p3, .int p4] S (qI r T) := by
  refine ct_of [some (.ref 80), some (.int p0), some (.int p1), some (.int p2), some (.int p3), some (.int p4)] rfl (fun _ => rfl) (fun _ => Nat.le_of_ble_eq_true rfl) ?_
  unfold fX12_feed at h
  refine r_aload_n (x := 80) dX12_feed_0 rfl ?_
  refine r_iconst (v := 0) dX12_feed_1 rfl ?_
  refine r_putI dX12_feed_2 lX12_114 ck80 nC80 ?_
  refine r_topS (fun S1 hS1 => ?_)
  replace h := lt_e hS1 h
  refine r_aload_n (x := 80) dX12_feed_5 rfl ?_
  refine r_getfield (o := 80) (v := .int (S1.1 80 7)) dX12_feed_6 lX12_117 ck80 nC80 rfl ?_
  refine r_bipush (v := 20) dX12_feed_9 rfl ?_
  refine r_iadd dX12_feed_11 ?_
  refine r_sipush (v := 700) dX12_feed_12 rfl ?_
  refine r_icmp_le (tgt := 20) dX12_feed_15 (by decide) (fun c2 => ?_) (fun c2 => ?_)
  · rw [if_pos c2] at h
    refine r_aload_n (x := 80) dX12_feed_20 rfl ?_
    refine r_iload_n (x := p0) dX12_feed_21 rfl ?_
    obtain ⟨S4, h5, h⟩ := bV_e h
    refine r_cVV (y := mX12_lays) (As := [.int p0]) (rest := []) dX12_feed_22 qX12_120 kX12_lays rfl ob80 vc12 rfl (okX12_lays N p0 S1 S4 h5) (by decide) (Nat.zero_le _) rfl (Nat.le_of_ble_eq_true rfl) ?_
    refine r_aload_n (x := 80) dX12_feed_25 rfl ?_
    refine r_iload_n (x := p1) dX12_feed_26 rfl ?_
    obtain ⟨S7, h8, h⟩ := bV_e h
    refine r_cVV (y := mX12_lays) (As := [.int p1]) (rest := []) dX12_feed_27 qX12_120 kX12_lays rfl ob80 vc12 rfl (okX12_lays N p1 S4 S7 h8) (by decide) (Nat.zero_le _) rfl (Nat.le_of_ble_eq_true rfl) ?_
    refine r_aload_n (x := 80) dX12_feed_30 rfl ?_
    refine r_iload_n (x := p2) dX12_feed_31 rfl ?_
    obtain ⟨S10, h11, h⟩ := bV_e h
    refine r_cVV (y := mX12_lays) (As := [.int p2]) (rest := []) dX12_feed_32 qX12_120 kX12_lays rfl ob80 vc12 rfl (okX12_lays N p2 S7 S10 h11) (by decide) (Nat.zero_le _) rfl (Nat.le_of_ble_eq_true rfl) ?_
    refine r_aload_n (x := 80) dX12_feed_35 rfl ?_
    refine r_iload (x := p3) dX12_feed_36 rfl ?_
    obtain ⟨S13, h14, h⟩ := bV_e h
    refine r_cVV (y := mX12_lays) (As := [.int p3]) (rest := []) dX12_feed_38 qX12_120 kX12_lays rfl ob80 vc12 rfl (okX12_lays N p3 S10 S13 h14) (by decide) (Nat.zero_le _) rfl (Nat.le_of_ble_eq_true rfl) ?_
    refine r_aload_n (x := 80) dX12_feed_41 rfl ?_
    refine r_iload (x := p4) dX12_feed_42 rfl ?_
    obtain ⟨S16, h17, h⟩ := bV_e h
    refine r_cVV (y := mX12_lays) (As := [.int p4]) (rest := []) dX12_feed_44 qX12_120 kX12_lays rfl ob80 vc12 rfl (okX12_lays N p4 S13 S16 h17) (by decide) (Nat.zero_le _) rfl (Nat.le_of_ble_eq_true rfl) ?_
    refine r_aload_n (x := 80) dX12_feed_47 rfl ?_
    refine r_getfield (o := 80) (v := .int (S16.1 80 7)) dX12_feed_48 lX12_117 ck80 nC80 rfl ?_
    cases h
    exact r_ireturn dX12_feed_51 rfl (Nat.zero_le _) ⟨rfl, rfl⟩
  · rw [if_neg c2] at h
    refine r_iconst (v := (-1)) dX12_feed_18 rfl ?_
    cases h
    exact r_ireturn dX12_feed_19 rfl (Nat.zero_le _) ⟨rfl, rfl⟩
def fX12_roots_4 (N : Nat)  : Nat → Int32 → Int32 → PS → Option (Int32 × Int32 × PS)
  | 0, _, _, _ => none
  | n + 1, v1, v2, S =>
    (if (S.1 80 1) ≤ v2 then
      some (v1, v2, S)
    else
      bI (fX12_giversOf N v2 S) fun x2 S3 =>
      lt ((if x2 = 0 then (1 <<< (v2 &&& 31)) else 0) : Int32) fun x6 =>
      lt ((v1 ||| x6) : Int32) fun x7 =>
      lt (v2 + 1 : Int32) fun x8 =>
      fX12_roots_4 N  n x7 x8 S3)
set_option maxHeartbeats 4000000 in
set_option maxRecDepth 100000 in
theorem okX12_roots_4 (N : Nat)  (Q : OQ) (u : Nat) (hu : u ≤ 0) : ∀ (n : Nat) (v1 : Int32) (v2 : Int32) (S : PS) (y1 : Int32) (y2 : Int32) (T : PS), fX12_roots_4 N  n v1 v2 S = some (y1, y2, T) → WP [] mX12_roots 2 0 Q 36 [some (.ref 80), some (.int y1), some (.int y2)] [] T u → WP [] mX12_roots 2 0 Q 4 [some (.ref 80), some (.int v1), some (.int v2)] [] S u := by
  intro n
  induction n with
  | zero => intro v1 v2 S y1 y2 T h; rw [fX12_roots_4] at h; cases h
  | succ n ih =>
    intro v1 v2 S y1 y2 T h k0
    rw [fX12_roots_4] at h
    refine r_iload_n (x := v2) dX12_roots_4 rfl ?_
    refine r_aload_n (x := 80) dX12_roots_5 rfl ?_
    refine r_getfield (o := 80) (v := .int (S.1 80 1)) dX12_roots_6 lX12_269 ck80 nC80 rfl ?_
    refine r_icmp_ge (tgt := 36) dX12_roots_9 (by decide) (fun c1 => ?_) (fun c1 => ?_)
    · rw [if_pos c1] at h
      cases h
      exact k0
    · rw [if_neg c1] at h
      refine r_iload_n (x := v1) dX12_roots_12 rfl ?_
      refine r_aload_n (x := 80) dX12_roots_13 rfl ?_
      refine r_iload_n (x := v2) dX12_roots_14 rfl ?_
      obtain ⟨x2, S3, h4, h⟩ := bI_e h
      refine r_cVI (y := mX12_giversOf) (As := [.int v2]) (rest := [.int v1]) dX12_roots_15 qX12_326 kX12_giversOf rfl ob80 vc12 rfl (okX12_giversOf N v2 S x2 S3 h4) (by decide) hu rfl (Nat.le_of_ble_eq_true rfl) ?_
      obtain ⟨x6, hx6⟩ : ∃ y : Int32, y = ((if x2 = 0 then (1 <<< (v2 &&& 31)) else 0) : Int32) := ⟨_, rfl⟩
      replace h := lt_e hx6 h
      have keyx6 : WP [] mX12_roots 2 0 Q 28 [some (.ref 80), some (.int v1), some (.int v2)] (.int x6 :: [.int v1]) S3 u := by
        refine r_ior dX12_roots_28 ?_
        refine r_topi (fun x7 hx7 => ?_)
        replace h := lt_e hx7 h
        refine r_istore_n (L' := [some (.ref 80), some (.int x7), some (.int v2)]) dX12_roots_29 (Nat.le_of_ble_eq_true rfl) rfl rfl ?_
        obtain ⟨x8, hx8⟩ : ∃ y : Int32, y = (v2 + 1 : Int32) := ⟨_, rfl⟩
        replace h := lt_e hx8 h
        refine r_iinc (x := v2) (v := x8) (L' := [some (.ref 80), some (.int x7), some (.int x8)]) dX12_roots_30 rfl (by rw [hx8]; rfl) (Nat.le_of_ble_eq_true rfl) rfl rfl ?_
        refine r_goto (tgt := 4) dX12_roots_33 (by decide) ?_
        exact ih _ _ _ _ _ _ h k0
      refine r_if_ne (tgt := 27) dX12_roots_18 (by decide) (fun c5 => ?_) (fun c5 => ?_)
      · refine r_iconst (v := 0) dX12_roots_27 rfl ?_
        exact r_tope (by rw [hx6, if_neg c5]) keyx6
      · refine r_iconst (v := 1) dX12_roots_21 rfl ?_
        refine r_iload_n (x := v2) dX12_roots_22 rfl ?_
        refine r_ishl dX12_roots_23 ?_
        refine r_goto (tgt := 28) dX12_roots_24 (by decide) ?_
        exact r_tope (by rw [hx6, if_pos c5]) keyx6
def fX12_roots (N : Nat)  (S : PS) : Option (Int32 × PS) :=
  bT (fX12_roots_4 N  N 0 0 S) fun q9 =>
  lt (q9.1 : Int32) fun x10 =>
  lt (q9.2.1 : Int32) fun x11 =>
  lt (q9.2.2 : PS) fun S12 =>
  some (x10, S12)
set_option maxHeartbeats 4000000 in
set_option maxRecDepth 100000 in
theorem okX12_roots (N : Nat)  (S : PS) (r : Int32) (T : PS) (h : fX12_roots N  S = some (r, T)) : CT mX12_roots 2 0 [.ref 80] S (qI r T) := by
  refine ct_of [some (.ref 80), none, none] rfl (fun _ => rfl) (fun _ => Nat.le_of_ble_eq_true rfl) ?_
  unfold fX12_roots at h
  refine r_iconst (v := 0) dX12_roots_0 rfl ?_
  refine r_istore_n (L' := [some (.ref 80), some (.int 0), none]) dX12_roots_1 (Nat.le_of_ble_eq_true rfl) rfl rfl ?_
  refine r_iconst (v := 0) dX12_roots_2 rfl ?_
  refine r_istore_n (L' := [some (.ref 80), some (.int 0), some (.int 0)]) dX12_roots_3 (Nat.le_of_ble_eq_true rfl) rfl rfl ?_
  obtain ⟨⟨x10, x11, S12⟩, h14, h⟩ := bT_e h
  dsimp only at h
  replace h := pl_s (pl_s (pl_s (h)))
  refine okX12_roots_4 N  (qI r T) 0 (Nat.zero_le _) _ _ _ _ _ _ _ h14 ?_
  refine r_iload_n (x := x10) dX12_roots_36 rfl ?_
  cases h
  exact r_ireturn dX12_roots_37 rfl (Nat.zero_le _) ⟨rfl, rfl⟩
def fX12_count (N : Nat) (p0 : Int32) (S : PS) : Option (Int32 × PS) :=
  lt ((u2 S.1 80 0 0, S.2) : PS) fun S1 =>
  bI (fX12_within N p0 0 12 S1) fun x2 S3 =>
  bI (fX12_right N x2 1 S3) fun x5 S6 =>
  (if x5 = 0 then
    some (0, S6)
  else
    (if p0 = 0 then
      some ((S6.1 80 1), S6)
    else if p0 = 1 then
      some ((S6.1 91 0), S6)
    else if p0 = 2 then
      bI (fX12_plugged N  S6) fun x12 S13 =>
      some (x12, S13)
    else if p0 = 3 then
      bI (fX12_sumOf N 0 10 S6) fun x16 S17 =>
      some (x16, S17)
    else if p0 = 4 then
      bI (fX12_sumOf N 0 46 S6) fun x20 S21 =>
      some (x20, S21)
    else if p0 = 5 then
      bI (fX12_roots N  S6) fun x24 S25 =>
      some (x24, S25)
    else if p0 = 6 then
      bI (fX12_alike N  S6) fun x28 S29 =>
      some (x28, S29)
    else if p0 = 7 then
      some ((S6.1 80 33), S6)
    else if p0 = 8 then
      some ((S6.1 80 49), S6)
    else if p0 = 9 then
      some ((S6.1 80 7), S6)
    else 
      gd (inr (p0 - 10) 3) <|
      some ((S6.1 84 (ix (p0 - 10))), S6)))
set_option maxHeartbeats 4000000 in
set_option maxRecDepth 100000 in
theorem okX12_count (N : Nat) (p0 : Int32) (S : PS) (r : Int32) (T : PS) (h : fX12_count N p0 S = some (r, T)) : CT mX12_count 3 0 [.ref 80, .int p0] S (qI r T) := by
  refine ct_of [some (.ref 80), some (.int p0)] rfl (fun _ => rfl) (fun _ => Nat.le_of_ble_eq_true rfl) ?_
  unfold fX12_count at h
  refine r_aload_n (x := 80) dX12_count_0 rfl ?_
  refine r_iconst (v := 0) dX12_count_1 rfl ?_
  refine r_putI dX12_count_2 lX12_114 ck80 nC80 ?_
  refine r_topS (fun S1 hS1 => ?_)
  replace h := lt_e hS1 h
  refine r_aload_n (x := 80) dX12_count_5 rfl ?_
  refine r_iload_n (x := p0) dX12_count_6 rfl ?_
  refine r_iconst (v := 0) dX12_count_7 rfl ?_
  refine r_bipush (v := 12) dX12_count_8 rfl ?_
  obtain ⟨x2, S3, h4, h⟩ := bI_e h
  refine r_cSI (y := mX12_within) (As := [.int p0, .int 0, .int 12]) (rest := [.ref 80]) dX12_count_10 qX12_332 kX12_within rfl (okX12_within N p0 0 12 S1 x2 S3 h4) (by decide) (Nat.zero_le _) rfl (Nat.le_of_ble_eq_true rfl) ?_
  refine r_iconst (v := 1) dX12_count_13 rfl ?_
  obtain ⟨x5, S6, h7, h⟩ := bI_e h
  refine r_cVI (y := mX12_right) (As := [.int x2, .int 1]) (rest := []) dX12_count_14 qX12_262 kX12_right rfl ob80 vc12 rfl (okX12_right N x2 1 S3 x5 S6 h7) (by decide) (Nat.zero_le _) rfl (Nat.le_of_ble_eq_true rfl) ?_
  refine r_if_ne (tgt := 22) dX12_count_17 (by decide) (fun c8 => ?_) (fun c8 => ?_)
  · rw [if_neg c8] at h
    refine r_iload_n (x := p0) dX12_count_22 rfl ?_
    by_cases c9 : p0 = 0
    · rw [if_pos c9] at h
      refine r_tableIn (tgt := 76) dX12_count_23 (by rw [c9]; decide) (by rw [c9]; decide) (by rw [c9]; rfl) (by decide) ?_
      refine r_aload_n (x := 80) dX12_count_76 rfl ?_
      refine r_getfield (o := 80) (v := .int (S6.1 80 1)) dX12_count_77 lX12_269 ck80 nC80 rfl ?_
      cases h
      exact r_ireturn dX12_count_80 rfl (Nat.zero_le _) ⟨rfl, rfl⟩
    rw [if_neg c9] at h
    by_cases c10 : p0 = 1
    · rw [if_pos c10] at h
      refine r_tableIn (tgt := 81) dX12_count_23 (by rw [c10]; decide) (by rw [c10]; decide) (by rw [c10]; rfl) (by decide) ?_
      refine r_aload_n (x := 80) dX12_count_81 rfl ?_
      refine r_getfield (o := 80) (v := .ref 91) dX12_count_82 lX12_51 ck80 nC80 rfl ?_
      refine r_iconst (v := 0) dX12_count_85 rfl ?_
      refine r_iaload (a := 91) (k9 := 0) dX12_count_86 ck91 nC91 ⟨by decide, by decide⟩ ?_
      cases h
      exact r_ireturn dX12_count_87 rfl (Nat.zero_le _) ⟨rfl, rfl⟩
    rw [if_neg c10] at h
    by_cases c11 : p0 = 2
    · rw [if_pos c11] at h
      refine r_tableIn (tgt := 88) dX12_count_23 (by rw [c11]; decide) (by rw [c11]; decide) (by rw [c11]; rfl) (by decide) ?_
      refine r_aload_n (x := 80) dX12_count_88 rfl ?_
      obtain ⟨x12, S13, h14, h⟩ := bI_e h
      refine r_cVI (y := mX12_plugged) (As := []) (rest := []) dX12_count_89 qX12_336 kX12_plugged rfl ob80 vc12 rfl (okX12_plugged N  S6 x12 S13 h14) (by decide) (Nat.zero_le _) rfl (Nat.le_of_ble_eq_true rfl) ?_
      cases h
      exact r_ireturn dX12_count_92 rfl (Nat.zero_le _) ⟨rfl, rfl⟩
    rw [if_neg c11] at h
    by_cases c15 : p0 = 3
    · rw [if_pos c15] at h
      refine r_tableIn (tgt := 93) dX12_count_23 (by rw [c15]; decide) (by rw [c15]; decide) (by rw [c15]; rfl) (by decide) ?_
      refine r_aload_n (x := 80) dX12_count_93 rfl ?_
      refine r_iconst (v := 0) dX12_count_94 rfl ?_
      refine r_bipush (v := 10) dX12_count_95 rfl ?_
      obtain ⟨x16, S17, h18, h⟩ := bI_e h
      refine r_cVI (y := mX12_sumOf) (As := [.int 0, .int 10]) (rest := []) dX12_count_97 qX12_339 kX12_sumOf rfl ob80 vc12 rfl (okX12_sumOf N 0 10 S6 x16 S17 h18) (by decide) (Nat.zero_le _) rfl (Nat.le_of_ble_eq_true rfl) ?_
      cases h
      exact r_ireturn dX12_count_100 rfl (Nat.zero_le _) ⟨rfl, rfl⟩
    rw [if_neg c15] at h
    by_cases c19 : p0 = 4
    · rw [if_pos c19] at h
      refine r_tableIn (tgt := 101) dX12_count_23 (by rw [c19]; decide) (by rw [c19]; decide) (by rw [c19]; rfl) (by decide) ?_
      refine r_aload_n (x := 80) dX12_count_101 rfl ?_
      refine r_iconst (v := 0) dX12_count_102 rfl ?_
      refine r_bipush (v := 46) dX12_count_103 rfl ?_
      obtain ⟨x20, S21, h22, h⟩ := bI_e h
      refine r_cVI (y := mX12_sumOf) (As := [.int 0, .int 46]) (rest := []) dX12_count_105 qX12_339 kX12_sumOf rfl ob80 vc12 rfl (okX12_sumOf N 0 46 S6 x20 S21 h22) (by decide) (Nat.zero_le _) rfl (Nat.le_of_ble_eq_true rfl) ?_
      cases h
      exact r_ireturn dX12_count_108 rfl (Nat.zero_le _) ⟨rfl, rfl⟩
    rw [if_neg c19] at h
    by_cases c23 : p0 = 5
    · rw [if_pos c23] at h
      refine r_tableIn (tgt := 109) dX12_count_23 (by rw [c23]; decide) (by rw [c23]; decide) (by rw [c23]; rfl) (by decide) ?_
      refine r_aload_n (x := 80) dX12_count_109 rfl ?_
      obtain ⟨x24, S25, h26, h⟩ := bI_e h
      refine r_cVI (y := mX12_roots) (As := []) (rest := []) dX12_count_110 qX12_342 kX12_roots rfl ob80 vc12 rfl (okX12_roots N  S6 x24 S25 h26) (by decide) (Nat.zero_le _) rfl (Nat.le_of_ble_eq_true rfl) ?_
      cases h
      exact r_ireturn dX12_count_113 rfl (Nat.zero_le _) ⟨rfl, rfl⟩
    rw [if_neg c23] at h
    by_cases c27 : p0 = 6
    · rw [if_pos c27] at h
      refine r_tableIn (tgt := 114) dX12_count_23 (by rw [c27]; decide) (by rw [c27]; decide) (by rw [c27]; rfl) (by decide) ?_
      refine r_aload_n (x := 80) dX12_count_114 rfl ?_
      obtain ⟨x28, S29, h30, h⟩ := bI_e h
      refine r_cVI (y := mX12_alike) (As := []) (rest := []) dX12_count_115 qX12_345 kX12_alike rfl ob80 vc12 rfl (okX12_alike N  S6 x28 S29 h30) (by decide) (Nat.zero_le _) rfl (Nat.le_of_ble_eq_true rfl) ?_
      cases h
      exact r_ireturn dX12_count_118 rfl (Nat.zero_le _) ⟨rfl, rfl⟩
    rw [if_neg c27] at h
    by_cases c31 : p0 = 7
    · rw [if_pos c31] at h
      refine r_tableIn (tgt := 119) dX12_count_23 (by rw [c31]; decide) (by rw [c31]; decide) (by rw [c31]; rfl) (by decide) ?_
      refine r_aload_n (x := 80) dX12_count_119 rfl ?_
      refine r_getfield (o := 80) (v := .int (S6.1 80 33)) dX12_count_120 lX12_276 ck80 nC80 rfl ?_
      cases h
      exact r_ireturn dX12_count_123 rfl (Nat.zero_le _) ⟨rfl, rfl⟩
    rw [if_neg c31] at h
    by_cases c32 : p0 = 8
    · rw [if_pos c32] at h
      refine r_tableIn (tgt := 124) dX12_count_23 (by rw [c32]; decide) (by rw [c32]; decide) (by rw [c32]; rfl) (by decide) ?_
      refine r_aload_n (x := 80) dX12_count_124 rfl ?_
      refine r_getfield (o := 80) (v := .int (S6.1 80 49)) dX12_count_125 lX12_279 ck80 nC80 rfl ?_
      cases h
      exact r_ireturn dX12_count_128 rfl (Nat.zero_le _) ⟨rfl, rfl⟩
    rw [if_neg c32] at h
    by_cases c33 : p0 = 9
    · rw [if_pos c33] at h
      refine r_tableIn (tgt := 129) dX12_count_23 (by rw [c33]; decide) (by rw [c33]; decide) (by rw [c33]; rfl) (by decide) ?_
      refine r_aload_n (x := 80) dX12_count_129 rfl ?_
      refine r_getfield (o := 80) (v := .int (S6.1 80 7)) dX12_count_130 lX12_117 ck80 nC80 rfl ?_
      cases h
      exact r_ireturn dX12_count_133 rfl (Nat.zero_le _) ⟨rfl, rfl⟩
    rw [if_neg c33] at h
    refine r_tableOut (tgt := 134) dX12_count_23 (by have nc9 := lv_neT c9 (a := 0) rfl; have nc10 := lv_neT c10 (a := 1) rfl; have nc11 := lv_neT c11 (a := 2) rfl; have nc15 := lv_neT c15 (a := 3) rfl; have nc19 := lv_neT c19 (a := 4) rfl; have nc23 := lv_neT c23 (a := 5) rfl; have nc27 := lv_neT c27 (a := 6) rfl; have nc31 := lv_neT c31 (a := 7) rfl; have nc32 := lv_neT c32 (a := 8) rfl; have nc33 := lv_neT c33 (a := 9) rfl; omega) (by decide) ?_
    refine r_aload_n (x := 80) dX12_count_134 rfl ?_
    refine r_getfield (o := 80) (v := .ref 84) dX12_count_135 lX12_29 ck80 nC80 rfl ?_
    refine r_iload_n (x := p0) dX12_count_138 rfl ?_
    refine r_bipush (v := 10) dX12_count_139 rfl ?_
    refine r_isub dX12_count_141 ?_
    obtain ⟨g34, h⟩ := gd_e h
    refine r_iaload (a := 84) dX12_count_142 ck84 nC84 (inr_IX g34) ?_
    cases h
    exact r_ireturn dX12_count_143 rfl (Nat.zero_le _) ⟨rfl, rfl⟩
  · rw [if_pos c8] at h
    refine r_iconst (v := 0) dX12_count_20 rfl ?_
    cases h
    exact r_ireturn dX12_count_21 rfl (Nat.zero_le _) ⟨rfl, rfl⟩
def fX12_flows_43 (N : Nat) (v1 : Int32) (v2 : Int32) : Nat → Int32 → PS → Option (Int32 × PS)
  | 0, _, _ => none
  | n + 1, v3, S =>
    (if v2 ≤ v3 then
      some (v3, S)
    else
      gd (inr v2 9) <|
      bI (fX12_gives N v3 v2 S) fun x9 S10 =>
      gd (inr v2 9) <|
      lt ((u2 S10.1 99 (ix v2) ((S.1 99 (ix v2)) + x9), S10.2) : PS) fun S13 =>
      lt (v3 + 1 : Int32) fun x14 =>
      fX12_flows_43 N v1 v2 n x14 S13)
set_option maxHeartbeats 4000000 in
set_option maxRecDepth 100000 in
theorem okX12_flows_43 (N : Nat) (v1 : Int32) (v2 : Int32) (Q : OQ) (u : Nat) (hu : u ≤ 0) : ∀ (n : Nat) (v3 : Int32) (S : PS) (y3 : Int32) (T : PS), fX12_flows_43 N v1 v2 n v3 S = some (y3, T) → WP [] mX12_flows 1 0 Q 69 [some (.ref 80), some (.int v1), some (.int v2), some (.int y3)] [] T u → WP [] mX12_flows 1 0 Q 43 [some (.ref 80), some (.int v1), some (.int v2), some (.int v3)] [] S u := by
  intro n
  induction n with
  | zero => intro v3 S y3 T h; rw [fX12_flows_43] at h; cases h
  | succ n ih =>
    intro v3 S y3 T h k0
    rw [fX12_flows_43] at h
    refine r_iload_n (x := v3) dX12_flows_43 rfl ?_
    refine r_iload_n (x := v2) dX12_flows_44 rfl ?_
    refine r_icmp_ge (tgt := 69) dX12_flows_45 (by decide) (fun c7 => ?_) (fun c7 => ?_)
    · rw [if_pos c7] at h
      cases h
      exact k0
    · rw [if_neg c7] at h
      refine r_aload_n (x := 80) dX12_flows_48 rfl ?_
      refine r_getfield (o := 80) (v := .ref 99) dX12_flows_49 lX12_78 ck80 nC80 rfl ?_
      refine r_iload_n (x := v2) dX12_flows_52 rfl ?_
      refine r_dup2 dX12_flows_53 ?_
      obtain ⟨g8, h⟩ := gd_e h
      refine r_iaload (a := 99) dX12_flows_54 ck99 nC99 (inr_IX g8) ?_
      refine r_aload_n (x := 80) dX12_flows_55 rfl ?_
      refine r_iload_n (x := v3) dX12_flows_56 rfl ?_
      refine r_iload_n (x := v2) dX12_flows_57 rfl ?_
      obtain ⟨x9, S10, h11, h⟩ := bI_e h
      refine r_cVI (y := mX12_gives) (As := [.int v3, .int v2]) (rest := [.int (S.1 99 (ix v2)), .int v2, .ref 99]) dX12_flows_58 qX12_396 kX12_gives rfl ob80 vc12 rfl (okX12_gives N v3 v2 S x9 S10 h11) (by decide) hu rfl (Nat.le_of_ble_eq_true rfl) ?_
      refine r_iadd dX12_flows_61 ?_
      obtain ⟨g12, h⟩ := gd_e h
      refine r_iastore (a := 99) dX12_flows_62 ck99 nC99 (inr_IX g12) ?_
      refine r_topS (fun S13 hS13 => ?_)
      replace h := lt_e hS13 h
      obtain ⟨x14, hx14⟩ : ∃ y : Int32, y = (v3 + 1 : Int32) := ⟨_, rfl⟩
      replace h := lt_e hx14 h
      refine r_iinc (x := v3) (v := x14) (L' := [some (.ref 80), some (.int v1), some (.int v2), some (.int x14)]) dX12_flows_63 rfl (by rw [hx14]; rfl) (Nat.le_of_ble_eq_true rfl) rfl rfl ?_
      refine r_goto (tgt := 43) dX12_flows_66 (by decide) ?_
      exact ih _ _ _ _ h k0
def fX12_flows_2 (N : Nat) (v1 : Int32) : Nat → Int32 → PS → Option (Int32 × PS)
  | 0, _, _ => none
  | n + 1, v2, S =>
    (if (S.1 80 1) ≤ v2 then
      some (v2, S)
    else
      gd (inr (55 + v2) 128) <|
      (if (S.1 91 (ix (55 + v2))) = 1 then
        gd (inr v2 9) <|
        lt ((u2 S.1 99 (ix v2) 0, S.2) : PS) fun S55 =>
        bT (fX12_flows_43 N v1 v2 N 0 S55) fun q56 =>
        lt (q56.1 : Int32) fun x57 =>
        lt (q56.2 : PS) fun S58 =>
        gd (inr (10 + v2) 128) <|
        gd (inr v2 9) <|
        gd (inr (1 + v2) 128) <|
        gd (¬ (S58.1 91 (ix (1 + v2))) = 0) <|
        gd (inr v2 9) <|
        lt ((u2 S58.1 100 (ix v2) (((S58.1 91 (ix (10 + v2))) + (S58.1 99 (ix v2))) / (S58.1 91 (ix (1 + v2)))), S58.2) : PS) fun S66 =>
        gd (inr (28 + v2) 128) <|
        (if (S66.1 91 (ix (28 + v2))) = (-1) then
          gd (inr v2 9) <|
          gd (inr v2 9) <|
          lt ((u2 S66.1 101 (ix v2) (S66.1 100 (ix v2)), S66.2) : PS) fun S89 =>
          gd (inr v2 9) <|
          gd (inr v2 9) <|
          gd (inr v2 9) <|
          lt ((u2 S89.1 102 (ix v2) ((S89.1 100 (ix v2)) - (S89.1 101 (ix v2))), S89.2) : PS) fun S93 =>
          lt (v2 + 1 : Int32) fun x94 =>
          fX12_flows_2 N v1 n x94 S93
        else
          gd (inr (37 + v2) 128) <|
          (if (S66.1 91 (ix (37 + v2))) = 0 then
            gd (inr v2 9) <|
            gd (inr v2 9) <|
            lt ((u2 S66.1 101 (ix v2) (((S66.1 100 (ix v2)) + 1) / 2), S66.2) : PS) fun S81 =>
            gd (inr v2 9) <|
            gd (inr v2 9) <|
            gd (inr v2 9) <|
            lt ((u2 S81.1 102 (ix v2) ((S81.1 100 (ix v2)) - (S81.1 101 (ix v2))), S81.2) : PS) fun S85 =>
            lt (v2 + 1 : Int32) fun x86 =>
            fX12_flows_2 N v1 n x86 S85
          else
            gd (inr v2 9) <|
            gd (inr v2 9) <|
            lt ((u2 S66.1 101 (ix v2) ((S66.1 100 (ix v2)) / 2), S66.2) : PS) fun S73 =>
            gd (inr v2 9) <|
            gd (inr v2 9) <|
            gd (inr v2 9) <|
            lt ((u2 S73.1 102 (ix v2) ((S73.1 100 (ix v2)) - (S73.1 101 (ix v2))), S73.2) : PS) fun S77 =>
            lt (v2 + 1 : Int32) fun x78 =>
            fX12_flows_2 N v1 n x78 S77))
      else
        gd (inr v2 9) <|
        gd (inr v2 9) <|
        lt ((u2 S.1 99 (ix v2) ((S.1 81 (ix v2)) * v1), S.2) : PS) fun S6 =>
        bT (fX12_flows_43 N v1 v2 N 0 S6) fun q15 =>
        lt (q15.1 : Int32) fun x16 =>
        lt (q15.2 : PS) fun S17 =>
        gd (inr (10 + v2) 128) <|
        gd (inr v2 9) <|
        gd (inr (1 + v2) 128) <|
        gd (¬ (S17.1 91 (ix (1 + v2))) = 0) <|
        gd (inr v2 9) <|
        lt ((u2 S17.1 100 (ix v2) (((S17.1 91 (ix (10 + v2))) + (S17.1 99 (ix v2))) / (S17.1 91 (ix (1 + v2)))), S17.2) : PS) fun S25 =>
        gd (inr (28 + v2) 128) <|
        (if (S25.1 91 (ix (28 + v2))) = (-1) then
          gd (inr v2 9) <|
          gd (inr v2 9) <|
          lt ((u2 S25.1 101 (ix v2) (S25.1 100 (ix v2)), S25.2) : PS) fun S48 =>
          gd (inr v2 9) <|
          gd (inr v2 9) <|
          gd (inr v2 9) <|
          lt ((u2 S48.1 102 (ix v2) ((S48.1 100 (ix v2)) - (S48.1 101 (ix v2))), S48.2) : PS) fun S52 =>
          lt (v2 + 1 : Int32) fun x53 =>
          fX12_flows_2 N v1 n x53 S52
        else
          gd (inr (37 + v2) 128) <|
          (if (S25.1 91 (ix (37 + v2))) = 0 then
            gd (inr v2 9) <|
            gd (inr v2 9) <|
            lt ((u2 S25.1 101 (ix v2) (((S25.1 100 (ix v2)) + 1) / 2), S25.2) : PS) fun S40 =>
            gd (inr v2 9) <|
            gd (inr v2 9) <|
            gd (inr v2 9) <|
            lt ((u2 S40.1 102 (ix v2) ((S40.1 100 (ix v2)) - (S40.1 101 (ix v2))), S40.2) : PS) fun S44 =>
            lt (v2 + 1 : Int32) fun x45 =>
            fX12_flows_2 N v1 n x45 S44
          else
            gd (inr v2 9) <|
            gd (inr v2 9) <|
            lt ((u2 S25.1 101 (ix v2) ((S25.1 100 (ix v2)) / 2), S25.2) : PS) fun S32 =>
            gd (inr v2 9) <|
            gd (inr v2 9) <|
            gd (inr v2 9) <|
            lt ((u2 S32.1 102 (ix v2) ((S32.1 100 (ix v2)) - (S32.1 101 (ix v2))), S32.2) : PS) fun S36 =>
            lt (v2 + 1 : Int32) fun x37 =>
            fX12_flows_2 N v1 n x37 S36))))
set_option maxHeartbeats 4000000 in
set_option maxRecDepth 100000 in
theorem okX12_flows_2 (N : Nat) (v1 : Int32) (Q : OQ) (u : Nat) (hu : u ≤ 0) : ∀ (n : Nat) (v2 : Int32) (S : PS) (y2 : Int32) (T : PS), fX12_flows_2 N v1 n v2 S = some (y2, T) → WP [] mX12_flows 1 0 Q 186 [some (.ref 80), some (.int v1), some (.int y2), none] [] T u → WP [] mX12_flows 1 0 Q 2 [some (.ref 80), some (.int v1), some (.int v2), none] [] S u := by
  intro n
  induction n with
  | zero => intro v2 S y2 T h; rw [fX12_flows_2] at h; cases h
  | succ n ih =>
    intro v2 S y2 T h k0
    rw [fX12_flows_2] at h
    refine r_iload_n (x := v2) dX12_flows_2 rfl ?_
    refine r_aload_n (x := 80) dX12_flows_3 rfl ?_
    refine r_getfield (o := 80) (v := .int (S.1 80 1)) dX12_flows_4 lX12_269 ck80 nC80 rfl ?_
    refine r_icmp_ge (tgt := 186) dX12_flows_7 (by decide) (fun c1 => ?_) (fun c1 => ?_)
    · rw [if_pos c1] at h
      cases h
      exact k0
    · rw [if_neg c1] at h
      refine r_aload_n (x := 80) dX12_flows_10 rfl ?_
      refine r_getfield (o := 80) (v := .ref 99) dX12_flows_11 lX12_78 ck80 nC80 rfl ?_
      refine r_iload_n (x := v2) dX12_flows_14 rfl ?_
      refine r_aload_n (x := 80) dX12_flows_15 rfl ?_
      refine r_getfield (o := 80) (v := .ref 91) dX12_flows_16 lX12_51 ck80 nC80 rfl ?_
      refine r_bipush (v := 55) dX12_flows_19 rfl ?_
      refine r_iload_n (x := v2) dX12_flows_21 rfl ?_
      refine r_iadd dX12_flows_22 ?_
      obtain ⟨g2, h⟩ := gd_e h
      refine r_iaload (a := 91) dX12_flows_23 ck91 nC91 (inr_IX g2) ?_
      refine r_iconst (v := 1) dX12_flows_24 rfl ?_
      refine r_icmp_ne (tgt := 32) dX12_flows_25 (by decide) (fun c3 => ?_) (fun c3 => ?_)
      · rw [if_neg c3] at h
        refine r_aload_n (x := 80) dX12_flows_32 rfl ?_
        refine r_getfield (o := 80) (v := .ref 81) dX12_flows_33 lX12_16 ck80 nC80 rfl ?_
        refine r_iload_n (x := v2) dX12_flows_36 rfl ?_
        obtain ⟨g4, h⟩ := gd_e h
        refine r_iaload (a := 81) dX12_flows_37 ck81 nC81 (inr_IX g4) ?_
        refine r_iload_n (x := v1) dX12_flows_38 rfl ?_
        refine r_imul dX12_flows_39 ?_
        obtain ⟨g5, h⟩ := gd_e h
        refine r_iastore (a := 99) dX12_flows_40 ck99 nC99 (inr_IX g5) ?_
        refine r_topS (fun S6 hS6 => ?_)
        replace h := lt_e hS6 h
        refine r_iconst (v := 0) dX12_flows_41 rfl ?_
        refine r_istore_n (L' := [some (.ref 80), some (.int v1), some (.int v2), some (.int 0)]) dX12_flows_42 (Nat.le_of_ble_eq_true rfl) rfl rfl ?_
        obtain ⟨⟨x16, S17⟩, h19, h⟩ := bT_e h
        dsimp only at h
        replace h := pl_s (pl_s (h))
        refine okX12_flows_43 N v1 v2 Q u hu _ _ _ _ _ h19 ?_
        refine r_aload_n (x := 80) dX12_flows_69 rfl ?_
        refine r_getfield (o := 80) (v := .ref 100) dX12_flows_70 lX12_81 ck80 nC80 rfl ?_
        refine r_iload_n (x := v2) dX12_flows_73 rfl ?_
        refine r_aload_n (x := 80) dX12_flows_74 rfl ?_
        refine r_getfield (o := 80) (v := .ref 91) dX12_flows_75 lX12_51 ck80 nC80 rfl ?_
        refine r_bipush (v := 10) dX12_flows_78 rfl ?_
        refine r_iload_n (x := v2) dX12_flows_80 rfl ?_
        refine r_iadd dX12_flows_81 ?_
        obtain ⟨g20, h⟩ := gd_e h
        refine r_iaload (a := 91) dX12_flows_82 ck91 nC91 (inr_IX g20) ?_
        refine r_aload_n (x := 80) dX12_flows_83 rfl ?_
        refine r_getfield (o := 80) (v := .ref 99) dX12_flows_84 lX12_78 ck80 nC80 rfl ?_
        refine r_iload_n (x := v2) dX12_flows_87 rfl ?_
        obtain ⟨g21, h⟩ := gd_e h
        refine r_iaload (a := 99) dX12_flows_88 ck99 nC99 (inr_IX g21) ?_
        refine r_iadd dX12_flows_89 ?_
        refine r_aload_n (x := 80) dX12_flows_90 rfl ?_
        refine r_getfield (o := 80) (v := .ref 91) dX12_flows_91 lX12_51 ck80 nC80 rfl ?_
        refine r_iconst (v := 1) dX12_flows_94 rfl ?_
        refine r_iload_n (x := v2) dX12_flows_95 rfl ?_
        refine r_iadd dX12_flows_96 ?_
        obtain ⟨g22, h⟩ := gd_e h
        refine r_iaload (a := 91) dX12_flows_97 ck91 nC91 (inr_IX g22) ?_
        obtain ⟨g23, h⟩ := gd_e h
        refine r_idiv dX12_flows_98 g23 ?_
        obtain ⟨g24, h⟩ := gd_e h
        refine r_iastore (a := 100) dX12_flows_99 ck100 nC100 (inr_IX g24) ?_
        refine r_topS (fun S25 hS25 => ?_)
        replace h := lt_e hS25 h
        refine r_aload_n (x := 80) dX12_flows_100 rfl ?_
        refine r_getfield (o := 80) (v := .ref 101) dX12_flows_101 lX12_84 ck80 nC80 rfl ?_
        refine r_iload_n (x := v2) dX12_flows_104 rfl ?_
        refine r_aload_n (x := 80) dX12_flows_105 rfl ?_
        refine r_getfield (o := 80) (v := .ref 91) dX12_flows_106 lX12_51 ck80 nC80 rfl ?_
        refine r_bipush (v := 28) dX12_flows_109 rfl ?_
        refine r_iload_n (x := v2) dX12_flows_111 rfl ?_
        refine r_iadd dX12_flows_112 ?_
        obtain ⟨g26, h⟩ := gd_e h
        refine r_iaload (a := 91) dX12_flows_113 ck91 nC91 (inr_IX g26) ?_
        refine r_iconst (v := (-1)) dX12_flows_114 rfl ?_
        refine r_icmp_ne (tgt := 127) dX12_flows_115 (by decide) (fun c27 => ?_) (fun c27 => ?_)
        · rw [if_neg c27] at h
          refine r_aload_n (x := 80) dX12_flows_127 rfl ?_
          refine r_getfield (o := 80) (v := .ref 91) dX12_flows_128 lX12_51 ck80 nC80 rfl ?_
          refine r_bipush (v := 37) dX12_flows_131 rfl ?_
          refine r_iload_n (x := v2) dX12_flows_133 rfl ?_
          refine r_iadd dX12_flows_134 ?_
          obtain ⟨g28, h⟩ := gd_e h
          refine r_iaload (a := 91) dX12_flows_135 ck91 nC91 (inr_IX g28) ?_
          refine r_if_ne (tgt := 152) dX12_flows_136 (by decide) (fun c29 => ?_) (fun c29 => ?_)
          · rw [if_neg c29] at h
            refine r_aload_n (x := 80) dX12_flows_152 rfl ?_
            refine r_getfield (o := 80) (v := .ref 100) dX12_flows_153 lX12_81 ck80 nC80 rfl ?_
            refine r_iload_n (x := v2) dX12_flows_156 rfl ?_
            obtain ⟨g30, h⟩ := gd_e h
            refine r_iaload (a := 100) dX12_flows_157 ck100 nC100 (inr_IX g30) ?_
            refine r_iconst (v := 2) dX12_flows_158 rfl ?_
            refine r_idiv dX12_flows_159 (by decide) ?_
            obtain ⟨g31, h⟩ := gd_e h
            refine r_iastore (a := 101) dX12_flows_160 ck101 nC101 (inr_IX g31) ?_
            refine r_topS (fun S32 hS32 => ?_)
            replace h := lt_e hS32 h
            refine r_aload_n (x := 80) dX12_flows_161 rfl ?_
            refine r_getfield (o := 80) (v := .ref 102) dX12_flows_162 lX12_87 ck80 nC80 rfl ?_
            refine r_iload_n (x := v2) dX12_flows_165 rfl ?_
            refine r_aload_n (x := 80) dX12_flows_166 rfl ?_
            refine r_getfield (o := 80) (v := .ref 100) dX12_flows_167 lX12_81 ck80 nC80 rfl ?_
            refine r_iload_n (x := v2) dX12_flows_170 rfl ?_
            obtain ⟨g33, h⟩ := gd_e h
            refine r_iaload (a := 100) dX12_flows_171 ck100 nC100 (inr_IX g33) ?_
            refine r_aload_n (x := 80) dX12_flows_172 rfl ?_
            refine r_getfield (o := 80) (v := .ref 101) dX12_flows_173 lX12_84 ck80 nC80 rfl ?_
            refine r_iload_n (x := v2) dX12_flows_176 rfl ?_
            obtain ⟨g34, h⟩ := gd_e h
            refine r_iaload (a := 101) dX12_flows_177 ck101 nC101 (inr_IX g34) ?_
            refine r_isub dX12_flows_178 ?_
            obtain ⟨g35, h⟩ := gd_e h
            refine r_iastore (a := 102) dX12_flows_179 ck102 nC102 (inr_IX g35) ?_
            refine r_topS (fun S36 hS36 => ?_)
            replace h := lt_e hS36 h
            obtain ⟨x37, hx37⟩ : ∃ y : Int32, y = (v2 + 1 : Int32) := ⟨_, rfl⟩
            replace h := lt_e hx37 h
            refine r_iinc (x := v2) (v := x37) (L' := [some (.ref 80), some (.int v1), some (.int x37), some (.int x16)]) dX12_flows_180 rfl (by rw [hx37]; rfl) (Nat.le_of_ble_eq_true rfl) rfl rfl ?_
            refine r_goto (tgt := 2) dX12_flows_183 (by decide) ?_
            refine r_drop [true, true, true, false] rfl ?_
            exact ih _ _ _ _ h k0
          · rw [if_pos c29] at h
            refine r_aload_n (x := 80) dX12_flows_139 rfl ?_
            refine r_getfield (o := 80) (v := .ref 100) dX12_flows_140 lX12_81 ck80 nC80 rfl ?_
            refine r_iload_n (x := v2) dX12_flows_143 rfl ?_
            obtain ⟨g38, h⟩ := gd_e h
            refine r_iaload (a := 100) dX12_flows_144 ck100 nC100 (inr_IX g38) ?_
            refine r_iconst (v := 1) dX12_flows_145 rfl ?_
            refine r_iadd dX12_flows_146 ?_
            refine r_iconst (v := 2) dX12_flows_147 rfl ?_
            refine r_idiv dX12_flows_148 (by decide) ?_
            refine r_goto (tgt := 160) dX12_flows_149 (by decide) ?_
            obtain ⟨g39, h⟩ := gd_e h
            refine r_iastore (a := 101) dX12_flows_160 ck101 nC101 (inr_IX g39) ?_
            refine r_topS (fun S40 hS40 => ?_)
            replace h := lt_e hS40 h
            refine r_aload_n (x := 80) dX12_flows_161 rfl ?_
            refine r_getfield (o := 80) (v := .ref 102) dX12_flows_162 lX12_87 ck80 nC80 rfl ?_
            refine r_iload_n (x := v2) dX12_flows_165 rfl ?_
            refine r_aload_n (x := 80) dX12_flows_166 rfl ?_
            refine r_getfield (o := 80) (v := .ref 100) dX12_flows_167 lX12_81 ck80 nC80 rfl ?_
            refine r_iload_n (x := v2) dX12_flows_170 rfl ?_
            obtain ⟨g41, h⟩ := gd_e h
            refine r_iaload (a := 100) dX12_flows_171 ck100 nC100 (inr_IX g41) ?_
            refine r_aload_n (x := 80) dX12_flows_172 rfl ?_
            refine r_getfield (o := 80) (v := .ref 101) dX12_flows_173 lX12_84 ck80 nC80 rfl ?_
            refine r_iload_n (x := v2) dX12_flows_176 rfl ?_
            obtain ⟨g42, h⟩ := gd_e h
            refine r_iaload (a := 101) dX12_flows_177 ck101 nC101 (inr_IX g42) ?_
            refine r_isub dX12_flows_178 ?_
            obtain ⟨g43, h⟩ := gd_e h
            refine r_iastore (a := 102) dX12_flows_179 ck102 nC102 (inr_IX g43) ?_
            refine r_topS (fun S44 hS44 => ?_)
            replace h := lt_e hS44 h
            obtain ⟨x45, hx45⟩ : ∃ y : Int32, y = (v2 + 1 : Int32) := ⟨_, rfl⟩
            replace h := lt_e hx45 h
            refine r_iinc (x := v2) (v := x45) (L' := [some (.ref 80), some (.int v1), some (.int x45), some (.int x16)]) dX12_flows_180 rfl (by rw [hx45]; rfl) (Nat.le_of_ble_eq_true rfl) rfl rfl ?_
            refine r_goto (tgt := 2) dX12_flows_183 (by decide) ?_
            refine r_drop [true, true, true, false] rfl ?_
            exact ih _ _ _ _ h k0
        · rw [if_pos c27] at h
          refine r_aload_n (x := 80) dX12_flows_118 rfl ?_
          refine r_getfield (o := 80) (v := .ref 100) dX12_flows_119 lX12_81 ck80 nC80 rfl ?_
          refine r_iload_n (x := v2) dX12_flows_122 rfl ?_
          obtain ⟨g46, h⟩ := gd_e h
          refine r_iaload (a := 100) dX12_flows_123 ck100 nC100 (inr_IX g46) ?_
          refine r_goto (tgt := 160) dX12_flows_124 (by decide) ?_
          obtain ⟨g47, h⟩ := gd_e h
          refine r_iastore (a := 101) dX12_flows_160 ck101 nC101 (inr_IX g47) ?_
          refine r_topS (fun S48 hS48 => ?_)
          replace h := lt_e hS48 h
          refine r_aload_n (x := 80) dX12_flows_161 rfl ?_
          refine r_getfield (o := 80) (v := .ref 102) dX12_flows_162 lX12_87 ck80 nC80 rfl ?_
          refine r_iload_n (x := v2) dX12_flows_165 rfl ?_
          refine r_aload_n (x := 80) dX12_flows_166 rfl ?_
          refine r_getfield (o := 80) (v := .ref 100) dX12_flows_167 lX12_81 ck80 nC80 rfl ?_
          refine r_iload_n (x := v2) dX12_flows_170 rfl ?_
          obtain ⟨g49, h⟩ := gd_e h
          refine r_iaload (a := 100) dX12_flows_171 ck100 nC100 (inr_IX g49) ?_
          refine r_aload_n (x := 80) dX12_flows_172 rfl ?_
          refine r_getfield (o := 80) (v := .ref 101) dX12_flows_173 lX12_84 ck80 nC80 rfl ?_
          refine r_iload_n (x := v2) dX12_flows_176 rfl ?_
          obtain ⟨g50, h⟩ := gd_e h
          refine r_iaload (a := 101) dX12_flows_177 ck101 nC101 (inr_IX g50) ?_
          refine r_isub dX12_flows_178 ?_
          obtain ⟨g51, h⟩ := gd_e h
          refine r_iastore (a := 102) dX12_flows_179 ck102 nC102 (inr_IX g51) ?_
          refine r_topS (fun S52 hS52 => ?_)
          replace h := lt_e hS52 h
          obtain ⟨x53, hx53⟩ : ∃ y : Int32, y = (v2 + 1 : Int32) := ⟨_, rfl⟩
          replace h := lt_e hx53 h
          refine r_iinc (x := v2) (v := x53) (L' := [some (.ref 80), some (.int v1), some (.int x53), some (.int x16)]) dX12_flows_180 rfl (by rw [hx53]; rfl) (Nat.le_of_ble_eq_true rfl) rfl rfl ?_
          refine r_goto (tgt := 2) dX12_flows_183 (by decide) ?_
          refine r_drop [true, true, true, false] rfl ?_
          exact ih _ _ _ _ h k0
      · rw [if_pos c3] at h
        refine r_iconst (v := 0) dX12_flows_28 rfl ?_
        refine r_goto (tgt := 40) dX12_flows_29 (by decide) ?_
        obtain ⟨g54, h⟩ := gd_e h
        refine r_iastore (a := 99) dX12_flows_40 ck99 nC99 (inr_IX g54) ?_
        refine r_topS (fun S55 hS55 => ?_)
        replace h := lt_e hS55 h
        refine r_iconst (v := 0) dX12_flows_41 rfl ?_
        refine r_istore_n (L' := [some (.ref 80), some (.int v1), some (.int v2), some (.int 0)]) dX12_flows_42 (Nat.le_of_ble_eq_true rfl) rfl rfl ?_
        obtain ⟨⟨x57, S58⟩, h60, h⟩ := bT_e h
        dsimp only at h
        replace h := pl_s (pl_s (h))
        refine okX12_flows_43 N v1 v2 Q u hu _ _ _ _ _ h60 ?_
        refine r_aload_n (x := 80) dX12_flows_69 rfl ?_
        refine r_getfield (o := 80) (v := .ref 100) dX12_flows_70 lX12_81 ck80 nC80 rfl ?_
        refine r_iload_n (x := v2) dX12_flows_73 rfl ?_
        refine r_aload_n (x := 80) dX12_flows_74 rfl ?_
        refine r_getfield (o := 80) (v := .ref 91) dX12_flows_75 lX12_51 ck80 nC80 rfl ?_
        refine r_bipush (v := 10) dX12_flows_78 rfl ?_
        refine r_iload_n (x := v2) dX12_flows_80 rfl ?_
        refine r_iadd dX12_flows_81 ?_
        obtain ⟨g61, h⟩ := gd_e h
        refine r_iaload (a := 91) dX12_flows_82 ck91 nC91 (inr_IX g61) ?_
        refine r_aload_n (x := 80) dX12_flows_83 rfl ?_
        refine r_getfield (o := 80) (v := .ref 99) dX12_flows_84 lX12_78 ck80 nC80 rfl ?_
        refine r_iload_n (x := v2) dX12_flows_87 rfl ?_
        obtain ⟨g62, h⟩ := gd_e h
        refine r_iaload (a := 99) dX12_flows_88 ck99 nC99 (inr_IX g62) ?_
        refine r_iadd dX12_flows_89 ?_
        refine r_aload_n (x := 80) dX12_flows_90 rfl ?_
        refine r_getfield (o := 80) (v := .ref 91) dX12_flows_91 lX12_51 ck80 nC80 rfl ?_
        refine r_iconst (v := 1) dX12_flows_94 rfl ?_
        refine r_iload_n (x := v2) dX12_flows_95 rfl ?_
        refine r_iadd dX12_flows_96 ?_
        obtain ⟨g63, h⟩ := gd_e h
        refine r_iaload (a := 91) dX12_flows_97 ck91 nC91 (inr_IX g63) ?_
        obtain ⟨g64, h⟩ := gd_e h
        refine r_idiv dX12_flows_98 g64 ?_
        obtain ⟨g65, h⟩ := gd_e h
        refine r_iastore (a := 100) dX12_flows_99 ck100 nC100 (inr_IX g65) ?_
        refine r_topS (fun S66 hS66 => ?_)
        replace h := lt_e hS66 h
        refine r_aload_n (x := 80) dX12_flows_100 rfl ?_
        refine r_getfield (o := 80) (v := .ref 101) dX12_flows_101 lX12_84 ck80 nC80 rfl ?_
        refine r_iload_n (x := v2) dX12_flows_104 rfl ?_
        refine r_aload_n (x := 80) dX12_flows_105 rfl ?_
        refine r_getfield (o := 80) (v := .ref 91) dX12_flows_106 lX12_51 ck80 nC80 rfl ?_
        refine r_bipush (v := 28) dX12_flows_109 rfl ?_
        refine r_iload_n (x := v2) dX12_flows_111 rfl ?_
        refine r_iadd dX12_flows_112 ?_
        obtain ⟨g67, h⟩ := gd_e h
        refine r_iaload (a := 91) dX12_flows_113 ck91 nC91 (inr_IX g67) ?_
        refine r_iconst (v := (-1)) dX12_flows_114 rfl ?_
        refine r_icmp_ne (tgt := 127) dX12_flows_115 (by decide) (fun c68 => ?_) (fun c68 => ?_)
        · rw [if_neg c68] at h
          refine r_aload_n (x := 80) dX12_flows_127 rfl ?_
          refine r_getfield (o := 80) (v := .ref 91) dX12_flows_128 lX12_51 ck80 nC80 rfl ?_
          refine r_bipush (v := 37) dX12_flows_131 rfl ?_
          refine r_iload_n (x := v2) dX12_flows_133 rfl ?_
          refine r_iadd dX12_flows_134 ?_
          obtain ⟨g69, h⟩ := gd_e h
          refine r_iaload (a := 91) dX12_flows_135 ck91 nC91 (inr_IX g69) ?_
          refine r_if_ne (tgt := 152) dX12_flows_136 (by decide) (fun c70 => ?_) (fun c70 => ?_)
          · rw [if_neg c70] at h
            refine r_aload_n (x := 80) dX12_flows_152 rfl ?_
            refine r_getfield (o := 80) (v := .ref 100) dX12_flows_153 lX12_81 ck80 nC80 rfl ?_
            refine r_iload_n (x := v2) dX12_flows_156 rfl ?_
            obtain ⟨g71, h⟩ := gd_e h
            refine r_iaload (a := 100) dX12_flows_157 ck100 nC100 (inr_IX g71) ?_
            refine r_iconst (v := 2) dX12_flows_158 rfl ?_
            refine r_idiv dX12_flows_159 (by decide) ?_
            obtain ⟨g72, h⟩ := gd_e h
            refine r_iastore (a := 101) dX12_flows_160 ck101 nC101 (inr_IX g72) ?_
            refine r_topS (fun S73 hS73 => ?_)
            replace h := lt_e hS73 h
            refine r_aload_n (x := 80) dX12_flows_161 rfl ?_
            refine r_getfield (o := 80) (v := .ref 102) dX12_flows_162 lX12_87 ck80 nC80 rfl ?_
            refine r_iload_n (x := v2) dX12_flows_165 rfl ?_
            refine r_aload_n (x := 80) dX12_flows_166 rfl ?_
            refine r_getfield (o := 80) (v := .ref 100) dX12_flows_167 lX12_81 ck80 nC80 rfl ?_
            refine r_iload_n (x := v2) dX12_flows_170 rfl ?_
            obtain ⟨g74, h⟩ := gd_e h
            refine r_iaload (a := 100) dX12_flows_171 ck100 nC100 (inr_IX g74) ?_
            refine r_aload_n (x := 80) dX12_flows_172 rfl ?_
            refine r_getfield (o := 80) (v := .ref 101) dX12_flows_173 lX12_84 ck80 nC80 rfl ?_
            refine r_iload_n (x := v2) dX12_flows_176 rfl ?_
            obtain ⟨g75, h⟩ := gd_e h
            refine r_iaload (a := 101) dX12_flows_177 ck101 nC101 (inr_IX g75) ?_
            refine r_isub dX12_flows_178 ?_
            obtain ⟨g76, h⟩ := gd_e h
            refine r_iastore (a := 102) dX12_flows_179 ck102 nC102 (inr_IX g76) ?_
            refine r_topS (fun S77 hS77 => ?_)
            replace h := lt_e hS77 h
            obtain ⟨x78, hx78⟩ : ∃ y : Int32, y = (v2 + 1 : Int32) := ⟨_, rfl⟩
            replace h := lt_e hx78 h
            refine r_iinc (x := v2) (v := x78) (L' := [some (.ref 80), some (.int v1), some (.int x78), some (.int x57)]) dX12_flows_180 rfl (by rw [hx78]; rfl) (Nat.le_of_ble_eq_true rfl) rfl rfl ?_
            refine r_goto (tgt := 2) dX12_flows_183 (by decide) ?_
            refine r_drop [true, true, true, false] rfl ?_
            exact ih _ _ _ _ h k0
          · rw [if_pos c70] at h
            refine r_aload_n (x := 80) dX12_flows_139 rfl ?_
            refine r_getfield (o := 80) (v := .ref 100) dX12_flows_140 lX12_81 ck80 nC80 rfl ?_
            refine r_iload_n (x := v2) dX12_flows_143 rfl ?_
            obtain ⟨g79, h⟩ := gd_e h
            refine r_iaload (a := 100) dX12_flows_144 ck100 nC100 (inr_IX g79) ?_
            refine r_iconst (v := 1) dX12_flows_145 rfl ?_
            refine r_iadd dX12_flows_146 ?_
            refine r_iconst (v := 2) dX12_flows_147 rfl ?_
            refine r_idiv dX12_flows_148 (by decide) ?_
            refine r_goto (tgt := 160) dX12_flows_149 (by decide) ?_
            obtain ⟨g80, h⟩ := gd_e h
            refine r_iastore (a := 101) dX12_flows_160 ck101 nC101 (inr_IX g80) ?_
            refine r_topS (fun S81 hS81 => ?_)
            replace h := lt_e hS81 h
            refine r_aload_n (x := 80) dX12_flows_161 rfl ?_
            refine r_getfield (o := 80) (v := .ref 102) dX12_flows_162 lX12_87 ck80 nC80 rfl ?_
            refine r_iload_n (x := v2) dX12_flows_165 rfl ?_
            refine r_aload_n (x := 80) dX12_flows_166 rfl ?_
            refine r_getfield (o := 80) (v := .ref 100) dX12_flows_167 lX12_81 ck80 nC80 rfl ?_
            refine r_iload_n (x := v2) dX12_flows_170 rfl ?_
            obtain ⟨g82, h⟩ := gd_e h
            refine r_iaload (a := 100) dX12_flows_171 ck100 nC100 (inr_IX g82) ?_
            refine r_aload_n (x := 80) dX12_flows_172 rfl ?_
            refine r_getfield (o := 80) (v := .ref 101) dX12_flows_173 lX12_84 ck80 nC80 rfl ?_
            refine r_iload_n (x := v2) dX12_flows_176 rfl ?_
            obtain ⟨g83, h⟩ := gd_e h
            refine r_iaload (a := 101) dX12_flows_177 ck101 nC101 (inr_IX g83) ?_
            refine r_isub dX12_flows_178 ?_
            obtain ⟨g84, h⟩ := gd_e h
            refine r_iastore (a := 102) dX12_flows_179 ck102 nC102 (inr_IX g84) ?_
            refine r_topS (fun S85 hS85 => ?_)
            replace h := lt_e hS85 h
            obtain ⟨x86, hx86⟩ : ∃ y : Int32, y = (v2 + 1 : Int32) := ⟨_, rfl⟩
            replace h := lt_e hx86 h
            refine r_iinc (x := v2) (v := x86) (L' := [some (.ref 80), some (.int v1), some (.int x86), some (.int x57)]) dX12_flows_180 rfl (by rw [hx86]; rfl) (Nat.le_of_ble_eq_true rfl) rfl rfl ?_
            refine r_goto (tgt := 2) dX12_flows_183 (by decide) ?_
            refine r_drop [true, true, true, false] rfl ?_
            exact ih _ _ _ _ h k0
        · rw [if_pos c68] at h
          refine r_aload_n (x := 80) dX12_flows_118 rfl ?_
          refine r_getfield (o := 80) (v := .ref 100) dX12_flows_119 lX12_81 ck80 nC80 rfl ?_
          refine r_iload_n (x := v2) dX12_flows_122 rfl ?_
          obtain ⟨g87, h⟩ := gd_e h
          refine r_iaload (a := 100) dX12_flows_123 ck100 nC100 (inr_IX g87) ?_
          refine r_goto (tgt := 160) dX12_flows_124 (by decide) ?_
          obtain ⟨g88, h⟩ := gd_e h
          refine r_iastore (a := 101) dX12_flows_160 ck101 nC101 (inr_IX g88) ?_
          refine r_topS (fun S89 hS89 => ?_)
          replace h := lt_e hS89 h
          refine r_aload_n (x := 80) dX12_flows_161 rfl ?_
          refine r_getfield (o := 80) (v := .ref 102) dX12_flows_162 lX12_87 ck80 nC80 rfl ?_
          refine r_iload_n (x := v2) dX12_flows_165 rfl ?_
          refine r_aload_n (x := 80) dX12_flows_166 rfl ?_
          refine r_getfield (o := 80) (v := .ref 100) dX12_flows_167 lX12_81 ck80 nC80 rfl ?_
          refine r_iload_n (x := v2) dX12_flows_170 rfl ?_
          obtain ⟨g90, h⟩ := gd_e h
          refine r_iaload (a := 100) dX12_flows_171 ck100 nC100 (inr_IX g90) ?_
          refine r_aload_n (x := 80) dX12_flows_172 rfl ?_
          refine r_getfield (o := 80) (v := .ref 101) dX12_flows_173 lX12_84 ck80 nC80 rfl ?_
          refine r_iload_n (x := v2) dX12_flows_176 rfl ?_
          obtain ⟨g91, h⟩ := gd_e h
          refine r_iaload (a := 101) dX12_flows_177 ck101 nC101 (inr_IX g91) ?_
          refine r_isub dX12_flows_178 ?_
          obtain ⟨g92, h⟩ := gd_e h
          refine r_iastore (a := 102) dX12_flows_179 ck102 nC102 (inr_IX g92) ?_
          refine r_topS (fun S93 hS93 => ?_)
          replace h := lt_e hS93 h
          obtain ⟨x94, hx94⟩ : ∃ y : Int32, y = (v2 + 1 : Int32) := ⟨_, rfl⟩
          replace h := lt_e hx94 h
          refine r_iinc (x := v2) (v := x94) (L' := [some (.ref 80), some (.int v1), some (.int x94), some (.int x57)]) dX12_flows_180 rfl (by rw [hx94]; rfl) (Nat.le_of_ble_eq_true rfl) rfl rfl ?_
          refine r_goto (tgt := 2) dX12_flows_183 (by decide) ?_
          refine r_drop [true, true, true, false] rfl ?_
          exact ih _ _ _ _ h k0
def fX12_flows (N : Nat) (p0 : Int32) (S : PS) : Option PS :=
  bT (fX12_flows_2 N p0 N 0 S) fun q95 =>
  lt (q95.1 : Int32) fun x96 =>
  lt (q95.2 : PS) fun S97 =>
  some S97
set_option maxHeartbeats 4000000 in
set_option maxRecDepth 100000 in
theorem okX12_flows (N : Nat) (p0 : Int32) (S : PS) (T : PS) (h : fX12_flows N p0 S = some T) : CT mX12_flows 1 0 [.ref 80, .int p0] S (qV T) := by
  refine ct_of [some (.ref 80), some (.int p0), none, none] rfl (fun _ => rfl) (fun _ => Nat.le_of_ble_eq_true rfl) ?_
  unfold fX12_flows at h
  refine r_iconst (v := 0) dX12_flows_0 rfl ?_
  refine r_istore_n (L' := [some (.ref 80), some (.int p0), some (.int 0), none]) dX12_flows_1 (Nat.le_of_ble_eq_true rfl) rfl rfl ?_
  obtain ⟨⟨x96, S97⟩, h99, h⟩ := bT_e h
  dsimp only at h
  replace h := pl_s (pl_s (h))
  refine okX12_flows_2 N p0 (qV T) 0 (Nat.zero_le _) _ _ _ _ _ h99 ?_
  cases h
  exact r_return dX12_flows_186 rfl (Nat.zero_le _) ⟨rfl, rfl⟩
def fX12_fallen (N : Nat) (p0 : Int32) (p1 : Int32) (S : PS) : Option (Int32 × PS) :=
  lt ((u2 S.1 80 0 0, S.2) : PS) fun S1 =>
  bI (fX12_isCup N p0 S1) fun x2 S3 =>
  (if x2 = 0 then
    some (0, S3)
  else
    bI (fX12_within N p1 0 1000000 S3) fun x6 S7 =>
    bI (fX12_right N x6 2 S7) fun x9 S10 =>
    (if x9 = 0 then
      some (0, S10)
    else
      bV (fX12_flows N p1 S10) fun S14 =>
      gd (inr p0 9) <|
      some ((S14.1 100 (ix p0)), S14)))
set_option maxHeartbeats 4000000 in
set_option maxRecDepth 100000 in
theorem okX12_fallen (N : Nat) (p0 : Int32) (p1 : Int32) (S : PS) (r : Int32) (T : PS) (h : fX12_fallen N p0 p1 S = some (r, T)) : CT mX12_fallen 2 0 [.ref 80, .int p0, .int p1] S (qI r T) := by
  refine ct_of [some (.ref 80), some (.int p0), some (.int p1)] rfl (fun _ => rfl) (fun _ => Nat.le_of_ble_eq_true rfl) ?_
  unfold fX12_fallen at h
  refine r_aload_n (x := 80) dX12_fallen_0 rfl ?_
  refine r_iconst (v := 0) dX12_fallen_1 rfl ?_
  refine r_putI dX12_fallen_2 lX12_114 ck80 nC80 ?_
  refine r_topS (fun S1 hS1 => ?_)
  replace h := lt_e hS1 h
  refine r_aload_n (x := 80) dX12_fallen_5 rfl ?_
  refine r_iload_n (x := p0) dX12_fallen_6 rfl ?_
  obtain ⟨x2, S3, h4, h⟩ := bI_e h
  refine r_cVI (y := mX12_isCup) (As := [.int p0]) (rest := []) dX12_fallen_7 qX12_351 kX12_isCup rfl ob80 vc12 rfl (okX12_isCup N p0 S1 x2 S3 h4) (by decide) (Nat.zero_le _) rfl (Nat.le_of_ble_eq_true rfl) ?_
  refine r_if_eq (tgt := 29) dX12_fallen_10 (by decide) (fun c5 => ?_) (fun c5 => ?_)
  · rw [if_pos c5] at h
    refine r_iconst (v := 0) dX12_fallen_29 rfl ?_
    cases h
    exact r_ireturn dX12_fallen_30 rfl (Nat.zero_le _) ⟨rfl, rfl⟩
  · rw [if_neg c5] at h
    refine r_aload_n (x := 80) dX12_fallen_13 rfl ?_
    refine r_iload_n (x := p1) dX12_fallen_14 rfl ?_
    refine r_iconst (v := 0) dX12_fallen_15 rfl ?_
    refine r_ldcw (v := 1000000) dX12_fallen_16 kX12_399 ?_
    obtain ⟨x6, S7, h8, h⟩ := bI_e h
    refine r_cSI (y := mX12_within) (As := [.int p1, .int 0, .int 1000000]) (rest := [.ref 80]) dX12_fallen_19 qX12_332 kX12_within rfl (okX12_within N p1 0 1000000 S3 x6 S7 h8) (by decide) (Nat.zero_le _) rfl (Nat.le_of_ble_eq_true rfl) ?_
    refine r_iconst (v := 2) dX12_fallen_22 rfl ?_
    obtain ⟨x9, S10, h11, h⟩ := bI_e h
    refine r_cVI (y := mX12_right) (As := [.int x6, .int 2]) (rest := []) dX12_fallen_23 qX12_262 kX12_right rfl ob80 vc12 rfl (okX12_right N x6 2 S7 x9 S10 h11) (by decide) (Nat.zero_le _) rfl (Nat.le_of_ble_eq_true rfl) ?_
    refine r_if_ne (tgt := 31) dX12_fallen_26 (by decide) (fun c12 => ?_) (fun c12 => ?_)
    · rw [if_neg c12] at h
      refine r_aload_n (x := 80) dX12_fallen_31 rfl ?_
      refine r_iload_n (x := p1) dX12_fallen_32 rfl ?_
      obtain ⟨S14, h15, h⟩ := bV_e h
      refine r_cVV (y := mX12_flows) (As := [.int p1]) (rest := []) dX12_fallen_33 qX12_400 kX12_flows rfl ob80 vc12 rfl (okX12_flows N p1 S10 S14 h15) (by decide) (Nat.zero_le _) rfl (Nat.le_of_ble_eq_true rfl) ?_
      refine r_aload_n (x := 80) dX12_fallen_36 rfl ?_
      refine r_getfield (o := 80) (v := .ref 100) dX12_fallen_37 lX12_81 ck80 nC80 rfl ?_
      refine r_iload_n (x := p0) dX12_fallen_40 rfl ?_
      obtain ⟨g16, h⟩ := gd_e h
      refine r_iaload (a := 100) dX12_fallen_41 ck100 nC100 (inr_IX g16) ?_
      cases h
      exact r_ireturn dX12_fallen_42 rfl (Nat.zero_le _) ⟨rfl, rfl⟩
    · rw [if_pos c12] at h
      refine r_iconst (v := 0) dX12_fallen_29 rfl ?_
      cases h
      exact r_ireturn dX12_fallen_30 rfl (Nat.zero_le _) ⟨rfl, rfl⟩
def fX12_flow (N : Nat) (p0 : Int32) (p1 : Int32) (S : PS) : Option (Int32 × PS) :=
  lt ((u2 S.1 80 0 0, S.2) : PS) fun S1 =>
  bI (fX12_isCup N p0 S1) fun x2 S3 =>
  (if x2 = 0 then
    some (0, S3)
  else
    bI (fX12_within N p1 0 1000000 S3) fun x6 S7 =>
    bI (fX12_right N x6 2 S7) fun x9 S10 =>
    (if x9 = 0 then
      some (0, S10)
    else
      bV (fX12_flows N p1 S10) fun S14 =>
      gd (inr p0 9) <|
      some ((S14.1 99 (ix p0)), S14)))
set_option maxHeartbeats 4000000 in
set_option maxRecDepth 100000 in
theorem okX12_flow (N : Nat) (p0 : Int32) (p1 : Int32) (S : PS) (r : Int32) (T : PS) (h : fX12_flow N p0 p1 S = some (r, T)) : CT mX12_flow 2 0 [.ref 80, .int p0, .int p1] S (qI r T) := by
  refine ct_of [some (.ref 80), some (.int p0), some (.int p1)] rfl (fun _ => rfl) (fun _ => Nat.le_of_ble_eq_true rfl) ?_
  unfold fX12_flow at h
  refine r_aload_n (x := 80) dX12_flow_0 rfl ?_
  refine r_iconst (v := 0) dX12_flow_1 rfl ?_
  refine r_putI dX12_flow_2 lX12_114 ck80 nC80 ?_
  refine r_topS (fun S1 hS1 => ?_)
  replace h := lt_e hS1 h
  refine r_aload_n (x := 80) dX12_flow_5 rfl ?_
  refine r_iload_n (x := p0) dX12_flow_6 rfl ?_
  obtain ⟨x2, S3, h4, h⟩ := bI_e h
  refine r_cVI (y := mX12_isCup) (As := [.int p0]) (rest := []) dX12_flow_7 qX12_351 kX12_isCup rfl ob80 vc12 rfl (okX12_isCup N p0 S1 x2 S3 h4) (by decide) (Nat.zero_le _) rfl (Nat.le_of_ble_eq_true rfl) ?_
  refine r_if_eq (tgt := 29) dX12_flow_10 (by decide) (fun c5 => ?_) (fun c5 => ?_)
  · rw [if_pos c5] at h
    refine r_iconst (v := 0) dX12_flow_29 rfl ?_
    cases h
    exact r_ireturn dX12_flow_30 rfl (Nat.zero_le _) ⟨rfl, rfl⟩
  · rw [if_neg c5] at h
    refine r_aload_n (x := 80) dX12_flow_13 rfl ?_
    refine r_iload_n (x := p1) dX12_flow_14 rfl ?_
    refine r_iconst (v := 0) dX12_flow_15 rfl ?_
    refine r_ldcw (v := 1000000) dX12_flow_16 kX12_399 ?_
    obtain ⟨x6, S7, h8, h⟩ := bI_e h
    refine r_cSI (y := mX12_within) (As := [.int p1, .int 0, .int 1000000]) (rest := [.ref 80]) dX12_flow_19 qX12_332 kX12_within rfl (okX12_within N p1 0 1000000 S3 x6 S7 h8) (by decide) (Nat.zero_le _) rfl (Nat.le_of_ble_eq_true rfl) ?_
    refine r_iconst (v := 2) dX12_flow_22 rfl ?_
    obtain ⟨x9, S10, h11, h⟩ := bI_e h
    refine r_cVI (y := mX12_right) (As := [.int x6, .int 2]) (rest := []) dX12_flow_23 qX12_262 kX12_right rfl ob80 vc12 rfl (okX12_right N x6 2 S7 x9 S10 h11) (by decide) (Nat.zero_le _) rfl (Nat.le_of_ble_eq_true rfl) ?_
    refine r_if_ne (tgt := 31) dX12_flow_26 (by decide) (fun c12 => ?_) (fun c12 => ?_)
    · rw [if_neg c12] at h
      refine r_aload_n (x := 80) dX12_flow_31 rfl ?_
      refine r_iload_n (x := p1) dX12_flow_32 rfl ?_
      obtain ⟨S14, h15, h⟩ := bV_e h
      refine r_cVV (y := mX12_flows) (As := [.int p1]) (rest := []) dX12_flow_33 qX12_400 kX12_flows rfl ob80 vc12 rfl (okX12_flows N p1 S10 S14 h15) (by decide) (Nat.zero_le _) rfl (Nat.le_of_ble_eq_true rfl) ?_
      refine r_aload_n (x := 80) dX12_flow_36 rfl ?_
      refine r_getfield (o := 80) (v := .ref 99) dX12_flow_37 lX12_78 ck80 nC80 rfl ?_
      refine r_iload_n (x := p0) dX12_flow_40 rfl ?_
      obtain ⟨g16, h⟩ := gd_e h
      refine r_iaload (a := 99) dX12_flow_41 ck99 nC99 (inr_IX g16) ?_
      cases h
      exact r_ireturn dX12_flow_42 rfl (Nat.zero_le _) ⟨rfl, rfl⟩
    · rw [if_pos c12] at h
      refine r_iconst (v := 0) dX12_flow_29 rfl ?_
      cases h
      exact r_ireturn dX12_flow_30 rfl (Nat.zero_le _) ⟨rfl, rfl⟩
def fX12_nth_38 (N : Nat) (v1 : Int32) (v2 : Int32) : Nat → Int32 → Int32 → PS → Option (Int32 × Int32 × PS)
  | 0, _, _, _ => none
  | n + 1, v3, v4, S =>
    (if v4 ≤ v3 then
      some (v3, v4, S)
    else
      lt ((v3 + ((v4 - v3) / 2)) : Int32) fun x14 =>
      bV (fX12_flows N x14 S) fun S16 =>
      gd (inr v1 9) <|
      (if (S16.1 100 (ix v1)) < v2 then
        lt ((x14 + 1) : Int32) fun x20 =>
        fX12_nth_38 N v1 v2 n x20 v4 S16
      else
        fX12_nth_38 N v1 v2 n v3 x14 S16))
set_option maxHeartbeats 4000000 in
set_option maxRecDepth 100000 in
theorem okX12_nth_38 (N : Nat) (v1 : Int32) (v2 : Int32) (Q : OQ) (u : Nat) (hu : u ≤ 0) : ∀ (n : Nat) (v3 : Int32) (v4 : Int32) (S : PS) (y3 : Int32) (y4 : Int32) (T : PS), fX12_nth_38 N v1 v2 n v3 v4 S = some (y3, y4, T) → WP [] mX12_nth 2 0 Q 85 [some (.ref 80), some (.int v1), some (.int v2), some (.int y3), some (.int y4), none] [] T u → WP [] mX12_nth 2 0 Q 38 [some (.ref 80), some (.int v1), some (.int v2), some (.int v3), some (.int v4), none] [] S u := by
  intro n
  induction n with
  | zero => intro v3 v4 S y3 y4 T h; rw [fX12_nth_38] at h; cases h
  | succ n ih =>
    intro v3 v4 S y3 y4 T h k0
    rw [fX12_nth_38] at h
    refine r_iload_n (x := v3) dX12_nth_38 rfl ?_
    refine r_iload (x := v4) dX12_nth_39 rfl ?_
    refine r_icmp_ge (tgt := 85) dX12_nth_41 (by decide) (fun c13 => ?_) (fun c13 => ?_)
    · rw [if_pos c13] at h
      cases h
      exact k0
    · rw [if_neg c13] at h
      refine r_iload_n (x := v3) dX12_nth_44 rfl ?_
      refine r_iload (x := v4) dX12_nth_45 rfl ?_
      refine r_iload_n (x := v3) dX12_nth_47 rfl ?_
      refine r_isub dX12_nth_48 ?_
      refine r_iconst (v := 2) dX12_nth_49 rfl ?_
      refine r_idiv dX12_nth_50 (by decide) ?_
      refine r_iadd dX12_nth_51 ?_
      refine r_topi (fun x14 hx14 => ?_)
      replace h := lt_e hx14 h
      refine r_istore (L' := [some (.ref 80), some (.int v1), some (.int v2), some (.int v3), some (.int v4), some (.int x14)]) dX12_nth_52 (Nat.le_of_ble_eq_true rfl) rfl rfl ?_
      refine r_aload_n (x := 80) dX12_nth_54 rfl ?_
      refine r_iload (x := x14) dX12_nth_55 rfl ?_
      obtain ⟨S16, h17, h⟩ := bV_e h
      refine r_cVV (y := mX12_flows) (As := [.int x14]) (rest := []) dX12_nth_57 qX12_400 kX12_flows rfl ob80 vc12 rfl (okX12_flows N x14 S S16 h17) (by decide) hu rfl (Nat.le_of_ble_eq_true rfl) ?_
      refine r_aload_n (x := 80) dX12_nth_60 rfl ?_
      refine r_getfield (o := 80) (v := .ref 100) dX12_nth_61 lX12_81 ck80 nC80 rfl ?_
      refine r_iload_n (x := v1) dX12_nth_64 rfl ?_
      obtain ⟨g18, h⟩ := gd_e h
      refine r_iaload (a := 100) dX12_nth_65 ck100 nC100 (inr_IX g18) ?_
      refine r_iload_n (x := v2) dX12_nth_66 rfl ?_
      refine r_icmp_lt (tgt := 77) dX12_nth_67 (by decide) (fun c19 => ?_) (fun c19 => ?_)
      · rw [if_pos c19] at h
        refine r_iload (x := x14) dX12_nth_77 rfl ?_
        refine r_iconst (v := 1) dX12_nth_79 rfl ?_
        refine r_iadd dX12_nth_80 ?_
        refine r_topi (fun x20 hx20 => ?_)
        replace h := lt_e hx20 h
        refine r_istore_n (L' := [some (.ref 80), some (.int v1), some (.int v2), some (.int x20), some (.int v4), some (.int x14)]) dX12_nth_81 (Nat.le_of_ble_eq_true rfl) rfl rfl ?_
        refine r_goto (tgt := 38) dX12_nth_82 (by decide) ?_
        refine r_drop [true, true, true, true, true, false] rfl ?_
        exact ih _ _ _ _ _ _ h k0
      · rw [if_neg c19] at h
        refine r_iload (x := x14) dX12_nth_70 rfl ?_
        refine r_istore (L' := [some (.ref 80), some (.int v1), some (.int v2), some (.int v3), some (.int x14), some (.int x14)]) dX12_nth_72 (Nat.le_of_ble_eq_true rfl) rfl rfl ?_
        refine r_goto (tgt := 82) dX12_nth_74 (by decide) ?_
        refine r_goto (tgt := 38) dX12_nth_82 (by decide) ?_
        refine r_drop [true, true, true, true, true, false] rfl ?_
        exact ih _ _ _ _ _ _ h k0
def fX12_nth (N : Nat) (p0 : Int32) (p1 : Int32) (S : PS) : Option (Int32 × PS) :=
  lt ((u2 S.1 80 0 0, S.2) : PS) fun S1 =>
  bI (fX12_isCup N p0 S1) fun x2 S3 =>
  (if x2 = 0 then
    some (0, S3)
  else
    bI (fX12_within N p1 1 100000000 S3) fun x6 S7 =>
    bI (fX12_right N x6 2 S7) fun x9 S10 =>
    (if x9 = 0 then
      some (0, S10)
    else
      bT (fX12_nth_38 N p0 p1 N 1 1000001 S10) fun q21 =>
      lt (q21.1 : Int32) fun x22 =>
      lt (q21.2.1 : Int32) fun x23 =>
      lt (q21.2.2 : PS) fun S24 =>
      lt ((if x22 ≤ 1000000 then x22 else (-1)) : Int32) fun x28 =>
      some (x28, S24)))
set_option maxHeartbeats 4000000 in
set_option maxRecDepth 100000 in
theorem okX12_nth (N : Nat) (p0 : Int32) (p1 : Int32) (S : PS) (r : Int32) (T : PS) (h : fX12_nth N p0 p1 S = some (r, T)) : CT mX12_nth 2 0 [.ref 80, .int p0, .int p1] S (qI r T) := by
  refine ct_of [some (.ref 80), some (.int p0), some (.int p1), none, none, none] rfl (fun _ => rfl) (fun _ => Nat.le_of_ble_eq_true rfl) ?_
  unfold fX12_nth at h
  refine r_aload_n (x := 80) dX12_nth_0 rfl ?_
  refine r_iconst (v := 0) dX12_nth_1 rfl ?_
  refine r_putI dX12_nth_2 lX12_114 ck80 nC80 ?_
  refine r_topS (fun S1 hS1 => ?_)
  replace h := lt_e hS1 h
  refine r_aload_n (x := 80) dX12_nth_5 rfl ?_
  refine r_iload_n (x := p0) dX12_nth_6 rfl ?_
  obtain ⟨x2, S3, h4, h⟩ := bI_e h
  refine r_cVI (y := mX12_isCup) (As := [.int p0]) (rest := []) dX12_nth_7 qX12_351 kX12_isCup rfl ob80 vc12 rfl (okX12_isCup N p0 S1 x2 S3 h4) (by decide) (Nat.zero_le _) rfl (Nat.le_of_ble_eq_true rfl) ?_
  refine r_if_eq (tgt := 29) dX12_nth_10 (by decide) (fun c5 => ?_) (fun c5 => ?_)
  · rw [if_pos c5] at h
    refine r_iconst (v := 0) dX12_nth_29 rfl ?_
    cases h
    exact r_ireturn dX12_nth_30 rfl (Nat.zero_le _) ⟨rfl, rfl⟩
  · rw [if_neg c5] at h
    refine r_aload_n (x := 80) dX12_nth_13 rfl ?_
    refine r_iload_n (x := p1) dX12_nth_14 rfl ?_
    refine r_iconst (v := 1) dX12_nth_15 rfl ?_
    refine r_ldcw (v := 100000000) dX12_nth_16 kX12_403 ?_
    obtain ⟨x6, S7, h8, h⟩ := bI_e h
    refine r_cSI (y := mX12_within) (As := [.int p1, .int 1, .int 100000000]) (rest := [.ref 80]) dX12_nth_19 qX12_332 kX12_within rfl (okX12_within N p1 1 100000000 S3 x6 S7 h8) (by decide) (Nat.zero_le _) rfl (Nat.le_of_ble_eq_true rfl) ?_
    refine r_iconst (v := 2) dX12_nth_22 rfl ?_
    obtain ⟨x9, S10, h11, h⟩ := bI_e h
    refine r_cVI (y := mX12_right) (As := [.int x6, .int 2]) (rest := []) dX12_nth_23 qX12_262 kX12_right rfl ob80 vc12 rfl (okX12_right N x6 2 S7 x9 S10 h11) (by decide) (Nat.zero_le _) rfl (Nat.le_of_ble_eq_true rfl) ?_
    refine r_if_ne (tgt := 31) dX12_nth_26 (by decide) (fun c12 => ?_) (fun c12 => ?_)
    · rw [if_neg c12] at h
      refine r_iconst (v := 1) dX12_nth_31 rfl ?_
      refine r_istore_n (L' := [some (.ref 80), some (.int p0), some (.int p1), some (.int 1), none, none]) dX12_nth_32 (Nat.le_of_ble_eq_true rfl) rfl rfl ?_
      refine r_ldcw (v := 1000001) dX12_nth_33 kX12_404 ?_
      refine r_istore (L' := [some (.ref 80), some (.int p0), some (.int p1), some (.int 1), some (.int 1000001), none]) dX12_nth_36 (Nat.le_of_ble_eq_true rfl) rfl rfl ?_
      obtain ⟨⟨x22, x23, S24⟩, h26, h⟩ := bT_e h
      dsimp only at h
      replace h := pl_s (pl_s (pl_s (h)))
      refine okX12_nth_38 N p0 p1 (qI r T) 0 (Nat.zero_le _) _ _ _ _ _ _ _ h26 ?_
      refine r_iload_n (x := x22) dX12_nth_85 rfl ?_
      refine r_ldcw (v := 1000000) dX12_nth_86 kX12_399 ?_
      obtain ⟨x28, hx28⟩ : ∃ y : Int32, y = ((if x22 ≤ 1000000 then x22 else (-1)) : Int32) := ⟨_, rfl⟩
      replace h := lt_e hx28 h
      have keyx28 : WP [] mX12_nth 2 0 (qI r T) 97 [some (.ref 80), some (.int p0), some (.int p1), some (.int x22), some (.int x23), none] (.int x28 :: []) S24 0 := by
        cases h
        exact r_ireturn dX12_nth_97 rfl (Nat.zero_le _) ⟨rfl, rfl⟩
      refine r_icmp_le (tgt := 96) dX12_nth_89 (by decide) (fun c27 => ?_) (fun c27 => ?_)
      · refine r_iload_n (x := x22) dX12_nth_96 rfl ?_
        exact r_tope (by rw [hx28, if_pos c27]) keyx28
      · refine r_iconst (v := (-1)) dX12_nth_92 rfl ?_
        refine r_goto (tgt := 97) dX12_nth_93 (by decide) ?_
        exact r_tope (by rw [hx28, if_neg c27]) keyx28
    · rw [if_pos c12] at h
      refine r_iconst (v := 0) dX12_nth_29 rfl ?_
      cases h
      exact r_ireturn dX12_nth_30 rfl (Nat.zero_le _) ⟨rfl, rfl⟩
def fX12_meeting_51 (N : Nat) (v1 : Int32) (v2 : Int32) : Nat → Int32 → Int32 → PS → Option (Int32 × Int32 × PS)
  | 0, _, _, _ => none
  | n + 1, v3, v4, S =>
    (if (S.1 80 1) ≤ v4 then
      some (v3, v4, S)
    else
      (if v3 = 0 then
        lt (v4 + 1 : Int32) fun x18 =>
        fX12_meeting_51 N v1 v2 n 0 x18 S
      else
        (if ((v1 >>> (v4 &&& 31)) &&& 1) = 0 then
          lt (v4 + 1 : Int32) fun x20 =>
          fX12_meeting_51 N v1 v2 n 1 x20 S
        else
          gd (inr v4 9) <|
          gd (inr v4 9) <|
          lt ((if (S.1 100 (ix v4)) ≤ (S.1 103 (ix v4)) then 0 else 1) : Int32) fun x24 =>
          lt (v4 + 1 : Int32) fun x25 =>
          fX12_meeting_51 N v1 v2 n x24 x25 S)))
set_option maxHeartbeats 4000000 in
set_option maxRecDepth 100000 in
theorem okX12_meeting_51 (N : Nat) (v1 : Int32) (v2 : Int32) (Q : OQ) (u : Nat) (hu : u ≤ 0) : ∀ (n : Nat) (v3 : Int32) (v4 : Int32) (S : PS) (y3 : Int32) (y4 : Int32) (T : PS), fX12_meeting_51 N v1 v2 n v3 v4 S = some (y3, y4, T) → WP [] mX12_meeting 2 0 Q 102 [some (.ref 80), some (.int v1), some (.int v2), some (.int y3), some (.int y4)] [] T u → WP [] mX12_meeting 2 0 Q 51 [some (.ref 80), some (.int v1), some (.int v2), some (.int v3), some (.int v4)] [] S u := by
  intro n
  induction n with
  | zero => intro v3 v4 S y3 y4 T h; rw [fX12_meeting_51] at h; cases h
  | succ n ih =>
    intro v3 v4 S y3 y4 T h k0
    rw [fX12_meeting_51] at h
    refine r_iload (x := v4) dX12_meeting_51 rfl ?_
    refine r_aload_n (x := 80) dX12_meeting_53 rfl ?_
    refine r_getfield (o := 80) (v := .int (S.1 80 1)) dX12_meeting_54 lX12_269 ck80 nC80 rfl ?_
    refine r_icmp_ge (tgt := 102) dX12_meeting_57 (by decide) (fun c16 => ?_) (fun c16 => ?_)
    · rw [if_pos c16] at h
      cases h
      exact k0
    · rw [if_neg c16] at h
      refine r_iload_n (x := v3) dX12_meeting_60 rfl ?_
      refine r_if_eq (tgt := 94) dX12_meeting_61 (by decide) (fun c17 => ?_) (fun c17 => ?_)
      · rw [if_pos c17] at h
        refine r_iconst (v := 0) dX12_meeting_94 rfl ?_
        refine r_istore_n (L' := [some (.ref 80), some (.int v1), some (.int v2), some (.int 0), some (.int v4)]) dX12_meeting_95 (Nat.le_of_ble_eq_true rfl) rfl rfl ?_
        obtain ⟨x18, hx18⟩ : ∃ y : Int32, y = (v4 + 1 : Int32) := ⟨_, rfl⟩
        replace h := lt_e hx18 h
        refine r_iinc (x := v4) (v := x18) (L' := [some (.ref 80), some (.int v1), some (.int v2), some (.int 0), some (.int x18)]) dX12_meeting_96 rfl (by rw [hx18]; rfl) (Nat.le_of_ble_eq_true rfl) rfl rfl ?_
        refine r_goto (tgt := 51) dX12_meeting_99 (by decide) ?_
        exact ih _ _ _ _ _ _ h k0
      · rw [if_neg c17] at h
        refine r_iload_n (x := v1) dX12_meeting_64 rfl ?_
        refine r_iload (x := v4) dX12_meeting_65 rfl ?_
        refine r_ishr dX12_meeting_67 ?_
        refine r_iconst (v := 1) dX12_meeting_68 rfl ?_
        refine r_iand dX12_meeting_69 ?_
        refine r_if_eq (tgt := 90) dX12_meeting_70 (by decide) (fun c19 => ?_) (fun c19 => ?_)
        · rw [if_pos c19] at h
          refine r_iconst (v := 1) dX12_meeting_90 rfl ?_
          refine r_goto (tgt := 95) dX12_meeting_91 (by decide) ?_
          refine r_istore_n (L' := [some (.ref 80), some (.int v1), some (.int v2), some (.int 1), some (.int v4)]) dX12_meeting_95 (Nat.le_of_ble_eq_true rfl) rfl rfl ?_
          obtain ⟨x20, hx20⟩ : ∃ y : Int32, y = (v4 + 1 : Int32) := ⟨_, rfl⟩
          replace h := lt_e hx20 h
          refine r_iinc (x := v4) (v := x20) (L' := [some (.ref 80), some (.int v1), some (.int v2), some (.int 1), some (.int x20)]) dX12_meeting_96 rfl (by rw [hx20]; rfl) (Nat.le_of_ble_eq_true rfl) rfl rfl ?_
          refine r_goto (tgt := 51) dX12_meeting_99 (by decide) ?_
          exact ih _ _ _ _ _ _ h k0
        · rw [if_neg c19] at h
          refine r_aload_n (x := 80) dX12_meeting_73 rfl ?_
          refine r_getfield (o := 80) (v := .ref 100) dX12_meeting_74 lX12_81 ck80 nC80 rfl ?_
          refine r_iload (x := v4) dX12_meeting_77 rfl ?_
          obtain ⟨g21, h⟩ := gd_e h
          refine r_iaload (a := 100) dX12_meeting_79 ck100 nC100 (inr_IX g21) ?_
          refine r_aload_n (x := 80) dX12_meeting_80 rfl ?_
          refine r_getfield (o := 80) (v := .ref 103) dX12_meeting_81 lX12_90 ck80 nC80 rfl ?_
          refine r_iload (x := v4) dX12_meeting_84 rfl ?_
          obtain ⟨g22, h⟩ := gd_e h
          refine r_iaload (a := 103) dX12_meeting_86 ck103 nC103 (inr_IX g22) ?_
          obtain ⟨x24, hx24⟩ : ∃ y : Int32, y = ((if (S.1 100 (ix v4)) ≤ (S.1 103 (ix v4)) then 0 else 1) : Int32) := ⟨_, rfl⟩
          replace h := lt_e hx24 h
          have keyx24 : WP [] mX12_meeting 2 0 Q 95 [some (.ref 80), some (.int v1), some (.int v2), some (.int v3), some (.int v4)] (.int x24 :: []) S u := by
            refine r_istore_n (L' := [some (.ref 80), some (.int v1), some (.int v2), some (.int x24), some (.int v4)]) dX12_meeting_95 (Nat.le_of_ble_eq_true rfl) rfl rfl ?_
            obtain ⟨x25, hx25⟩ : ∃ y : Int32, y = (v4 + 1 : Int32) := ⟨_, rfl⟩
            replace h := lt_e hx25 h
            refine r_iinc (x := v4) (v := x25) (L' := [some (.ref 80), some (.int v1), some (.int v2), some (.int x24), some (.int x25)]) dX12_meeting_96 rfl (by rw [hx25]; rfl) (Nat.le_of_ble_eq_true rfl) rfl rfl ?_
            refine r_goto (tgt := 51) dX12_meeting_99 (by decide) ?_
            exact ih _ _ _ _ _ _ h k0
          refine r_icmp_le (tgt := 94) dX12_meeting_87 (by decide) (fun c23 => ?_) (fun c23 => ?_)
          · refine r_iconst (v := 0) dX12_meeting_94 rfl ?_
            exact r_tope (by rw [hx24, if_pos c23]) keyx24
          · refine r_iconst (v := 1) dX12_meeting_90 rfl ?_
            refine r_goto (tgt := 95) dX12_meeting_91 (by decide) ?_
            exact r_tope (by rw [hx24, if_neg c23]) keyx24
def fX12_meeting_22 (N : Nat) (v1 : Int32) : Nat → Int32 → PS → Option (Nat × Int32 × PS)
  | 0, _, _ => none
  | n + 1, v2, S =>
    (if 5000 < v2 then
      some (0, v2, S)
    else
      bV (fX12_copies N 100 103 S) fun S11 =>
      bV (fX12_flows N v2 S11) fun S14 =>
      bT (fX12_meeting_51 N v1 v2 N 1 0 S14) fun q26 =>
      lt (q26.1 : Int32) fun x27 =>
      lt (q26.2.1 : Int32) fun x28 =>
      lt (q26.2.2 : PS) fun S29 =>
      (if x27 = 0 then
        lt (v2 + 1 : Int32) fun x33 =>
        fX12_meeting_22 N v1 n x33 S29
      else
        some (1, v2, S29)))
set_option maxHeartbeats 4000000 in
set_option maxRecDepth 100000 in
theorem okX12_meeting_22 (N : Nat) (v1 : Int32) (Q : OQ) (u : Nat) (hu : u ≤ 0) : ∀ (n : Nat) (v2 : Int32) (S : PS) (tg : Nat) (y2 : Int32) (T : PS), fX12_meeting_22 N v1 n v2 S = some (tg, y2, T) → (tg = 0 → WP [] mX12_meeting 2 0 Q 114 [some (.ref 80), some (.int v1), some (.int y2), none, none] [] T u) → (tg = 1 → WP [] mX12_meeting 2 0 Q 106 [some (.ref 80), some (.int v1), some (.int y2), none, none] [] T u) → WP [] mX12_meeting 2 0 Q 22 [some (.ref 80), some (.int v1), some (.int v2), none, none] [] S u := by
  intro n
  induction n with
  | zero => intro v2 S tg y2 T h; rw [fX12_meeting_22] at h; cases h
  | succ n ih =>
    intro v2 S tg y2 T h k0 k1
    rw [fX12_meeting_22] at h
    refine r_iload_n (x := v2) dX12_meeting_22 rfl ?_
    refine r_sipush (v := 5000) dX12_meeting_23 rfl ?_
    refine r_icmp_gt (tgt := 114) dX12_meeting_26 (by decide) (fun c9 => ?_) (fun c9 => ?_)
    · rw [if_pos c9] at h
      cases h
      exact k0 rfl
    · rw [if_neg c9] at h
      refine r_aload_n (x := 80) dX12_meeting_29 rfl ?_
      refine r_aload_n (x := 80) dX12_meeting_30 rfl ?_
      refine r_getfield (o := 80) (v := .ref 100) dX12_meeting_31 lX12_81 ck80 nC80 rfl ?_
      refine r_aload_n (x := 80) dX12_meeting_34 rfl ?_
      refine r_getfield (o := 80) (v := .ref 103) dX12_meeting_35 lX12_90 ck80 nC80 rfl ?_
      obtain ⟨S11, h12, h⟩ := bV_e h
      refine r_cVV (y := mX12_copies) (As := [.ref 100, .ref 103]) (rest := []) dX12_meeting_38 qX12_272 kX12_copies rfl ob80 vc12 rfl (okX12_copies N 100 103 S S11 h12) (by decide) hu rfl (Nat.le_of_ble_eq_true rfl) ?_
      refine r_aload_n (x := 80) dX12_meeting_41 rfl ?_
      refine r_iload_n (x := v2) dX12_meeting_42 rfl ?_
      obtain ⟨S14, h15, h⟩ := bV_e h
      refine r_cVV (y := mX12_flows) (As := [.int v2]) (rest := []) dX12_meeting_43 qX12_400 kX12_flows rfl ob80 vc12 rfl (okX12_flows N v2 S11 S14 h15) (by decide) hu rfl (Nat.le_of_ble_eq_true rfl) ?_
      refine r_iconst (v := 1) dX12_meeting_46 rfl ?_
      refine r_istore_n (L' := [some (.ref 80), some (.int v1), some (.int v2), some (.int 1), none]) dX12_meeting_47 (Nat.le_of_ble_eq_true rfl) rfl rfl ?_
      refine r_iconst (v := 0) dX12_meeting_48 rfl ?_
      refine r_istore (L' := [some (.ref 80), some (.int v1), some (.int v2), some (.int 1), some (.int 0)]) dX12_meeting_49 (Nat.le_of_ble_eq_true rfl) rfl rfl ?_
      obtain ⟨⟨x27, x28, S29⟩, h31, h⟩ := bT_e h
      dsimp only at h
      replace h := pl_s (pl_s (pl_s (h)))
      refine okX12_meeting_51 N v1 v2 Q u hu _ _ _ _ _ _ _ h31 ?_
      refine r_iload_n (x := x27) dX12_meeting_102 rfl ?_
      refine r_if_eq (tgt := 108) dX12_meeting_103 (by decide) (fun c32 => ?_) (fun c32 => ?_)
      · rw [if_pos c32] at h
        obtain ⟨x33, hx33⟩ : ∃ y : Int32, y = (v2 + 1 : Int32) := ⟨_, rfl⟩
        replace h := lt_e hx33 h
        refine r_iinc (x := v2) (v := x33) (L' := [some (.ref 80), some (.int v1), some (.int x33), some (.int x27), some (.int x28)]) dX12_meeting_108 rfl (by rw [hx33]; rfl) (Nat.le_of_ble_eq_true rfl) rfl rfl ?_
        refine r_goto (tgt := 22) dX12_meeting_111 (by decide) ?_
        refine r_drop [true, true, true, false, false] rfl ?_
        exact ih _ _ _ _ _ h k0 k1
      · rw [if_neg c32] at h
        cases h
        refine r_drop [true, true, true, false, false] rfl ?_
        exact k1 rfl
def fX12_meeting (N : Nat) (p0 : Int32) (S : PS) : Option (Int32 × PS) :=
  lt ((u2 S.1 80 0 0, S.2) : PS) fun S1 =>
  bI (fX12_isSome N p0 S1) fun x2 S3 =>
  (if x2 = 0 then
    some (0, S3)
  else
    bV (fX12_flows N 0 S3) fun S7 =>
    bT (fX12_meeting_22 N p0 N 1 S7) fun q34 =>
    lt (q34.1 : Nat) fun t37 =>
    lt (q34.2.1 : Int32) fun x35 =>
    lt (q34.2.2 : PS) fun S36 =>
    (if t37 = 0 then
      some ((-1), S36)
    else 
      some (x35, S36)))
set_option maxHeartbeats 4000000 in
set_option maxRecDepth 100000 in
theorem okX12_meeting (N : Nat) (p0 : Int32) (S : PS) (r : Int32) (T : PS) (h : fX12_meeting N p0 S = some (r, T)) : CT mX12_meeting 2 0 [.ref 80, .int p0] S (qI r T) := by
  refine ct_of [some (.ref 80), some (.int p0), none, none, none] rfl (fun _ => rfl) (fun _ => Nat.le_of_ble_eq_true rfl) ?_
  unfold fX12_meeting at h
  refine r_aload_n (x := 80) dX12_meeting_0 rfl ?_
  refine r_iconst (v := 0) dX12_meeting_1 rfl ?_
  refine r_putI dX12_meeting_2 lX12_114 ck80 nC80 ?_
  refine r_topS (fun S1 hS1 => ?_)
  replace h := lt_e hS1 h
  refine r_aload_n (x := 80) dX12_meeting_5 rfl ?_
  refine r_iload_n (x := p0) dX12_meeting_6 rfl ?_
  obtain ⟨x2, S3, h4, h⟩ := bI_e h
  refine r_cVI (y := mX12_isSome) (As := [.int p0]) (rest := []) dX12_meeting_7 qX12_390 kX12_isSome rfl ob80 vc12 rfl (okX12_isSome N p0 S1 x2 S3 h4) (by decide) (Nat.zero_le _) rfl (Nat.le_of_ble_eq_true rfl) ?_
  refine r_if_ne (tgt := 15) dX12_meeting_10 (by decide) (fun c5 => ?_) (fun c5 => ?_)
  · rw [if_neg c5] at h
    refine r_aload_n (x := 80) dX12_meeting_15 rfl ?_
    refine r_iconst (v := 0) dX12_meeting_16 rfl ?_
    obtain ⟨S7, h8, h⟩ := bV_e h
    refine r_cVV (y := mX12_flows) (As := [.int 0]) (rest := []) dX12_meeting_17 qX12_400 kX12_flows rfl ob80 vc12 rfl (okX12_flows N 0 S3 S7 h8) (by decide) (Nat.zero_le _) rfl (Nat.le_of_ble_eq_true rfl) ?_
    refine r_iconst (v := 1) dX12_meeting_20 rfl ?_
    refine r_istore_n (L' := [some (.ref 80), some (.int p0), some (.int 1), none, none]) dX12_meeting_21 (Nat.le_of_ble_eq_true rfl) rfl rfl ?_
    obtain ⟨⟨t37, x35, S36⟩, h38, h⟩ := bT_e h
    dsimp only at h
    replace h := pl_s (pl_s (pl_s (h)))
    refine okX12_meeting_22 N p0 (qI r T) 0 (Nat.zero_le _) _ _ _ _ _ _ h38 (fun et37 => ?_) (fun et37 => ?_)
    · rw [if_pos et37] at h
      refine r_iconst (v := (-1)) dX12_meeting_114 rfl ?_
      cases h
      exact r_ireturn dX12_meeting_115 rfl (Nat.zero_le _) ⟨rfl, rfl⟩
    · rw [if_neg (by rw [et37]; decide)] at h
      refine r_iload_n (x := x35) dX12_meeting_106 rfl ?_
      cases h
      exact r_ireturn dX12_meeting_107 rfl (Nat.zero_le _) ⟨rfl, rfl⟩
  · rw [if_pos c5] at h
    refine r_iconst (v := 0) dX12_meeting_13 rfl ?_
    cases h
    exact r_ireturn dX12_meeting_14 rfl (Nat.zero_le _) ⟨rfl, rfl⟩
def fX12_giver_41 (N : Nat) (v1 : Int32) (v2 : Int32) : Nat → Int32 → Int32 → PS → Option (Int32 × Int32 × PS)
  | 0, _, _, _ => none
  | n + 1, v3, v4, S =>
    (if v1 ≤ v4 then
      some (v3, v4, S)
    else
      bI (fX12_goesInto N v4 v1 S) fun x17 S18 =>
      (if x17 = 0 then
        lt (v4 + 1 : Int32) fun x21 =>
        fX12_giver_41 N v1 v2 n v3 x21 S18
      else
        (if v3 = (-1) then
          lt (v4 + 1 : Int32) fun x23 =>
          fX12_giver_41 N v1 v2 n v4 x23 S18
        else
          bI (fX12_gives N v4 v1 S18) fun x24 S25 =>
          bI (fX12_gives N v3 v1 S25) fun x27 S28 =>
          (if x24 ≤ x27 then
            lt (v4 + 1 : Int32) fun x31 =>
            fX12_giver_41 N v1 v2 n v3 x31 S28
          else
            lt (v4 + 1 : Int32) fun x32 =>
            fX12_giver_41 N v1 v2 n v4 x32 S28))))
set_option maxHeartbeats 4000000 in
set_option maxRecDepth 100000 in
theorem okX12_giver_41 (N : Nat) (v1 : Int32) (v2 : Int32) (Q : OQ) (u : Nat) (hu : u ≤ 0) : ∀ (n : Nat) (v3 : Int32) (v4 : Int32) (S : PS) (y3 : Int32) (y4 : Int32) (T : PS), fX12_giver_41 N v1 v2 n v3 v4 S = some (y3, y4, T) → WP [] mX12_giver 2 0 Q 87 [some (.ref 80), some (.int v1), some (.int v2), some (.int y3), some (.int y4)] [] T u → WP [] mX12_giver 2 0 Q 41 [some (.ref 80), some (.int v1), some (.int v2), some (.int v3), some (.int v4)] [] S u := by
  intro n
  induction n with
  | zero => intro v3 v4 S y3 y4 T h; rw [fX12_giver_41] at h; cases h
  | succ n ih =>
    intro v3 v4 S y3 y4 T h k0
    rw [fX12_giver_41] at h
    refine r_iload (x := v4) dX12_giver_41 rfl ?_
    refine r_iload_n (x := v1) dX12_giver_43 rfl ?_
    refine r_icmp_ge (tgt := 87) dX12_giver_44 (by decide) (fun c16 => ?_) (fun c16 => ?_)
    · rw [if_pos c16] at h
      cases h
      exact k0
    · rw [if_neg c16] at h
      refine r_aload_n (x := 80) dX12_giver_47 rfl ?_
      refine r_iload (x := v4) dX12_giver_48 rfl ?_
      refine r_iload_n (x := v1) dX12_giver_50 rfl ?_
      obtain ⟨x17, S18, h19, h⟩ := bI_e h
      refine r_cVI (y := mX12_goesInto) (As := [.int v4, .int v1]) (rest := []) dX12_giver_51 qX12_329 kX12_goesInto rfl ob80 vc12 rfl (okX12_goesInto N v4 v1 S x17 S18 h19) (by decide) hu rfl (Nat.le_of_ble_eq_true rfl) ?_
      refine r_if_eq (tgt := 81) dX12_giver_54 (by decide) (fun c20 => ?_) (fun c20 => ?_)
      · rw [if_pos c20] at h
        obtain ⟨x21, hx21⟩ : ∃ y : Int32, y = (v4 + 1 : Int32) := ⟨_, rfl⟩
        replace h := lt_e hx21 h
        refine r_iinc (x := v4) (v := x21) (L' := [some (.ref 80), some (.int v1), some (.int v2), some (.int v3), some (.int x21)]) dX12_giver_81 rfl (by rw [hx21]; rfl) (Nat.le_of_ble_eq_true rfl) rfl rfl ?_
        refine r_goto (tgt := 41) dX12_giver_84 (by decide) ?_
        exact ih _ _ _ _ _ _ h k0
      · rw [if_neg c20] at h
        refine r_iload_n (x := v3) dX12_giver_57 rfl ?_
        refine r_iconst (v := (-1)) dX12_giver_58 rfl ?_
        refine r_icmp_eq (tgt := 78) dX12_giver_59 (by decide) (fun c22 => ?_) (fun c22 => ?_)
        · rw [if_pos c22] at h
          refine r_iload (x := v4) dX12_giver_78 rfl ?_
          refine r_istore_n (L' := [some (.ref 80), some (.int v1), some (.int v2), some (.int v4), some (.int v4)]) dX12_giver_80 (Nat.le_of_ble_eq_true rfl) rfl rfl ?_
          obtain ⟨x23, hx23⟩ : ∃ y : Int32, y = (v4 + 1 : Int32) := ⟨_, rfl⟩
          replace h := lt_e hx23 h
          refine r_iinc (x := v4) (v := x23) (L' := [some (.ref 80), some (.int v1), some (.int v2), some (.int v4), some (.int x23)]) dX12_giver_81 rfl (by rw [hx23]; rfl) (Nat.le_of_ble_eq_true rfl) rfl rfl ?_
          refine r_goto (tgt := 41) dX12_giver_84 (by decide) ?_
          exact ih _ _ _ _ _ _ h k0
        · rw [if_neg c22] at h
          refine r_aload_n (x := 80) dX12_giver_62 rfl ?_
          refine r_iload (x := v4) dX12_giver_63 rfl ?_
          refine r_iload_n (x := v1) dX12_giver_65 rfl ?_
          obtain ⟨x24, S25, h26, h⟩ := bI_e h
          refine r_cVI (y := mX12_gives) (As := [.int v4, .int v1]) (rest := []) dX12_giver_66 qX12_396 kX12_gives rfl ob80 vc12 rfl (okX12_gives N v4 v1 S18 x24 S25 h26) (by decide) hu rfl (Nat.le_of_ble_eq_true rfl) ?_
          refine r_aload_n (x := 80) dX12_giver_69 rfl ?_
          refine r_iload_n (x := v3) dX12_giver_70 rfl ?_
          refine r_iload_n (x := v1) dX12_giver_71 rfl ?_
          obtain ⟨x27, S28, h29, h⟩ := bI_e h
          refine r_cVI (y := mX12_gives) (As := [.int v3, .int v1]) (rest := [.int x24]) dX12_giver_72 qX12_396 kX12_gives rfl ob80 vc12 rfl (okX12_gives N v3 v1 S25 x27 S28 h29) (by decide) hu rfl (Nat.le_of_ble_eq_true rfl) ?_
          refine r_icmp_le (tgt := 81) dX12_giver_75 (by decide) (fun c30 => ?_) (fun c30 => ?_)
          · rw [if_pos c30] at h
            obtain ⟨x31, hx31⟩ : ∃ y : Int32, y = (v4 + 1 : Int32) := ⟨_, rfl⟩
            replace h := lt_e hx31 h
            refine r_iinc (x := v4) (v := x31) (L' := [some (.ref 80), some (.int v1), some (.int v2), some (.int v3), some (.int x31)]) dX12_giver_81 rfl (by rw [hx31]; rfl) (Nat.le_of_ble_eq_true rfl) rfl rfl ?_
            refine r_goto (tgt := 41) dX12_giver_84 (by decide) ?_
            exact ih _ _ _ _ _ _ h k0
          · rw [if_neg c30] at h
            refine r_iload (x := v4) dX12_giver_78 rfl ?_
            refine r_istore_n (L' := [some (.ref 80), some (.int v1), some (.int v2), some (.int v4), some (.int v4)]) dX12_giver_80 (Nat.le_of_ble_eq_true rfl) rfl rfl ?_
            obtain ⟨x32, hx32⟩ : ∃ y : Int32, y = (v4 + 1 : Int32) := ⟨_, rfl⟩
            replace h := lt_e hx32 h
            refine r_iinc (x := v4) (v := x32) (L' := [some (.ref 80), some (.int v1), some (.int v2), some (.int v4), some (.int x32)]) dX12_giver_81 rfl (by rw [hx32]; rfl) (Nat.le_of_ble_eq_true rfl) rfl rfl ?_
            refine r_goto (tgt := 41) dX12_giver_84 (by decide) ?_
            exact ih _ _ _ _ _ _ h k0
def fX12_giver (N : Nat) (p0 : Int32) (p1 : Int32) (S : PS) : Option (Int32 × PS) :=
  lt ((u2 S.1 80 0 0, S.2) : PS) fun S1 =>
  bI (fX12_isCup N p0 S1) fun x2 S3 =>
  (if x2 = 0 then
    some (0, S3)
  else
    bI (fX12_within N p1 0 1000000 S3) fun x6 S7 =>
    bI (fX12_right N x6 2 S7) fun x9 S10 =>
    (if x9 = 0 then
      some (0, S10)
    else
      bV (fX12_flows N p1 S10) fun S14 =>
      bT (fX12_giver_41 N p0 p1 N (-1) 0 S14) fun q33 =>
      lt (q33.1 : Int32) fun x34 =>
      lt (q33.2.1 : Int32) fun x35 =>
      lt (q33.2.2 : PS) fun S36 =>
      some (x34, S36)))
set_option maxHeartbeats 4000000 in
set_option maxRecDepth 100000 in
theorem okX12_giver (N : Nat) (p0 : Int32) (p1 : Int32) (S : PS) (r : Int32) (T : PS) (h : fX12_giver N p0 p1 S = some (r, T)) : CT mX12_giver 2 0 [.ref 80, .int p0, .int p1] S (qI r T) := by
  refine ct_of [some (.ref 80), some (.int p0), some (.int p1), none, none] rfl (fun _ => rfl) (fun _ => Nat.le_of_ble_eq_true rfl) ?_
  unfold fX12_giver at h
  refine r_aload_n (x := 80) dX12_giver_0 rfl ?_
  refine r_iconst (v := 0) dX12_giver_1 rfl ?_
  refine r_putI dX12_giver_2 lX12_114 ck80 nC80 ?_
  refine r_topS (fun S1 hS1 => ?_)
  replace h := lt_e hS1 h
  refine r_aload_n (x := 80) dX12_giver_5 rfl ?_
  refine r_iload_n (x := p0) dX12_giver_6 rfl ?_
  obtain ⟨x2, S3, h4, h⟩ := bI_e h
  refine r_cVI (y := mX12_isCup) (As := [.int p0]) (rest := []) dX12_giver_7 qX12_351 kX12_isCup rfl ob80 vc12 rfl (okX12_isCup N p0 S1 x2 S3 h4) (by decide) (Nat.zero_le _) rfl (Nat.le_of_ble_eq_true rfl) ?_
  refine r_if_eq (tgt := 29) dX12_giver_10 (by decide) (fun c5 => ?_) (fun c5 => ?_)
  · rw [if_pos c5] at h
    refine r_iconst (v := 0) dX12_giver_29 rfl ?_
    cases h
    exact r_ireturn dX12_giver_30 rfl (Nat.zero_le _) ⟨rfl, rfl⟩
  · rw [if_neg c5] at h
    refine r_aload_n (x := 80) dX12_giver_13 rfl ?_
    refine r_iload_n (x := p1) dX12_giver_14 rfl ?_
    refine r_iconst (v := 0) dX12_giver_15 rfl ?_
    refine r_ldcw (v := 1000000) dX12_giver_16 kX12_399 ?_
    obtain ⟨x6, S7, h8, h⟩ := bI_e h
    refine r_cSI (y := mX12_within) (As := [.int p1, .int 0, .int 1000000]) (rest := [.ref 80]) dX12_giver_19 qX12_332 kX12_within rfl (okX12_within N p1 0 1000000 S3 x6 S7 h8) (by decide) (Nat.zero_le _) rfl (Nat.le_of_ble_eq_true rfl) ?_
    refine r_iconst (v := 2) dX12_giver_22 rfl ?_
    obtain ⟨x9, S10, h11, h⟩ := bI_e h
    refine r_cVI (y := mX12_right) (As := [.int x6, .int 2]) (rest := []) dX12_giver_23 qX12_262 kX12_right rfl ob80 vc12 rfl (okX12_right N x6 2 S7 x9 S10 h11) (by decide) (Nat.zero_le _) rfl (Nat.le_of_ble_eq_true rfl) ?_
    refine r_if_ne (tgt := 31) dX12_giver_26 (by decide) (fun c12 => ?_) (fun c12 => ?_)
    · rw [if_neg c12] at h
      refine r_aload_n (x := 80) dX12_giver_31 rfl ?_
      refine r_iload_n (x := p1) dX12_giver_32 rfl ?_
      obtain ⟨S14, h15, h⟩ := bV_e h
      refine r_cVV (y := mX12_flows) (As := [.int p1]) (rest := []) dX12_giver_33 qX12_400 kX12_flows rfl ob80 vc12 rfl (okX12_flows N p1 S10 S14 h15) (by decide) (Nat.zero_le _) rfl (Nat.le_of_ble_eq_true rfl) ?_
      refine r_iconst (v := (-1)) dX12_giver_36 rfl ?_
      refine r_istore_n (L' := [some (.ref 80), some (.int p0), some (.int p1), some (.int (-1)), none]) dX12_giver_37 (Nat.le_of_ble_eq_true rfl) rfl rfl ?_
      refine r_iconst (v := 0) dX12_giver_38 rfl ?_
      refine r_istore (L' := [some (.ref 80), some (.int p0), some (.int p1), some (.int (-1)), some (.int 0)]) dX12_giver_39 (Nat.le_of_ble_eq_true rfl) rfl rfl ?_
      obtain ⟨⟨x34, x35, S36⟩, h38, h⟩ := bT_e h
      dsimp only at h
      replace h := pl_s (pl_s (pl_s (h)))
      refine okX12_giver_41 N p0 p1 (qI r T) 0 (Nat.zero_le _) _ _ _ _ _ _ _ h38 ?_
      refine r_iload_n (x := x34) dX12_giver_87 rfl ?_
      cases h
      exact r_ireturn dX12_giver_88 rfl (Nat.zero_le _) ⟨rfl, rfl⟩
    · rw [if_pos c12] at h
      refine r_iconst (v := 0) dX12_giver_29 rfl ?_
      cases h
      exact r_ireturn dX12_giver_30 rfl (Nat.zero_le _) ⟨rfl, rfl⟩
def fX12_office_93 (N : Nat) (v1 : Int32) (v2 : Int32) (v4 : Int32) (v5 : Int32) : Nat → Int32 → PS → Option (Int32 × PS)
  | 0, _, _ => none
  | n + 1, v3, S =>
    (if (((S.1 80 38) >>> (v3 &&& 31)) &&& 1) = 0 then
      lt (v3 + 1 : Int32) fun x24 =>
      fX12_office_93 N v1 v2 v4 v5 n x24 S
    else
      some (v3, S))
set_option maxHeartbeats 4000000 in
set_option maxRecDepth 100000 in
theorem okX12_office_93 (N : Nat) (v1 : Int32) (v2 : Int32) (v4 : Int32) (v5 : Int32) (Q : OQ) (u : Nat) (hu : u ≤ 0) : ∀ (n : Nat) (v3 : Int32) (S : PS) (y3 : Int32) (T : PS), fX12_office_93 N v1 v2 v4 v5 n v3 S = some (y3, T) → WP [] mX12_office 5 0 Q 110 [some (.ref 80), some (.int v1), some (.int v2), some (.int y3), some (.int v4), some (.int v5)] [] T u → WP [] mX12_office 5 0 Q 93 [some (.ref 80), some (.int v1), some (.int v2), some (.int v3), some (.int v4), some (.int v5)] [] S u := by
  intro n
  induction n with
  | zero => intro v3 S y3 T h; rw [fX12_office_93] at h; cases h
  | succ n ih =>
    intro v3 S y3 T h k0
    rw [fX12_office_93] at h
    refine r_aload_n (x := 80) dX12_office_93 rfl ?_
    refine r_getfield (o := 80) (v := .int (S.1 80 38)) dX12_office_94 lX12_300 ck80 nC80 rfl ?_
    refine r_iload_n (x := v3) dX12_office_97 rfl ?_
    refine r_ishr dX12_office_98 ?_
    refine r_iconst (v := 1) dX12_office_99 rfl ?_
    refine r_iand dX12_office_100 ?_
    refine r_if_ne (tgt := 110) dX12_office_101 (by decide) (fun c23 => ?_) (fun c23 => ?_)
    · rw [if_neg c23] at h
      cases h
      exact k0
    · rw [if_pos c23] at h
      obtain ⟨x24, hx24⟩ : ∃ y : Int32, y = (v3 + 1 : Int32) := ⟨_, rfl⟩
      replace h := lt_e hx24 h
      refine r_iinc (x := v3) (v := x24) (L' := [some (.ref 80), some (.int v1), some (.int v2), some (.int x24), some (.int v4), some (.int v5)]) dX12_office_104 rfl (by rw [hx24]; rfl) (Nat.le_of_ble_eq_true rfl) rfl rfl ?_
      refine r_goto (tgt := 93) dX12_office_107 (by decide) ?_
      exact ih _ _ _ _ h k0
def fX12_office_43 (N : Nat) (v1 : Int32) (v2 : Int32) : Nat → Int32 → Int32 → Int32 → PS → Option (Int32 × Int32 × Int32 × PS)
  | 0, _, _, _, _ => none
  | n + 1, v3, v4, v5, S =>
    (if 120 < v5 then
      some (v3, v4, v5, S)
    else
      bV (fX12_hourGoes N 64 S) fun S18 =>
      (if (S18.1 80 38) = 0 then
        lt (v5 + 1 : Int32) fun x21 =>
        fX12_office_43 N v1 v2 n v3 v4 x21 S18
      else
        (if v4 = (-1) then
          bT (fX12_office_93 N v1 v2 v5 v5 N 0 S18) fun q25 =>
          lt (q25.1 : Int32) fun x26 =>
          lt (q25.2 : PS) fun S27 =>
          lt (v5 + 1 : Int32) fun x30 =>
          fX12_office_43 N v1 v2 n x26 v5 x30 S27
        else
          bI (fX12_offBy N v5 v1 S18) fun x31 S32 =>
          bI (fX12_offBy N v4 v1 S32) fun x34 S35 =>
          (if x31 < x34 then
            bT (fX12_office_93 N v1 v2 v5 v5 N 0 S35) fun q38 =>
            lt (q38.1 : Int32) fun x39 =>
            lt (q38.2 : PS) fun S40 =>
            lt (v5 + 1 : Int32) fun x43 =>
            fX12_office_43 N v1 v2 n x39 v5 x43 S40
          else
            lt (v5 + 1 : Int32) fun x44 =>
            fX12_office_43 N v1 v2 n v3 v4 x44 S35))))
set_option maxHeartbeats 4000000 in
set_option maxRecDepth 100000 in
theorem okX12_office_43 (N : Nat) (v1 : Int32) (v2 : Int32) (Q : OQ) (u : Nat) (hu : u ≤ 0) : ∀ (n : Nat) (v3 : Int32) (v4 : Int32) (v5 : Int32) (S : PS) (y3 : Int32) (y4 : Int32) (y5 : Int32) (T : PS), fX12_office_43 N v1 v2 n v3 v4 v5 S = some (y3, y4, y5, T) → WP [] mX12_office 5 0 Q 116 [some (.ref 80), some (.int v1), some (.int v2), some (.int y3), some (.int y4), some (.int y5)] [] T u → WP [] mX12_office 5 0 Q 43 [some (.ref 80), some (.int v1), some (.int v2), some (.int v3), some (.int v4), some (.int v5)] [] S u := by
  intro n
  induction n with
  | zero => intro v3 v4 v5 S y3 y4 y5 T h; rw [fX12_office_43] at h; cases h
  | succ n ih =>
    intro v3 v4 v5 S y3 y4 y5 T h k0
    rw [fX12_office_43] at h
    refine r_iload (x := v5) dX12_office_43 rfl ?_
    refine r_bipush (v := 120) dX12_office_45 rfl ?_
    refine r_icmp_gt (tgt := 116) dX12_office_47 (by decide) (fun c16 => ?_) (fun c16 => ?_)
    · rw [if_pos c16] at h
      cases h
      exact k0
    · rw [if_neg c16] at h
      refine r_aload_n (x := 80) dX12_office_50 rfl ?_
      refine r_bipush (v := 64) dX12_office_51 rfl ?_
      obtain ⟨S18, h19, h⟩ := bV_e h
      refine r_cVV (y := mX12_hourGoes) (As := [.int 64]) (rest := []) dX12_office_53 qX12_323 kX12_hourGoes rfl ob80 vc12 rfl (okX12_hourGoes N 64 S S18 h19) (by decide) hu rfl (Nat.le_of_ble_eq_true rfl) ?_
      refine r_aload_n (x := 80) dX12_office_56 rfl ?_
      refine r_getfield (o := 80) (v := .int (S18.1 80 38)) dX12_office_57 lX12_300 ck80 nC80 rfl ?_
      refine r_if_eq (tgt := 110) dX12_office_60 (by decide) (fun c20 => ?_) (fun c20 => ?_)
      · rw [if_pos c20] at h
        obtain ⟨x21, hx21⟩ : ∃ y : Int32, y = (v5 + 1 : Int32) := ⟨_, rfl⟩
        replace h := lt_e hx21 h
        refine r_iinc (x := v5) (v := x21) (L' := [some (.ref 80), some (.int v1), some (.int v2), some (.int v3), some (.int v4), some (.int x21)]) dX12_office_110 rfl (by rw [hx21]; rfl) (Nat.le_of_ble_eq_true rfl) rfl rfl ?_
        refine r_goto (tgt := 43) dX12_office_113 (by decide) ?_
        exact ih _ _ _ _ _ _ _ _ h k0
      · rw [if_neg c20] at h
        refine r_iload (x := v4) dX12_office_63 rfl ?_
        refine r_iconst (v := (-1)) dX12_office_65 rfl ?_
        refine r_icmp_eq (tgt := 87) dX12_office_66 (by decide) (fun c22 => ?_) (fun c22 => ?_)
        · rw [if_pos c22] at h
          refine r_iload (x := v5) dX12_office_87 rfl ?_
          refine r_istore (L' := [some (.ref 80), some (.int v1), some (.int v2), some (.int v3), some (.int v5), some (.int v5)]) dX12_office_89 (Nat.le_of_ble_eq_true rfl) rfl rfl ?_
          refine r_iconst (v := 0) dX12_office_91 rfl ?_
          refine r_istore_n (L' := [some (.ref 80), some (.int v1), some (.int v2), some (.int 0), some (.int v5), some (.int v5)]) dX12_office_92 (Nat.le_of_ble_eq_true rfl) rfl rfl ?_
          obtain ⟨⟨x26, S27⟩, h29, h⟩ := bT_e h
          dsimp only at h
          replace h := pl_s (pl_s (h))
          refine okX12_office_93 N v1 v2 v5 v5 Q u hu _ _ _ _ _ h29 ?_
          obtain ⟨x30, hx30⟩ : ∃ y : Int32, y = (v5 + 1 : Int32) := ⟨_, rfl⟩
          replace h := lt_e hx30 h
          refine r_iinc (x := v5) (v := x30) (L' := [some (.ref 80), some (.int v1), some (.int v2), some (.int x26), some (.int v5), some (.int x30)]) dX12_office_110 rfl (by rw [hx30]; rfl) (Nat.le_of_ble_eq_true rfl) rfl rfl ?_
          refine r_goto (tgt := 43) dX12_office_113 (by decide) ?_
          exact ih _ _ _ _ _ _ _ _ h k0
        · rw [if_neg c22] at h
          refine r_iload (x := v5) dX12_office_69 rfl ?_
          refine r_iload_n (x := v1) dX12_office_71 rfl ?_
          obtain ⟨x31, S32, h33, h⟩ := bI_e h
          refine r_cSI (y := mX12_offBy) (As := [.int v5, .int v1]) (rest := []) dX12_office_72 qX12_405 kX12_offBy rfl (okX12_offBy N v5 v1 S18 x31 S32 h33) (by decide) hu rfl (Nat.le_of_ble_eq_true rfl) ?_
          refine r_iload (x := v4) dX12_office_75 rfl ?_
          refine r_iload_n (x := v1) dX12_office_77 rfl ?_
          obtain ⟨x34, S35, h36, h⟩ := bI_e h
          refine r_cSI (y := mX12_offBy) (As := [.int v4, .int v1]) (rest := [.int x31]) dX12_office_78 qX12_405 kX12_offBy rfl (okX12_offBy N v4 v1 S32 x34 S35 h36) (by decide) hu rfl (Nat.le_of_ble_eq_true rfl) ?_
          refine r_icmp_lt (tgt := 87) dX12_office_81 (by decide) (fun c37 => ?_) (fun c37 => ?_)
          · rw [if_pos c37] at h
            refine r_iload (x := v5) dX12_office_87 rfl ?_
            refine r_istore (L' := [some (.ref 80), some (.int v1), some (.int v2), some (.int v3), some (.int v5), some (.int v5)]) dX12_office_89 (Nat.le_of_ble_eq_true rfl) rfl rfl ?_
            refine r_iconst (v := 0) dX12_office_91 rfl ?_
            refine r_istore_n (L' := [some (.ref 80), some (.int v1), some (.int v2), some (.int 0), some (.int v5), some (.int v5)]) dX12_office_92 (Nat.le_of_ble_eq_true rfl) rfl rfl ?_
            obtain ⟨⟨x39, S40⟩, h42, h⟩ := bT_e h
            dsimp only at h
            replace h := pl_s (pl_s (h))
            refine okX12_office_93 N v1 v2 v5 v5 Q u hu _ _ _ _ _ h42 ?_
            obtain ⟨x43, hx43⟩ : ∃ y : Int32, y = (v5 + 1 : Int32) := ⟨_, rfl⟩
            replace h := lt_e hx43 h
            refine r_iinc (x := v5) (v := x43) (L' := [some (.ref 80), some (.int v1), some (.int v2), some (.int x39), some (.int v5), some (.int x43)]) dX12_office_110 rfl (by rw [hx43]; rfl) (Nat.le_of_ble_eq_true rfl) rfl rfl ?_
            refine r_goto (tgt := 43) dX12_office_113 (by decide) ?_
            exact ih _ _ _ _ _ _ _ _ h k0
          · rw [if_neg c37] at h
            refine r_goto (tgt := 110) dX12_office_84 (by decide) ?_
            obtain ⟨x44, hx44⟩ : ∃ y : Int32, y = (v5 + 1 : Int32) := ⟨_, rfl⟩
            replace h := lt_e hx44 h
            refine r_iinc (x := v5) (v := x44) (L' := [some (.ref 80), some (.int v1), some (.int v2), some (.int v3), some (.int v4), some (.int x44)]) dX12_office_110 rfl (by rw [hx44]; rfl) (Nat.le_of_ble_eq_true rfl) rfl rfl ?_
            refine r_goto (tgt := 43) dX12_office_113 (by decide) ?_
            exact ih _ _ _ _ _ _ _ _ h k0
def fX12_office (N : Nat) (p0 : Int32) (p1 : Int32) (S : PS) : Option (Int32 × PS) :=
  lt ((u2 S.1 80 0 0, S.2) : PS) fun S1 =>
  bI (fX12_isWhat N p1 1 S1) fun x2 S3 =>
  (if x2 = 0 then
    some (0, S3)
  else
    bI (fX12_within N p0 1 60 S3) fun x6 S7 =>
    bI (fX12_right N x6 2 S7) fun x9 S10 =>
    (if x9 = 0 then
      some (0, S10)
    else
      bV (fX12_tries N  S10) fun S14 =>
      bT (fX12_office_43 N p0 p1 N (-1) (-1) 1 S14) fun q45 =>
      lt (q45.1 : Int32) fun x46 =>
      lt (q45.2.1 : Int32) fun x47 =>
      lt (q45.2.2.1 : Int32) fun x48 =>
      lt (q45.2.2.2 : PS) fun S49 =>
      lt ((if p1 = 0 then x46 else x47) : Int32) fun x53 =>
      some (x53, S49)))
set_option maxHeartbeats 4000000 in
set_option maxRecDepth 100000 in
theorem okX12_office (N : Nat) (p0 : Int32) (p1 : Int32) (S : PS) (r : Int32) (T : PS) (h : fX12_office N p0 p1 S = some (r, T)) : CT mX12_office 5 0 [.ref 80, .int p0, .int p1] S (qI r T) := by
  refine ct_of [some (.ref 80), some (.int p0), some (.int p1), none, none, none] rfl (fun _ => rfl) (fun _ => Nat.le_of_ble_eq_true rfl) ?_
  unfold fX12_office at h
  refine r_aload_n (x := 80) dX12_office_0 rfl ?_
  refine r_iconst (v := 0) dX12_office_1 rfl ?_
  refine r_putI dX12_office_2 lX12_114 ck80 nC80 ?_
  refine r_topS (fun S1 hS1 => ?_)
  replace h := lt_e hS1 h
  refine r_aload_n (x := 80) dX12_office_5 rfl ?_
  refine r_iload_n (x := p1) dX12_office_6 rfl ?_
  refine r_iconst (v := 1) dX12_office_7 rfl ?_
  obtain ⟨x2, S3, h4, h⟩ := bI_e h
  refine r_cVI (y := mX12_isWhat) (As := [.int p1, .int 1]) (rest := []) dX12_office_8 qX12_354 kX12_isWhat rfl ob80 vc12 rfl (okX12_isWhat N p1 1 S1 x2 S3 h4) (by decide) (Nat.zero_le _) rfl (Nat.le_of_ble_eq_true rfl) ?_
  refine r_if_eq (tgt := 29) dX12_office_11 (by decide) (fun c5 => ?_) (fun c5 => ?_)
  · rw [if_pos c5] at h
    refine r_iconst (v := 0) dX12_office_29 rfl ?_
    cases h
    exact r_ireturn dX12_office_30 rfl (Nat.zero_le _) ⟨rfl, rfl⟩
  · rw [if_neg c5] at h
    refine r_aload_n (x := 80) dX12_office_14 rfl ?_
    refine r_iload_n (x := p0) dX12_office_15 rfl ?_
    refine r_iconst (v := 1) dX12_office_16 rfl ?_
    refine r_bipush (v := 60) dX12_office_17 rfl ?_
    obtain ⟨x6, S7, h8, h⟩ := bI_e h
    refine r_cSI (y := mX12_within) (As := [.int p0, .int 1, .int 60]) (rest := [.ref 80]) dX12_office_19 qX12_332 kX12_within rfl (okX12_within N p0 1 60 S3 x6 S7 h8) (by decide) (Nat.zero_le _) rfl (Nat.le_of_ble_eq_true rfl) ?_
    refine r_iconst (v := 2) dX12_office_22 rfl ?_
    obtain ⟨x9, S10, h11, h⟩ := bI_e h
    refine r_cVI (y := mX12_right) (As := [.int x6, .int 2]) (rest := []) dX12_office_23 qX12_262 kX12_right rfl ob80 vc12 rfl (okX12_right N x6 2 S7 x9 S10 h11) (by decide) (Nat.zero_le _) rfl (Nat.le_of_ble_eq_true rfl) ?_
    refine r_if_ne (tgt := 31) dX12_office_26 (by decide) (fun c12 => ?_) (fun c12 => ?_)
    · rw [if_neg c12] at h
      refine r_iconst (v := (-1)) dX12_office_31 rfl ?_
      refine r_istore_n (L' := [some (.ref 80), some (.int p0), some (.int p1), some (.int (-1)), none, none]) dX12_office_32 (Nat.le_of_ble_eq_true rfl) rfl rfl ?_
      refine r_iconst (v := (-1)) dX12_office_33 rfl ?_
      refine r_istore (L' := [some (.ref 80), some (.int p0), some (.int p1), some (.int (-1)), some (.int (-1)), none]) dX12_office_34 (Nat.le_of_ble_eq_true rfl) rfl rfl ?_
      refine r_aload_n (x := 80) dX12_office_36 rfl ?_
      obtain ⟨S14, h15, h⟩ := bV_e h
      refine r_cVV (y := mX12_tries) (As := []) (rest := []) dX12_office_37 qX12_381 kX12_tries rfl ob80 vc12 rfl (okX12_tries N  S10 S14 h15) (by decide) (Nat.zero_le _) rfl (Nat.le_of_ble_eq_true rfl) ?_
      refine r_iconst (v := 1) dX12_office_40 rfl ?_
      refine r_istore (L' := [some (.ref 80), some (.int p0), some (.int p1), some (.int (-1)), some (.int (-1)), some (.int 1)]) dX12_office_41 (Nat.le_of_ble_eq_true rfl) rfl rfl ?_
      obtain ⟨⟨x46, x47, x48, S49⟩, h51, h⟩ := bT_e h
      dsimp only at h
      replace h := pl_s (pl_s (pl_s (pl_s (h))))
      refine okX12_office_43 N p0 p1 (qI r T) 0 (Nat.zero_le _) _ _ _ _ _ _ _ _ _ h51 ?_
      refine r_iload_n (x := p1) dX12_office_116 rfl ?_
      obtain ⟨x53, hx53⟩ : ∃ y : Int32, y = ((if p1 = 0 then x46 else x47) : Int32) := ⟨_, rfl⟩
      replace h := lt_e hx53 h
      have keyx53 : WP [] mX12_office 5 0 (qI r T) 126 [some (.ref 80), some (.int p0), some (.int p1), some (.int x46), some (.int x47), some (.int x48)] (.int x53 :: []) S49 0 := by
        cases h
        exact r_ireturn dX12_office_126 rfl (Nat.zero_le _) ⟨rfl, rfl⟩
      refine r_if_ne (tgt := 124) dX12_office_117 (by decide) (fun c52 => ?_) (fun c52 => ?_)
      · refine r_iload (x := x47) dX12_office_124 rfl ?_
        exact r_tope (by rw [hx53, if_neg c52]) keyx53
      · refine r_iload_n (x := x46) dX12_office_120 rfl ?_
        refine r_goto (tgt := 126) dX12_office_121 (by decide) ?_
        exact r_tope (by rw [hx53, if_pos c52]) keyx53
    · rw [if_pos c12] at h
      refine r_iconst (v := 0) dX12_office_29 rfl ?_
      cases h
      exact r_ireturn dX12_office_30 rfl (Nat.zero_le _) ⟨rfl, rfl⟩
