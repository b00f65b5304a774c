def fX0_copy (N : Nat) (p : Nat) (p0 : Nat) (S : PS) : Option PS :=
  gd (obj p0 0) <|
  gd (obj p 0) <|
  gd (obj p0 0) <|
  gd (arr (sr p0 0) 1 1920) <|
  gd (arr (sr p 0) 1 1920) <|
  gd ((0 ≤ (0 : Int32) ∧ 0 ≤ (0 : Int32) ∧ 0 ≤ (((S.1 p0 1) * 48) : Int32)) ∧ ix 0 + ix ((S.1 p0 1) * 48) ≤ 1920 ∧ ix 0 + ix ((S.1 p0 1) * 48) ≤ 1920) <|
  lt ((urow S.1 (sr p 0) (va_cpy (S.1 (sr p0 0)) (S.1 (sr p 0)) (ix 0) (ix 0) (ix ((S.1 p0 1) * 48))), S.2) : PS) fun S7 =>
  gd (obj p0 0) <|
  gd (obj p 0) <|
  lt ((u2 S7.1 p 1 (S7.1 p0 1), S7.2) : PS) fun S10 =>
  some S10
set_option maxHeartbeats 4000000 in
set_option maxRecDepth 100000 in
theorem okX0_copy (N : Nat) (p : Nat) (p0 : Nat) (S : PS) (T : PS) (h : fX0_copy N p p0 S = some T) : CT mX0_copy 3 0 [.ref p, .ref p0] S (qV T) := by
  refine ct_of [some (.ref p), some (.ref p0)] rfl (fun _ => rfl) (fun _ => Nat.le_of_ble_eq_true rfl) ?_
  unfold fX0_copy at h
  refine r_aload_n (x := p0) dX0_copy_0 rfl ?_
  obtain ⟨g1, h⟩ := gd_e h
  refine r_getfield (o := p0) (v := .ref (sr p0 0)) dX0_copy_1 lX0_11 g1.1 g1.2 rfl ?_
  refine r_iconst (v := 0) dX0_copy_4 rfl ?_
  refine r_aload_n (x := p) dX0_copy_5 rfl ?_
  obtain ⟨g2, h⟩ := gd_e h
  refine r_getfield (o := p) (v := .ref (sr p 0)) dX0_copy_6 lX0_11 g2.1 g2.2 rfl ?_
  refine r_iconst (v := 0) dX0_copy_9 rfl ?_
  refine r_aload_n (x := p0) dX0_copy_10 rfl ?_
  obtain ⟨g3, h⟩ := gd_e h
  refine r_getfield (o := p0) (v := .int (S.1 p0 1)) dX0_copy_11 lX0_17 g3.1 g3.2 rfl ?_
  refine r_bipush (v := 48) dX0_copy_14 rfl ?_
  refine r_imul dX0_copy_16 ?_
  obtain ⟨g4, h⟩ := gd_e h
  obtain ⟨g5, h⟩ := gd_e h
  obtain ⟨g6, h⟩ := gd_e h
  refine r_arraycopy (a := (sr p0 0)) (b := (sr p 0)) dX0_copy_17 qX0_21 ⟨g4.1, g4.2⟩ ⟨g5.1, g5.2⟩ g6 (by decide) (Nat.le_of_ble_eq_true rfl) ?_
  refine r_topS (fun S7 hS7 => ?_)
  replace h := lt_e hS7 h
  refine r_aload_n (x := p) dX0_copy_20 rfl ?_
  refine r_aload_n (x := p0) dX0_copy_21 rfl ?_
  obtain ⟨g8, h⟩ := gd_e h
  refine r_getfield (o := p0) (v := .int (S7.1 p0 1)) dX0_copy_22 lX0_17 g8.1 g8.2 rfl ?_
  obtain ⟨g9, h⟩ := gd_e h
  refine r_putI dX0_copy_25 lX0_17 g9.1 g9.2 ?_
  refine r_topS (fun S10 hS10 => ?_)
  replace h := lt_e hS10 h
  cases h
  exact r_return dX0_copy_28 rfl (Nat.zero_le _) ⟨rfl, rfl⟩
def fX1_addCup (N : Nat) (p : Nat) (p0 : Int32) (p1 : Int32) (p2 : Int32) (S : PS) : Option PS :=
  gd (obj p 1) <|
  (if 9 ≤ (S.1 p 4) then
    some S
  else
    gd (obj p 1) <|
    gd (obj (sr p 1) 2) <|
    gd (obj p 1) <|
    gd (arr (sr (sr p 1) 0) 1 9) <|
    gd (inr (S.1 p 4) 9) <|
    lt ((u2 S.1 (sr (sr p 1) 0) (ix (S.1 p 4)) p0, S.2) : PS) fun S8 =>
    gd (obj p 1) <|
    gd (obj (sr p 1) 2) <|
    gd (obj p 1) <|
    gd (arr (sr (sr p 1) 1) 1 9) <|
    gd (inr (S8.1 p 4) 9) <|
    lt ((u2 S8.1 (sr (sr p 1) 1) (ix (S8.1 p 4)) p1, S8.2) : PS) fun S14 =>
    gd (obj p 1) <|
    gd (obj p 1) <|
    gd (arr (sr p 0) 1 9) <|
    gd (inr (S14.1 p 4) 9) <|
    lt ((u2 S14.1 (sr p 0) (ix (S14.1 p 4)) p2, S14.2) : PS) fun S19 =>
    gd (obj p 1) <|
    gd (obj p 1) <|
    lt ((u2 S19.1 p 4 ((S19.1 p 4) + 1), S19.2) : PS) fun S22 =>
    some S22)
set_option maxHeartbeats 4000000 in
set_option maxRecDepth 100000 in
theorem okX1_addCup (N : Nat) (p : Nat) (p0 : Int32) (p1 : Int32) (p2 : Int32) (S : PS) (T : PS) (h : fX1_addCup N p p0 p1 p2 S = some T) : CT mX1_addCup 0 0 [.ref p, .int p0, .int p1, .int p2] S (qV T) := by
  refine ct_of [some (.ref p), some (.int p0), some (.int p1), some (.int p2)] rfl (fun _ => rfl) (fun _ => Nat.le_of_ble_eq_true rfl) ?_
  unfold fX1_addCup at h
  refine r_aload_n (x := p) dX1_addCup_0 rfl ?_
  obtain ⟨g1, h⟩ := gd_e h
  refine r_getfield (o := p) (v := .int (S.1 p 4)) dX1_addCup_1 lX1_32 g1.1 g1.2 rfl ?_
  refine r_bipush (v := 9) dX1_addCup_4 rfl ?_
  refine r_icmp_ge (tgt := 55) dX1_addCup_6 (by decide) (fun c2 => ?_) (fun c2 => ?_)
  · rw [if_pos c2] at h
    cases h
    exact r_return dX1_addCup_55 rfl (Nat.zero_le _) ⟨rfl, rfl⟩
  · rw [if_neg c2] at h
    refine r_aload_n (x := p) dX1_addCup_9 rfl ?_
    obtain ⟨g3, h⟩ := gd_e h
    refine r_getfield (o := p) (v := .ref (sr p 1)) dX1_addCup_10 lX1_18 g3.1 g3.2 rfl ?_
    obtain ⟨g4, h⟩ := gd_e h
    refine r_getfield (o := (sr p 1)) (v := .ref (sr (sr p 1) 0)) dX1_addCup_13 lX1_46 g4.1 g4.2 rfl ?_
    refine r_aload_n (x := p) dX1_addCup_16 rfl ?_
    obtain ⟨g5, h⟩ := gd_e h
    refine r_getfield (o := p) (v := .int (S.1 p 4)) dX1_addCup_17 lX1_32 g5.1 g5.2 rfl ?_
    refine r_iload_n (x := p0) dX1_addCup_20 rfl ?_
    obtain ⟨g6, h⟩ := gd_e h
    obtain ⟨g7, h⟩ := gd_e h
    refine r_iastore (a := (sr (sr p 1) 0)) dX1_addCup_21 g6.1 g6.2 (inr_IX g7) ?_
    refine r_topS (fun S8 hS8 => ?_)
    replace h := lt_e hS8 h
    refine r_aload_n (x := p) dX1_addCup_22 rfl ?_
    obtain ⟨g9, h⟩ := gd_e h
    refine r_getfield (o := p) (v := .ref (sr p 1)) dX1_addCup_23 lX1_18 g9.1 g9.2 rfl ?_
    obtain ⟨g10, h⟩ := gd_e h
    refine r_getfield (o := (sr p 1)) (v := .ref (sr (sr p 1) 1)) dX1_addCup_26 lX1_49 g10.1 g10.2 rfl ?_
    refine r_aload_n (x := p) dX1_addCup_29 rfl ?_
    obtain ⟨g11, h⟩ := gd_e h
    refine r_getfield (o := p) (v := .int (S8.1 p 4)) dX1_addCup_30 lX1_32 g11.1 g11.2 rfl ?_
    refine r_iload_n (x := p1) dX1_addCup_33 rfl ?_
    obtain ⟨g12, h⟩ := gd_e h
    obtain ⟨g13, h⟩ := gd_e h
    refine r_iastore (a := (sr (sr p 1) 1)) dX1_addCup_34 g12.1 g12.2 (inr_IX g13) ?_
    refine r_topS (fun S14 hS14 => ?_)
    replace h := lt_e hS14 h
    refine r_aload_n (x := p) dX1_addCup_35 rfl ?_
    obtain ⟨g15, h⟩ := gd_e h
    refine r_getfield (o := p) (v := .ref (sr p 0)) dX1_addCup_36 lX1_9 g15.1 g15.2 rfl ?_
    refine r_aload_n (x := p) dX1_addCup_39 rfl ?_
    obtain ⟨g16, h⟩ := gd_e h
    refine r_getfield (o := p) (v := .int (S14.1 p 4)) dX1_addCup_40 lX1_32 g16.1 g16.2 rfl ?_
    refine r_iload_n (x := p2) dX1_addCup_43 rfl ?_
    obtain ⟨g17, h⟩ := gd_e h
    obtain ⟨g18, h⟩ := gd_e h
    refine r_iastore (a := (sr p 0)) dX1_addCup_44 g17.1 g17.2 (inr_IX g18) ?_
    refine r_topS (fun S19 hS19 => ?_)
    replace h := lt_e hS19 h
    refine r_aload_n (x := p) dX1_addCup_45 rfl ?_
    refine r_dup_ref dX1_addCup_46 ?_
    obtain ⟨g20, h⟩ := gd_e h
    refine r_getfield (o := p) (v := .int (S19.1 p 4)) dX1_addCup_47 lX1_32 g20.1 g20.2 rfl ?_
    refine r_iconst (v := 1) dX1_addCup_50 rfl ?_
    refine r_iadd dX1_addCup_51 ?_
    obtain ⟨g21, h⟩ := gd_e h
    refine r_putI dX1_addCup_52 lX1_32 g21.1 g21.2 ?_
    refine r_topS (fun S22 hS22 => ?_)
    replace h := lt_e hS22 h
    cases h
    exact r_return dX1_addCup_55 rfl (Nat.zero_le _) ⟨rfl, rfl⟩
def fX2_copy (N : Nat) (p : Nat) (p0 : Nat) (S : PS) : Option PS :=
  gd (obj p0 2) <|
  gd (obj p 2) <|
  gd (arr (sr p0 0) 1 9) <|
  gd (arr (sr p 0) 1 9) <|
  gd ((0 ≤ (0 : Int32) ∧ 0 ≤ (0 : Int32) ∧ 0 ≤ (9 : Int32)) ∧ ix 0 + ix 9 ≤ 9 ∧ ix 0 + ix 9 ≤ 9) <|
  lt ((urow S.1 (sr p 0) (va_cpy (S.1 (sr p0 0)) (S.1 (sr p 0)) (ix 0) (ix 0) (ix 9)), S.2) : PS) fun S6 =>
  gd (obj p0 2) <|
  gd (obj p 2) <|
  gd (arr (sr p0 1) 1 9) <|
  gd (arr (sr p 1) 1 9) <|
  gd ((0 ≤ (0 : Int32) ∧ 0 ≤ (0 : Int32) ∧ 0 ≤ (9 : Int32)) ∧ ix 0 + ix 9 ≤ 9 ∧ ix 0 + ix 9 ≤ 9) <|
  lt ((urow S6.1 (sr p 1) (va_cpy (S6.1 (sr p0 1)) (S6.1 (sr p 1)) (ix 0) (ix 0) (ix 9)), S6.2) : PS) fun S12 =>
  gd (obj p0 2) <|
  gd (obj p 2) <|
  gd (arr (sr p0 2) 1 9) <|
  gd (arr (sr p 2) 1 9) <|
  gd ((0 ≤ (0 : Int32) ∧ 0 ≤ (0 : Int32) ∧ 0 ≤ (9 : Int32)) ∧ ix 0 + ix 9 ≤ 9 ∧ ix 0 + ix 9 ≤ 9) <|
  lt ((urow S12.1 (sr p 2) (va_cpy (S12.1 (sr p0 2)) (S12.1 (sr p 2)) (ix 0) (ix 0) (ix 9)), S12.2) : PS) fun S18 =>
  gd (obj p0 2) <|
  gd (obj p 2) <|
  gd (arr (sr p0 3) 1 9) <|
  gd (arr (sr p 3) 1 9) <|
  gd ((0 ≤ (0 : Int32) ∧ 0 ≤ (0 : Int32) ∧ 0 ≤ (9 : Int32)) ∧ ix 0 + ix 9 ≤ 9 ∧ ix 0 + ix 9 ≤ 9) <|
  lt ((urow S18.1 (sr p 3) (va_cpy (S18.1 (sr p0 3)) (S18.1 (sr p 3)) (ix 0) (ix 0) (ix 9)), S18.2) : PS) fun S24 =>
  gd (obj p0 2) <|
  gd (obj p 2) <|
  gd (arr (sr p0 4) 1 9) <|
  gd (arr (sr p 4) 1 9) <|
  gd ((0 ≤ (0 : Int32) ∧ 0 ≤ (0 : Int32) ∧ 0 ≤ (9 : Int32)) ∧ ix 0 + ix 9 ≤ 9 ∧ ix 0 + ix 9 ≤ 9) <|
  lt ((urow S24.1 (sr p 4) (va_cpy (S24.1 (sr p0 4)) (S24.1 (sr p 4)) (ix 0) (ix 0) (ix 9)), S24.2) : PS) fun S30 =>
  gd (obj p0 2) <|
  gd (obj p 2) <|
  lt ((u2 S30.1 p 6 (S30.1 p0 6), S30.2) : PS) fun S33 =>
  gd (obj p0 2) <|
  gd (obj p 2) <|
  lt ((u2 S33.1 p 7 (S33.1 p0 7), S33.2) : PS) fun S36 =>
  gd (obj p0 2) <|
  gd (obj p 2) <|
  lt ((u2 S36.1 p 8 (S36.1 p0 8), S36.2) : PS) fun S39 =>
  some S39
set_option maxHeartbeats 4000000 in
set_option maxRecDepth 100000 in
theorem okX2_copy (N : Nat) (p : Nat) (p0 : Nat) (S : PS) (T : PS) (h : fX2_copy N p p0 S = some T) : CT mX2_copy 3 0 [.ref p, .ref p0] S (qV T) := by
  refine ct_of [some (.ref p), some (.ref p0)] rfl (fun _ => rfl) (fun _ => Nat.le_of_ble_eq_true rfl) ?_
  unfold fX2_copy at h
  refine r_aload_n (x := p0) dX2_copy_0 rfl ?_
  obtain ⟨g1, h⟩ := gd_e h
  refine r_getfield (o := p0) (v := .ref (sr p0 0)) dX2_copy_1 lX2_9 g1.1 g1.2 rfl ?_
  refine r_iconst (v := 0) dX2_copy_4 rfl ?_
  refine r_aload_n (x := p) dX2_copy_5 rfl ?_
  obtain ⟨g2, h⟩ := gd_e h
  refine r_getfield (o := p) (v := .ref (sr p 0)) dX2_copy_6 lX2_9 g2.1 g2.2 rfl ?_
  refine r_iconst (v := 0) dX2_copy_9 rfl ?_
  refine r_bipush (v := 9) dX2_copy_10 rfl ?_
  obtain ⟨g3, h⟩ := gd_e h
  obtain ⟨g4, h⟩ := gd_e h
  obtain ⟨g5, h⟩ := gd_e h
  refine r_arraycopy (a := (sr p0 0)) (b := (sr p 0)) dX2_copy_12 qX2_48 ⟨g3.1, g3.2⟩ ⟨g4.1, g4.2⟩ g5 (by decide) (Nat.le_of_ble_eq_true rfl) ?_
  refine r_topS (fun S6 hS6 => ?_)
  replace h := lt_e hS6 h
  refine r_aload_n (x := p0) dX2_copy_15 rfl ?_
  obtain ⟨g7, h⟩ := gd_e h
  refine r_getfield (o := p0) (v := .ref (sr p0 1)) dX2_copy_16 lX2_15 g7.1 g7.2 rfl ?_
  refine r_iconst (v := 0) dX2_copy_19 rfl ?_
  refine r_aload_n (x := p) dX2_copy_20 rfl ?_
  obtain ⟨g8, h⟩ := gd_e h
  refine r_getfield (o := p) (v := .ref (sr p 1)) dX2_copy_21 lX2_15 g8.1 g8.2 rfl ?_
  refine r_iconst (v := 0) dX2_copy_24 rfl ?_
  refine r_bipush (v := 9) dX2_copy_25 rfl ?_
  obtain ⟨g9, h⟩ := gd_e h
  obtain ⟨g10, h⟩ := gd_e h
  obtain ⟨g11, h⟩ := gd_e h
  refine r_arraycopy (a := (sr p0 1)) (b := (sr p 1)) dX2_copy_27 qX2_48 ⟨g9.1, g9.2⟩ ⟨g10.1, g10.2⟩ g11 (by decide) (Nat.le_of_ble_eq_true rfl) ?_
  refine r_topS (fun S12 hS12 => ?_)
  replace h := lt_e hS12 h
  refine r_aload_n (x := p0) dX2_copy_30 rfl ?_
  obtain ⟨g13, h⟩ := gd_e h
  refine r_getfield (o := p0) (v := .ref (sr p0 2)) dX2_copy_31 lX2_18 g13.1 g13.2 rfl ?_
  refine r_iconst (v := 0) dX2_copy_34 rfl ?_
  refine r_aload_n (x := p) dX2_copy_35 rfl ?_
  obtain ⟨g14, h⟩ := gd_e h
  refine r_getfield (o := p) (v := .ref (sr p 2)) dX2_copy_36 lX2_18 g14.1 g14.2 rfl ?_
  refine r_iconst (v := 0) dX2_copy_39 rfl ?_
  refine r_bipush (v := 9) dX2_copy_40 rfl ?_
  obtain ⟨g15, h⟩ := gd_e h
  obtain ⟨g16, h⟩ := gd_e h
  obtain ⟨g17, h⟩ := gd_e h
  refine r_arraycopy (a := (sr p0 2)) (b := (sr p 2)) dX2_copy_42 qX2_48 ⟨g15.1, g15.2⟩ ⟨g16.1, g16.2⟩ g17 (by decide) (Nat.le_of_ble_eq_true rfl) ?_
  refine r_topS (fun S18 hS18 => ?_)
  replace h := lt_e hS18 h
  refine r_aload_n (x := p0) dX2_copy_45 rfl ?_
  obtain ⟨g19, h⟩ := gd_e h
  refine r_getfield (o := p0) (v := .ref (sr p0 3)) dX2_copy_46 lX2_21 g19.1 g19.2 rfl ?_
  refine r_iconst (v := 0) dX2_copy_49 rfl ?_
  refine r_aload_n (x := p) dX2_copy_50 rfl ?_
  obtain ⟨g20, h⟩ := gd_e h
  refine r_getfield (o := p) (v := .ref (sr p 3)) dX2_copy_51 lX2_21 g20.1 g20.2 rfl ?_
  refine r_iconst (v := 0) dX2_copy_54 rfl ?_
  refine r_bipush (v := 9) dX2_copy_55 rfl ?_
  obtain ⟨g21, h⟩ := gd_e h
  obtain ⟨g22, h⟩ := gd_e h
  obtain ⟨g23, h⟩ := gd_e h
  refine r_arraycopy (a := (sr p0 3)) (b := (sr p 3)) dX2_copy_57 qX2_48 ⟨g21.1, g21.2⟩ ⟨g22.1, g22.2⟩ g23 (by decide) (Nat.le_of_ble_eq_true rfl) ?_
  refine r_topS (fun S24 hS24 => ?_)
  replace h := lt_e hS24 h
  refine r_aload_n (x := p0) dX2_copy_60 rfl ?_
  obtain ⟨g25, h⟩ := gd_e h
  refine r_getfield (o := p0) (v := .ref (sr p0 4)) dX2_copy_61 lX2_24 g25.1 g25.2 rfl ?_
  refine r_iconst (v := 0) dX2_copy_64 rfl ?_
  refine r_aload_n (x := p) dX2_copy_65 rfl ?_
  obtain ⟨g26, h⟩ := gd_e h
  refine r_getfield (o := p) (v := .ref (sr p 4)) dX2_copy_66 lX2_24 g26.1 g26.2 rfl ?_
  refine r_iconst (v := 0) dX2_copy_69 rfl ?_
  refine r_bipush (v := 9) dX2_copy_70 rfl ?_
  obtain ⟨g27, h⟩ := gd_e h
  obtain ⟨g28, h⟩ := gd_e h
  obtain ⟨g29, h⟩ := gd_e h
  refine r_arraycopy (a := (sr p0 4)) (b := (sr p 4)) dX2_copy_72 qX2_48 ⟨g27.1, g27.2⟩ ⟨g28.1, g28.2⟩ g29 (by decide) (Nat.le_of_ble_eq_true rfl) ?_
  refine r_topS (fun S30 hS30 => ?_)
  replace h := lt_e hS30 h
  refine r_aload_n (x := p) dX2_copy_75 rfl ?_
  refine r_aload_n (x := p0) dX2_copy_76 rfl ?_
  obtain ⟨g31, h⟩ := gd_e h
  refine r_getfield (o := p0) (v := .int (S30.1 p0 6)) dX2_copy_77 lX2_30 g31.1 g31.2 rfl ?_
  obtain ⟨g32, h⟩ := gd_e h
  refine r_putI dX2_copy_80 lX2_30 g32.1 g32.2 ?_
  refine r_topS (fun S33 hS33 => ?_)
  replace h := lt_e hS33 h
  refine r_aload_n (x := p) dX2_copy_83 rfl ?_
  refine r_aload_n (x := p0) dX2_copy_84 rfl ?_
  obtain ⟨g34, h⟩ := gd_e h
  refine r_getfield (o := p0) (v := .int (S33.1 p0 7)) dX2_copy_85 lX2_34 g34.1 g34.2 rfl ?_
  obtain ⟨g35, h⟩ := gd_e h
  refine r_putI dX2_copy_88 lX2_34 g35.1 g35.2 ?_
  refine r_topS (fun S36 hS36 => ?_)
  replace h := lt_e hS36 h
  refine r_aload_n (x := p) dX2_copy_91 rfl ?_
  refine r_aload_n (x := p0) dX2_copy_92 rfl ?_
  obtain ⟨g37, h⟩ := gd_e h
  refine r_getfield (o := p0) (v := .int (S36.1 p0 8)) dX2_copy_93 lX2_37 g37.1 g37.2 rfl ?_
  obtain ⟨g38, h⟩ := gd_e h
  refine r_putI dX2_copy_96 lX2_37 g38.1 g38.2 ?_
  refine r_topS (fun S39 hS39 => ?_)
  replace h := lt_e hS39 h
  cases h
  exact r_return dX2_copy_99 rfl (Nat.zero_le _) ⟨rfl, rfl⟩
def fX2_save (N : Nat) (p : Nat) (p0 : Nat) (p1 : Int32) (S : PS) : Option PS :=
  (if p1 < 0 then
    some S
  else
    gd (arr p0 1 (ck p0).2) <|
    (if (p1 + 48) ≤ (Int32.ofNat (ck p0).2) then
      gd (obj p 2) <|
      gd (arr p0 1 (ck p0).2) <|
      gd (inr p1 (ck p0).2) <|
      lt ((u2 S.1 p0 (ix p1) (S.1 p 6), S.2) : PS) fun S7 =>
      gd (obj p 2) <|
      gd (arr p0 1 (ck p0).2) <|
      gd (inr (p1 + 1) (ck p0).2) <|
      lt ((u2 S7.1 p0 (ix (p1 + 1)) (S7.1 p 7), S7.2) : PS) fun S11 =>
      gd (obj p 2) <|
      gd (arr p0 1 (ck p0).2) <|
      gd (inr (p1 + 2) (ck p0).2) <|
      lt ((u2 S11.1 p0 (ix (p1 + 2)) (S11.1 p 8), S11.2) : PS) fun S15 =>
      gd (obj p 2) <|
      gd (arr (sr p 0) 1 9) <|
      gd (arr p0 1 (ck p0).2) <|
      gd ((0 ≤ (0 : Int32) ∧ 0 ≤ ((p1 + 3) : Int32) ∧ 0 ≤ (9 : Int32)) ∧ ix 0 + ix 9 ≤ 9 ∧ ix (p1 + 3) + ix 9 ≤ (ck p0).2) <|
      lt ((urow S15.1 p0 (va_cpy (S15.1 (sr p 0)) (S15.1 p0) (ix 0) (ix (p1 + 3)) (ix 9)), S15.2) : PS) fun S20 =>
      gd (obj p 2) <|
      gd (arr (sr p 1) 1 9) <|
      gd (arr p0 1 (ck p0).2) <|
      gd ((0 ≤ (0 : Int32) ∧ 0 ≤ (((p1 + 3) + 9) : Int32) ∧ 0 ≤ (9 : Int32)) ∧ ix 0 + ix 9 ≤ 9 ∧ ix ((p1 + 3) + 9) + ix 9 ≤ (ck p0).2) <|
      lt ((urow S20.1 p0 (va_cpy (S20.1 (sr p 1)) (S20.1 p0) (ix 0) (ix ((p1 + 3) + 9)) (ix 9)), S20.2) : PS) fun S25 =>
      gd (obj p 2) <|
      gd (arr (sr p 2) 1 9) <|
      gd (arr p0 1 (ck p0).2) <|
      gd ((0 ≤ (0 : Int32) ∧ 0 ≤ (((p1 + 3) + 18) : Int32) ∧ 0 ≤ (9 : Int32)) ∧ ix 0 + ix 9 ≤ 9 ∧ ix ((p1 + 3) + 18) + ix 9 ≤ (ck p0).2) <|
      lt ((urow S25.1 p0 (va_cpy (S25.1 (sr p 2)) (S25.1 p0) (ix 0) (ix ((p1 + 3) + 18)) (ix 9)), S25.2) : PS) fun S30 =>
      gd (obj p 2) <|
      gd (arr (sr p 3) 1 9) <|
      gd (arr p0 1 (ck p0).2) <|
      gd ((0 ≤ (0 : Int32) ∧ 0 ≤ (((p1 + 3) + 27) : Int32) ∧ 0 ≤ (9 : Int32)) ∧ ix 0 + ix 9 ≤ 9 ∧ ix ((p1 + 3) + 27) + ix 9 ≤ (ck p0).2) <|
      lt ((urow S30.1 p0 (va_cpy (S30.1 (sr p 3)) (S30.1 p0) (ix 0) (ix ((p1 + 3) + 27)) (ix 9)), S30.2) : PS) fun S35 =>
      gd (obj p 2) <|
      gd (arr (sr p 4) 1 9) <|
      gd (arr p0 1 (ck p0).2) <|
      gd ((0 ≤ (0 : Int32) ∧ 0 ≤ (((p1 + 3) + 36) : Int32) ∧ 0 ≤ (9 : Int32)) ∧ ix 0 + ix 9 ≤ 9 ∧ ix ((p1 + 3) + 36) + ix 9 ≤ (ck p0).2) <|
      lt ((urow S35.1 p0 (va_cpy (S35.1 (sr p 4)) (S35.1 p0) (ix 0) (ix ((p1 + 3) + 36)) (ix 9)), S35.2) : PS) fun S40 =>
      some S40
    else
      some S))
set_option maxHeartbeats 4000000 in
set_option maxRecDepth 100000 in
theorem okX2_save (N : Nat) (p : Nat) (p0 : Nat) (p1 : Int32) (S : PS) (T : PS) (h : fX2_save N p p0 p1 S = some T) : CT mX2_save 3 0 [.ref p, .ref p0, .int p1] S (qV T) := by
  refine ct_of [some (.ref p), some (.ref p0), some (.int p1)] rfl (fun _ => rfl) (fun _ => Nat.le_of_ble_eq_true rfl) ?_
  unfold fX2_save at h
  refine r_iload_n (x := p1) dX2_save_0 rfl ?_
  refine r_if_lt (tgt := 13) dX2_save_1 (by decide) (fun c1 => ?_) (fun c1 => ?_)
  · rw [if_pos c1] at h
    cases h
    exact r_return dX2_save_13 rfl (Nat.zero_le _) ⟨rfl, rfl⟩
  · rw [if_neg c1] at h
    refine r_iload_n (x := p1) dX2_save_4 rfl ?_
    refine r_bipush (v := 48) dX2_save_5 rfl ?_
    refine r_iadd dX2_save_7 ?_
    refine r_aload_n (x := p0) dX2_save_8 rfl ?_
    obtain ⟨g2, h⟩ := gd_e h
    refine r_alen (v := (Int32.ofNat (ck p0).2)) dX2_save_9 g2.1 (by decide) g2.2 rfl ?_
    refine r_icmp_le (tgt := 14) dX2_save_10 (by decide) (fun c3 => ?_) (fun c3 => ?_)
    · rw [if_pos c3] at h
      refine r_aload_n (x := p0) dX2_save_14 rfl ?_
      refine r_iload_n (x := p1) dX2_save_15 rfl ?_
      refine r_aload_n (x := p) dX2_save_16 rfl ?_
      obtain ⟨g4, h⟩ := gd_e h
      refine r_getfield (o := p) (v := .int (S.1 p 6)) dX2_save_17 lX2_30 g4.1 g4.2 rfl ?_
      obtain ⟨g5, h⟩ := gd_e h
      obtain ⟨g6, h⟩ := gd_e h
      refine r_iastore (a := p0) dX2_save_20 g5.1 g5.2 (inr_IX g6) ?_
      refine r_topS (fun S7 hS7 => ?_)
      replace h := lt_e hS7 h
      refine r_aload_n (x := p0) dX2_save_21 rfl ?_
      refine r_iload_n (x := p1) dX2_save_22 rfl ?_
      refine r_iconst (v := 1) dX2_save_23 rfl ?_
      refine r_iadd dX2_save_24 ?_
      refine r_aload_n (x := p) dX2_save_25 rfl ?_
      obtain ⟨g8, h⟩ := gd_e h
      refine r_getfield (o := p) (v := .int (S7.1 p 7)) dX2_save_26 lX2_34 g8.1 g8.2 rfl ?_
      obtain ⟨g9, h⟩ := gd_e h
      obtain ⟨g10, h⟩ := gd_e h
      refine r_iastore (a := p0) dX2_save_29 g9.1 g9.2 (inr_IX g10) ?_
      refine r_topS (fun S11 hS11 => ?_)
      replace h := lt_e hS11 h
      refine r_aload_n (x := p0) dX2_save_30 rfl ?_
      refine r_iload_n (x := p1) dX2_save_31 rfl ?_
      refine r_iconst (v := 2) dX2_save_32 rfl ?_
      refine r_iadd dX2_save_33 ?_
      refine r_aload_n (x := p) dX2_save_34 rfl ?_
      obtain ⟨g12, h⟩ := gd_e h
      refine r_getfield (o := p) (v := .int (S11.1 p 8)) dX2_save_35 lX2_37 g12.1 g12.2 rfl ?_
      obtain ⟨g13, h⟩ := gd_e h
      obtain ⟨g14, h⟩ := gd_e h
      refine r_iastore (a := p0) dX2_save_38 g13.1 g13.2 (inr_IX g14) ?_
      refine r_topS (fun S15 hS15 => ?_)
      replace h := lt_e hS15 h
      refine r_aload_n (x := p) dX2_save_39 rfl ?_
      obtain ⟨g16, h⟩ := gd_e h
      refine r_getfield (o := p) (v := .ref (sr p 0)) dX2_save_40 lX2_9 g16.1 g16.2 rfl ?_
      refine r_iconst (v := 0) dX2_save_43 rfl ?_
      refine r_aload_n (x := p0) dX2_save_44 rfl ?_
      refine r_iload_n (x := p1) dX2_save_45 rfl ?_
      refine r_iconst (v := 3) dX2_save_46 rfl ?_
      refine r_iadd dX2_save_47 ?_
      refine r_bipush (v := 9) dX2_save_48 rfl ?_
      obtain ⟨g17, h⟩ := gd_e h
      obtain ⟨g18, h⟩ := gd_e h
      obtain ⟨g19, h⟩ := gd_e h
      refine r_arraycopy (a := (sr p 0)) (b := p0) dX2_save_50 qX2_48 ⟨g17.1, g17.2⟩ ⟨g18.1, g18.2⟩ g19 (by decide) (Nat.le_of_ble_eq_true rfl) ?_
      refine r_topS (fun S20 hS20 => ?_)
      replace h := lt_e hS20 h
      refine r_aload_n (x := p) dX2_save_53 rfl ?_
      obtain ⟨g21, h⟩ := gd_e h
      refine r_getfield (o := p) (v := .ref (sr p 1)) dX2_save_54 lX2_15 g21.1 g21.2 rfl ?_
      refine r_iconst (v := 0) dX2_save_57 rfl ?_
      refine r_aload_n (x := p0) dX2_save_58 rfl ?_
      refine r_iload_n (x := p1) dX2_save_59 rfl ?_
      refine r_iconst (v := 3) dX2_save_60 rfl ?_
      refine r_iadd dX2_save_61 ?_
      refine r_bipush (v := 9) dX2_save_62 rfl ?_
      refine r_iadd dX2_save_64 ?_
      refine r_bipush (v := 9) dX2_save_65 rfl ?_
      obtain ⟨g22, h⟩ := gd_e h
      obtain ⟨g23, h⟩ := gd_e h
      obtain ⟨g24, h⟩ := gd_e h
      refine r_arraycopy (a := (sr p 1)) (b := p0) dX2_save_67 qX2_48 ⟨g22.1, g22.2⟩ ⟨g23.1, g23.2⟩ g24 (by decide) (Nat.le_of_ble_eq_true rfl) ?_
      refine r_topS (fun S25 hS25 => ?_)
      replace h := lt_e hS25 h
      refine r_aload_n (x := p) dX2_save_70 rfl ?_
      obtain ⟨g26, h⟩ := gd_e h
      refine r_getfield (o := p) (v := .ref (sr p 2)) dX2_save_71 lX2_18 g26.1 g26.2 rfl ?_
      refine r_iconst (v := 0) dX2_save_74 rfl ?_
      refine r_aload_n (x := p0) dX2_save_75 rfl ?_
      refine r_iload_n (x := p1) dX2_save_76 rfl ?_
      refine r_iconst (v := 3) dX2_save_77 rfl ?_
      refine r_iadd dX2_save_78 ?_
      refine r_bipush (v := 18) dX2_save_79 rfl ?_
      refine r_iadd dX2_save_81 ?_
      refine r_bipush (v := 9) dX2_save_82 rfl ?_
      obtain ⟨g27, h⟩ := gd_e h
      obtain ⟨g28, h⟩ := gd_e h
      obtain ⟨g29, h⟩ := gd_e h
      refine r_arraycopy (a := (sr p 2)) (b := p0) dX2_save_84 qX2_48 ⟨g27.1, g27.2⟩ ⟨g28.1, g28.2⟩ g29 (by decide) (Nat.le_of_ble_eq_true rfl) ?_
      refine r_topS (fun S30 hS30 => ?_)
      replace h := lt_e hS30 h
      refine r_aload_n (x := p) dX2_save_87 rfl ?_
      obtain ⟨g31, h⟩ := gd_e h
      refine r_getfield (o := p) (v := .ref (sr p 3)) dX2_save_88 lX2_21 g31.1 g31.2 rfl ?_
      refine r_iconst (v := 0) dX2_save_91 rfl ?_
      refine r_aload_n (x := p0) dX2_save_92 rfl ?_
      refine r_iload_n (x := p1) dX2_save_93 rfl ?_
      refine r_iconst (v := 3) dX2_save_94 rfl ?_
      refine r_iadd dX2_save_95 ?_
      refine r_bipush (v := 27) dX2_save_96 rfl ?_
      refine r_iadd dX2_save_98 ?_
      refine r_bipush (v := 9) dX2_save_99 rfl ?_
      obtain ⟨g32, h⟩ := gd_e h
      obtain ⟨g33, h⟩ := gd_e h
      obtain ⟨g34, h⟩ := gd_e h
      refine r_arraycopy (a := (sr p 3)) (b := p0) dX2_save_101 qX2_48 ⟨g32.1, g32.2⟩ ⟨g33.1, g33.2⟩ g34 (by decide) (Nat.le_of_ble_eq_true rfl) ?_
      refine r_topS (fun S35 hS35 => ?_)
      replace h := lt_e hS35 h
      refine r_aload_n (x := p) dX2_save_104 rfl ?_
      obtain ⟨g36, h⟩ := gd_e h
      refine r_getfield (o := p) (v := .ref (sr p 4)) dX2_save_105 lX2_24 g36.1 g36.2 rfl ?_
      refine r_iconst (v := 0) dX2_save_108 rfl ?_
      refine r_aload_n (x := p0) dX2_save_109 rfl ?_
      refine r_iload_n (x := p1) dX2_save_110 rfl ?_
      refine r_iconst (v := 3) dX2_save_111 rfl ?_
      refine r_iadd dX2_save_112 ?_
      refine r_bipush (v := 36) dX2_save_113 rfl ?_
      refine r_iadd dX2_save_115 ?_
      refine r_bipush (v := 9) dX2_save_116 rfl ?_
      obtain ⟨g37, h⟩ := gd_e h
      obtain ⟨g38, h⟩ := gd_e h
      obtain ⟨g39, h⟩ := gd_e h
      refine r_arraycopy (a := (sr p 4)) (b := p0) dX2_save_118 qX2_48 ⟨g37.1, g37.2⟩ ⟨g38.1, g38.2⟩ g39 (by decide) (Nat.le_of_ble_eq_true rfl) ?_
      refine r_topS (fun S40 hS40 => ?_)
      replace h := lt_e hS40 h
      cases h
      exact r_return dX2_save_121 rfl (Nat.zero_le _) ⟨rfl, rfl⟩
    · rw [if_neg c3] at h
      cases h
      exact r_return dX2_save_13 rfl (Nat.zero_le _) ⟨rfl, rfl⟩
def fX2_load (N : Nat) (p : Nat) (p0 : Nat) (p1 : Int32) (S : PS) : Option PS :=
  (if p1 < 0 then
    some S
  else
    gd (arr p0 1 (ck p0).2) <|
    (if (p1 + 48) ≤ (Int32.ofNat (ck p0).2) then
      gd (arr p0 1 (ck p0).2) <|
      gd (inr p1 (ck p0).2) <|
      gd (obj p 2) <|
      lt ((u2 S.1 p 6 (S.1 p0 (ix p1)), S.2) : PS) fun S7 =>
      gd (arr p0 1 (ck p0).2) <|
      gd (inr (p1 + 1) (ck p0).2) <|
      gd (obj p 2) <|
      lt ((u2 S7.1 p 7 (S7.1 p0 (ix (p1 + 1))), S7.2) : PS) fun S11 =>
      gd (arr p0 1 (ck p0).2) <|
      gd (inr (p1 + 2) (ck p0).2) <|
      gd (obj p 2) <|
      lt ((u2 S11.1 p 8 (S11.1 p0 (ix (p1 + 2))), S11.2) : PS) fun S15 =>
      gd (obj p 2) <|
      gd (arr p0 1 (ck p0).2) <|
      gd (arr (sr p 0) 1 9) <|
      gd ((0 ≤ ((p1 + 3) : Int32) ∧ 0 ≤ (0 : Int32) ∧ 0 ≤ (9 : Int32)) ∧ ix (p1 + 3) + ix 9 ≤ (ck p0).2 ∧ ix 0 + ix 9 ≤ 9) <|
      lt ((urow S15.1 (sr p 0) (va_cpy (S15.1 p0) (S15.1 (sr p 0)) (ix (p1 + 3)) (ix 0) (ix 9)), S15.2) : PS) fun S20 =>
      gd (obj p 2) <|
      gd (arr p0 1 (ck p0).2) <|
      gd (arr (sr p 1) 1 9) <|
      gd ((0 ≤ (((p1 + 3) + 9) : Int32) ∧ 0 ≤ (0 : Int32) ∧ 0 ≤ (9 : Int32)) ∧ ix ((p1 + 3) + 9) + ix 9 ≤ (ck p0).2 ∧ ix 0 + ix 9 ≤ 9) <|
      lt ((urow S20.1 (sr p 1) (va_cpy (S20.1 p0) (S20.1 (sr p 1)) (ix ((p1 + 3) + 9)) (ix 0) (ix 9)), S20.2) : PS) fun S25 =>
      gd (obj p 2) <|
      gd (arr p0 1 (ck p0).2) <|
      gd (arr (sr p 2) 1 9) <|
      gd ((0 ≤ (((p1 + 3) + 18) : Int32) ∧ 0 ≤ (0 : Int32) ∧ 0 ≤ (9 : Int32)) ∧ ix ((p1 + 3) + 18) + ix 9 ≤ (ck p0).2 ∧ ix 0 + ix 9 ≤ 9) <|
      lt ((urow S25.1 (sr p 2) (va_cpy (S25.1 p0) (S25.1 (sr p 2)) (ix ((p1 + 3) + 18)) (ix 0) (ix 9)), S25.2) : PS) fun S30 =>
      gd (obj p 2) <|
      gd (arr p0 1 (ck p0).2) <|
      gd (arr (sr p 3) 1 9) <|
      gd ((0 ≤ (((p1 + 3) + 27) : Int32) ∧ 0 ≤ (0 : Int32) ∧ 0 ≤ (9 : Int32)) ∧ ix ((p1 + 3) + 27) + ix 9 ≤ (ck p0).2 ∧ ix 0 + ix 9 ≤ 9) <|
      lt ((urow S30.1 (sr p 3) (va_cpy (S30.1 p0) (S30.1 (sr p 3)) (ix ((p1 + 3) + 27)) (ix 0) (ix 9)), S30.2) : PS) fun S35 =>
      gd (obj p 2) <|
      gd (arr p0 1 (ck p0).2) <|
      gd (arr (sr p 4) 1 9) <|
      gd ((0 ≤ (((p1 + 3) + 36) : Int32) ∧ 0 ≤ (0 : Int32) ∧ 0 ≤ (9 : Int32)) ∧ ix ((p1 + 3) + 36) + ix 9 ≤ (ck p0).2 ∧ ix 0 + ix 9 ≤ 9) <|
      lt ((urow S35.1 (sr p 4) (va_cpy (S35.1 p0) (S35.1 (sr p 4)) (ix ((p1 + 3) + 36)) (ix 0) (ix 9)), S35.2) : PS) fun S40 =>
      some S40
    else
      some S))
set_option maxHeartbeats 4000000 in
set_option maxRecDepth 100000 in
theorem okX2_load (N : Nat) (p : Nat) (p0 : Nat) (p1 : Int32) (S : PS) (T : PS) (h : fX2_load N p p0 p1 S = some T) : CT mX2_load 3 0 [.ref p, .ref p0, .int p1] S (qV T) := by
  refine ct_of [some (.ref p), some (.ref p0), some (.int p1)] rfl (fun _ => rfl) (fun _ => Nat.le_of_ble_eq_true rfl) ?_
  unfold fX2_load at h
  refine r_iload_n (x := p1) dX2_load_0 rfl ?_
  refine r_if_lt (tgt := 13) dX2_load_1 (by decide) (fun c1 => ?_) (fun c1 => ?_)
  · rw [if_pos c1] at h
    cases h
    exact r_return dX2_load_13 rfl (Nat.zero_le _) ⟨rfl, rfl⟩
  · rw [if_neg c1] at h
    refine r_iload_n (x := p1) dX2_load_4 rfl ?_
    refine r_bipush (v := 48) dX2_load_5 rfl ?_
    refine r_iadd dX2_load_7 ?_
    refine r_aload_n (x := p0) dX2_load_8 rfl ?_
    obtain ⟨g2, h⟩ := gd_e h
    refine r_alen (v := (Int32.ofNat (ck p0).2)) dX2_load_9 g2.1 (by decide) g2.2 rfl ?_
    refine r_icmp_le (tgt := 14) dX2_load_10 (by decide) (fun c3 => ?_) (fun c3 => ?_)
    · rw [if_pos c3] at h
      refine r_aload_n (x := p) dX2_load_14 rfl ?_
      refine r_aload_n (x := p0) dX2_load_15 rfl ?_
      refine r_iload_n (x := p1) dX2_load_16 rfl ?_
      obtain ⟨g4, h⟩ := gd_e h
      obtain ⟨g5, h⟩ := gd_e h
      refine r_iaload (a := p0) dX2_load_17 g4.1 g4.2 (inr_IX g5) ?_
      obtain ⟨g6, h⟩ := gd_e h
      refine r_putI dX2_load_18 lX2_30 g6.1 g6.2 ?_
      refine r_topS (fun S7 hS7 => ?_)
      replace h := lt_e hS7 h
      refine r_aload_n (x := p) dX2_load_21 rfl ?_
      refine r_aload_n (x := p0) dX2_load_22 rfl ?_
      refine r_iload_n (x := p1) dX2_load_23 rfl ?_
      refine r_iconst (v := 1) dX2_load_24 rfl ?_
      refine r_iadd dX2_load_25 ?_
      obtain ⟨g8, h⟩ := gd_e h
      obtain ⟨g9, h⟩ := gd_e h
      refine r_iaload (a := p0) dX2_load_26 g8.1 g8.2 (inr_IX g9) ?_
      obtain ⟨g10, h⟩ := gd_e h
      refine r_putI dX2_load_27 lX2_34 g10.1 g10.2 ?_
      refine r_topS (fun S11 hS11 => ?_)
      replace h := lt_e hS11 h
      refine r_aload_n (x := p) dX2_load_30 rfl ?_
      refine r_aload_n (x := p0) dX2_load_31 rfl ?_
      refine r_iload_n (x := p1) dX2_load_32 rfl ?_
      refine r_iconst (v := 2) dX2_load_33 rfl ?_
      refine r_iadd dX2_load_34 ?_
      obtain ⟨g12, h⟩ := gd_e h
      obtain ⟨g13, h⟩ := gd_e h
      refine r_iaload (a := p0) dX2_load_35 g12.1 g12.2 (inr_IX g13) ?_
      obtain ⟨g14, h⟩ := gd_e h
      refine r_putI dX2_load_36 lX2_37 g14.1 g14.2 ?_
      refine r_topS (fun S15 hS15 => ?_)
      replace h := lt_e hS15 h
      refine r_aload_n (x := p0) dX2_load_39 rfl ?_
      refine r_iload_n (x := p1) dX2_load_40 rfl ?_
      refine r_iconst (v := 3) dX2_load_41 rfl ?_
      refine r_iadd dX2_load_42 ?_
      refine r_aload_n (x := p) dX2_load_43 rfl ?_
      obtain ⟨g16, h⟩ := gd_e h
      refine r_getfield (o := p) (v := .ref (sr p 0)) dX2_load_44 lX2_9 g16.1 g16.2 rfl ?_
      refine r_iconst (v := 0) dX2_load_47 rfl ?_
      refine r_bipush (v := 9) dX2_load_48 rfl ?_
      obtain ⟨g17, h⟩ := gd_e h
      obtain ⟨g18, h⟩ := gd_e h
      obtain ⟨g19, h⟩ := gd_e h
      refine r_arraycopy (a := p0) (b := (sr p 0)) dX2_load_50 qX2_48 ⟨g17.1, g17.2⟩ ⟨g18.1, g18.2⟩ g19 (by decide) (Nat.le_of_ble_eq_true rfl) ?_
      refine r_topS (fun S20 hS20 => ?_)
      replace h := lt_e hS20 h
      refine r_aload_n (x := p0) dX2_load_53 rfl ?_
      refine r_iload_n (x := p1) dX2_load_54 rfl ?_
      refine r_iconst (v := 3) dX2_load_55 rfl ?_
      refine r_iadd dX2_load_56 ?_
      refine r_bipush (v := 9) dX2_load_57 rfl ?_
      refine r_iadd dX2_load_59 ?_
      refine r_aload_n (x := p) dX2_load_60 rfl ?_
      obtain ⟨g21, h⟩ := gd_e h
      refine r_getfield (o := p) (v := .ref (sr p 1)) dX2_load_61 lX2_15 g21.1 g21.2 rfl ?_
      refine r_iconst (v := 0) dX2_load_64 rfl ?_
      refine r_bipush (v := 9) dX2_load_65 rfl ?_
      obtain ⟨g22, h⟩ := gd_e h
      obtain ⟨g23, h⟩ := gd_e h
      obtain ⟨g24, h⟩ := gd_e h
      refine r_arraycopy (a := p0) (b := (sr p 1)) dX2_load_67 qX2_48 ⟨g22.1, g22.2⟩ ⟨g23.1, g23.2⟩ g24 (by decide) (Nat.le_of_ble_eq_true rfl) ?_
      refine r_topS (fun S25 hS25 => ?_)
      replace h := lt_e hS25 h
      refine r_aload_n (x := p0) dX2_load_70 rfl ?_
      refine r_iload_n (x := p1) dX2_load_71 rfl ?_
      refine r_iconst (v := 3) dX2_load_72 rfl ?_
      refine r_iadd dX2_load_73 ?_
      refine r_bipush (v := 18) dX2_load_74 rfl ?_
      refine r_iadd dX2_load_76 ?_
      refine r_aload_n (x := p) dX2_load_77 rfl ?_
      obtain ⟨g26, h⟩ := gd_e h
      refine r_getfield (o := p) (v := .ref (sr p 2)) dX2_load_78 lX2_18 g26.1 g26.2 rfl ?_
      refine r_iconst (v := 0) dX2_load_81 rfl ?_
      refine r_bipush (v := 9) dX2_load_82 rfl ?_
      obtain ⟨g27, h⟩ := gd_e h
      obtain ⟨g28, h⟩ := gd_e h
      obtain ⟨g29, h⟩ := gd_e h
      refine r_arraycopy (a := p0) (b := (sr p 2)) dX2_load_84 qX2_48 ⟨g27.1, g27.2⟩ ⟨g28.1, g28.2⟩ g29 (by decide) (Nat.le_of_ble_eq_true rfl) ?_
      refine r_topS (fun S30 hS30 => ?_)
      replace h := lt_e hS30 h
      refine r_aload_n (x := p0) dX2_load_87 rfl ?_
      refine r_iload_n (x := p1) dX2_load_88 rfl ?_
      refine r_iconst (v := 3) dX2_load_89 rfl ?_
      refine r_iadd dX2_load_90 ?_
      refine r_bipush (v := 27) dX2_load_91 rfl ?_
      refine r_iadd dX2_load_93 ?_
      refine r_aload_n (x := p) dX2_load_94 rfl ?_
      obtain ⟨g31, h⟩ := gd_e h
      refine r_getfield (o := p) (v := .ref (sr p 3)) dX2_load_95 lX2_21 g31.1 g31.2 rfl ?_
      refine r_iconst (v := 0) dX2_load_98 rfl ?_
      refine r_bipush (v := 9) dX2_load_99 rfl ?_
      obtain ⟨g32, h⟩ := gd_e h
      obtain ⟨g33, h⟩ := gd_e h
      obtain ⟨g34, h⟩ := gd_e h
      refine r_arraycopy (a := p0) (b := (sr p 3)) dX2_load_101 qX2_48 ⟨g32.1, g32.2⟩ ⟨g33.1, g33.2⟩ g34 (by decide) (Nat.le_of_ble_eq_true rfl) ?_
      refine r_topS (fun S35 hS35 => ?_)
      replace h := lt_e hS35 h
      refine r_aload_n (x := p0) dX2_load_104 rfl ?_
      refine r_iload_n (x := p1) dX2_load_105 rfl ?_
      refine r_iconst (v := 3) dX2_load_106 rfl ?_
      refine r_iadd dX2_load_107 ?_
      refine r_bipush (v := 36) dX2_load_108 rfl ?_
      refine r_iadd dX2_load_110 ?_
      refine r_aload_n (x := p) dX2_load_111 rfl ?_
      obtain ⟨g36, h⟩ := gd_e h
      refine r_getfield (o := p) (v := .ref (sr p 4)) dX2_load_112 lX2_24 g36.1 g36.2 rfl ?_
      refine r_iconst (v := 0) dX2_load_115 rfl ?_
      refine r_bipush (v := 9) dX2_load_116 rfl ?_
      obtain ⟨g37, h⟩ := gd_e h
      obtain ⟨g38, h⟩ := gd_e h
      obtain ⟨g39, h⟩ := gd_e h
      refine r_arraycopy (a := p0) (b := (sr p 4)) dX2_load_118 qX2_48 ⟨g37.1, g37.2⟩ ⟨g38.1, g38.2⟩ g39 (by decide) (Nat.le_of_ble_eq_true rfl) ?_
      refine r_topS (fun S40 hS40 => ?_)
      replace h := lt_e hS40 h
      cases h
      exact r_return dX2_load_121 rfl (Nat.zero_le _) ⟨rfl, rfl⟩
    · rw [if_neg c3] at h
      cases h
      exact r_return dX2_load_13 rfl (Nat.zero_le _) ⟨rfl, rfl⟩
def fX2_fillOfAll_4 (N : Nat) (v0 : Nat) : Nat → Int32 → Int32 → PS → Option (Int32 × Int32 × PS)
  | 0, _, _, _ => none
  | n + 1, v1, v2, S =>
    (if 9 ≤ v2 then
      some (v1, v2, S)
    else
      gd (obj v0 2) <|
      gd (arr (sr v0 1) 1 9) <|
      gd (inr v2 9) <|
      lt ((v1 + (S.1 (sr v0 1) (ix v2))) : Int32) fun x5 =>
      lt (v2 + 1 : Int32) fun x6 =>
      fX2_fillOfAll_4 N v0 n x5 x6 S)
set_option maxHeartbeats 4000000 in
set_option maxRecDepth 100000 in
theorem okX2_fillOfAll_4 (N : Nat) (v0 : Nat) (Q : OQ) (u : Nat) (hu : u ≤ 0) : ∀ (n : Nat) (v1 : Int32) (v2 : Int32) (S : PS) (y1 : Int32) (y2 : Int32) (T : PS), fX2_fillOfAll_4 N v0 n v1 v2 S = some (y1, y2, T) → WP [] mX2_fillOfAll 0 0 Q 25 [some (.ref v0), some (.int y1), some (.int y2)] [] T u → WP [] mX2_fillOfAll 0 0 Q 4 [some (.ref v0), some (.int v1), some (.int v2)] [] S u := by
  intro n
  induction n with
  | zero => intro v1 v2 S y1 y2 T h; rw [fX2_fillOfAll_4] at h; cases h
  | succ n ih =>
    intro v1 v2 S y1 y2 T h k0
    rw [fX2_fillOfAll_4] at h
    refine r_iload_n (x := v2) dX2_fillOfAll_4 rfl ?_
    refine r_bipush (v := 9) dX2_fillOfAll_5 rfl ?_
    refine r_icmp_ge (tgt := 25) dX2_fillOfAll_7 (by decide) (fun c1 => ?_) (fun c1 => ?_)
    · rw [if_pos c1] at h
      cases h
      exact k0
    · rw [if_neg c1] at h
      refine r_iload_n (x := v1) dX2_fillOfAll_10 rfl ?_
      refine r_aload_n (x := v0) dX2_fillOfAll_11 rfl ?_
      obtain ⟨g2, h⟩ := gd_e h
      refine r_getfield (o := v0) (v := .ref (sr v0 1)) dX2_fillOfAll_12 lX2_15 g2.1 g2.2 rfl ?_
      refine r_iload_n (x := v2) dX2_fillOfAll_15 rfl ?_
      obtain ⟨g3, h⟩ := gd_e h
      obtain ⟨g4, h⟩ := gd_e h
      refine r_iaload (a := (sr v0 1)) dX2_fillOfAll_16 g3.1 g3.2 (inr_IX g4) ?_
      refine r_iadd dX2_fillOfAll_17 ?_
      refine r_topi (fun x5 hx5 => ?_)
      replace h := lt_e hx5 h
      refine r_istore_n (L' := [some (.ref v0), some (.int x5), some (.int v2)]) dX2_fillOfAll_18 (Nat.le_of_ble_eq_true rfl) rfl rfl ?_
      obtain ⟨x6, hx6⟩ : ∃ y : Int32, y = (v2 + 1 : Int32) := ⟨_, rfl⟩
      replace h := lt_e hx6 h
      refine r_iinc (x := v2) (v := x6) (L' := [some (.ref v0), some (.int x5), some (.int x6)]) dX2_fillOfAll_19 rfl (by rw [hx6]; rfl) (Nat.le_of_ble_eq_true rfl) rfl rfl ?_
      refine r_goto (tgt := 4) dX2_fillOfAll_22 (by decide) ?_
      exact ih _ _ _ _ _ _ h k0
def fX2_fillOfAll (N : Nat) (p : Nat) (S : PS) : Option (Int32 × PS) :=
  bT (fX2_fillOfAll_4 N p N 0 0 S) fun q7 =>
  lt (q7.1 : Int32) fun x8 =>
  lt (q7.2.1 : Int32) fun x9 =>
  lt (q7.2.2 : PS) fun S10 =>
  some (x8, S10)
set_option maxHeartbeats 4000000 in
set_option maxRecDepth 100000 in
theorem okX2_fillOfAll (N : Nat) (p : Nat) (S : PS) (r : Int32) (T : PS) (h : fX2_fillOfAll N p S = some (r, T)) : CT mX2_fillOfAll 0 0 [.ref p] S (qI r T) := by
  refine ct_of [some (.ref p), none, none] rfl (fun _ => rfl) (fun _ => Nat.le_of_ble_eq_true rfl) ?_
  unfold fX2_fillOfAll at h
  refine r_iconst (v := 0) dX2_fillOfAll_0 rfl ?_
  refine r_istore_n (L' := [some (.ref p), some (.int 0), none]) dX2_fillOfAll_1 (Nat.le_of_ble_eq_true rfl) rfl rfl ?_
  refine r_iconst (v := 0) dX2_fillOfAll_2 rfl ?_
  refine r_istore_n (L' := [some (.ref p), some (.int 0), some (.int 0)]) dX2_fillOfAll_3 (Nat.le_of_ble_eq_true rfl) rfl rfl ?_
  obtain ⟨⟨x8, x9, S10⟩, h12, h⟩ := bT_e h
  dsimp only at h
  replace h := pl_s (pl_s (pl_s (h)))
  refine okX2_fillOfAll_4 N p (qI r T) 0 (Nat.zero_le _) _ _ _ _ _ _ _ h12 ?_
  refine r_iload_n (x := x8) dX2_fillOfAll_25 rfl ?_
  cases h
  exact r_ireturn dX2_fillOfAll_26 rfl (Nat.zero_le _) ⟨rfl, rfl⟩
def fX2_tipsOfAll_4 (N : Nat) (v0 : Nat) : Nat → Int32 → Int32 → PS → Option (Int32 × Int32 × PS)
  | 0, _, _, _ => none
  | n + 1, v1, v2, S =>
    (if 9 ≤ v2 then
      some (v1, v2, S)
    else
      gd (obj v0 2) <|
      gd (arr (sr v0 4) 1 9) <|
      gd (inr v2 9) <|
      lt ((if (v1 + (S.1 (sr v0 4) (ix v2))) < 1000000000 then (v1 + (S.1 (sr v0 4) (ix v2))) else 1000000000) : Int32) fun x5 =>
      lt (v2 + 1 : Int32) fun x6 =>
      fX2_tipsOfAll_4 N v0 n x5 x6 S)
set_option maxHeartbeats 4000000 in
set_option maxRecDepth 100000 in
theorem okX2_tipsOfAll_4 (N : Nat) (v0 : Nat) (Q : OQ) (u : Nat) (hu : u ≤ 0) : ∀ (n : Nat) (v1 : Int32) (v2 : Int32) (S : PS) (y1 : Int32) (y2 : Int32) (T : PS), fX2_tipsOfAll_4 N v0 n v1 v2 S = some (y1, y2, T) → WP [] mX2_tipsOfAll 1 0 Q 30 [some (.ref v0), some (.int y1), some (.int y2)] [] T u → WP [] mX2_tipsOfAll 1 0 Q 4 [some (.ref v0), some (.int v1), some (.int v2)] [] S u := by
  intro n
  induction n with
  | zero => intro v1 v2 S y1 y2 T h; rw [fX2_tipsOfAll_4] at h; cases h
  | succ n ih =>
    intro v1 v2 S y1 y2 T h k0
    rw [fX2_tipsOfAll_4] at h
    refine r_iload_n (x := v2) dX2_tipsOfAll_4 rfl ?_
    refine r_bipush (v := 9) dX2_tipsOfAll_5 rfl ?_
    refine r_icmp_ge (tgt := 30) dX2_tipsOfAll_7 (by decide) (fun c1 => ?_) (fun c1 => ?_)
    · rw [if_pos c1] at h
      cases h
      exact k0
    · rw [if_neg c1] at h
      refine r_ldc (v := 1000000000) dX2_tipsOfAll_10 kX2_54 ?_
      refine r_iload_n (x := v1) dX2_tipsOfAll_12 rfl ?_
      refine r_aload_n (x := v0) dX2_tipsOfAll_13 rfl ?_
      obtain ⟨g2, h⟩ := gd_e h
      refine r_getfield (o := v0) (v := .ref (sr v0 4)) dX2_tipsOfAll_14 lX2_24 g2.1 g2.2 rfl ?_
      refine r_iload_n (x := v2) dX2_tipsOfAll_17 rfl ?_
      obtain ⟨g3, h⟩ := gd_e h
      obtain ⟨g4, h⟩ := gd_e h
      refine r_iaload (a := (sr v0 4)) dX2_tipsOfAll_18 g3.1 g3.2 (inr_IX g4) ?_
      refine r_iadd dX2_tipsOfAll_19 ?_
      refine r_mmin dX2_tipsOfAll_20 qX2_55 (by decide) hu (Nat.le_of_ble_eq_true rfl) ?_
      refine r_topi (fun x5 hx5 => ?_)
      replace h := lt_e hx5 h
      refine r_istore_n (L' := [some (.ref v0), some (.int x5), some (.int v2)]) dX2_tipsOfAll_23 (Nat.le_of_ble_eq_true rfl) rfl rfl ?_
      obtain ⟨x6, hx6⟩ : ∃ y : Int32, y = (v2 + 1 : Int32) := ⟨_, rfl⟩
      replace h := lt_e hx6 h
      refine r_iinc (x := v2) (v := x6) (L' := [some (.ref v0), some (.int x5), some (.int x6)]) dX2_tipsOfAll_24 rfl (by rw [hx6]; rfl) (Nat.le_of_ble_eq_true rfl) rfl rfl ?_
      refine r_goto (tgt := 4) dX2_tipsOfAll_27 (by decide) ?_
      exact ih _ _ _ _ _ _ h k0
def fX2_tipsOfAll (N : Nat) (p : Nat) (S : PS) : Option (Int32 × PS) :=
  bT (fX2_tipsOfAll_4 N p N 0 0 S) fun q7 =>
  lt (q7.1 : Int32) fun x8 =>
  lt (q7.2.1 : Int32) fun x9 =>
  lt (q7.2.2 : PS) fun S10 =>
  some (x8, S10)
set_option maxHeartbeats 4000000 in
set_option maxRecDepth 100000 in
theorem okX2_tipsOfAll (N : Nat) (p : Nat) (S : PS) (r : Int32) (T : PS) (h : fX2_tipsOfAll N p S = some (r, T)) : CT mX2_tipsOfAll 1 0 [.ref p] S (qI r T) := by
  refine ct_of [some (.ref p), none, none] rfl (fun _ => rfl) (fun _ => Nat.le_of_ble_eq_true rfl) ?_
  unfold fX2_tipsOfAll at h
  refine r_iconst (v := 0) dX2_tipsOfAll_0 rfl ?_
  refine r_istore_n (L' := [some (.ref p), some (.int 0), none]) dX2_tipsOfAll_1 (Nat.le_of_ble_eq_true rfl) rfl rfl ?_
  refine r_iconst (v := 0) dX2_tipsOfAll_2 rfl ?_
  refine r_istore_n (L' := [some (.ref p), some (.int 0), some (.int 0)]) dX2_tipsOfAll_3 (Nat.le_of_ble_eq_true rfl) rfl rfl ?_
  obtain ⟨⟨x8, x9, S10⟩, h12, h⟩ := bT_e h
  dsimp only at h
  replace h := pl_s (pl_s (pl_s (h)))
  refine okX2_tipsOfAll_4 N p (qI r T) 0 (Nat.zero_le _) _ _ _ _ _ _ _ h12 ?_
  refine r_iload_n (x := x8) dX2_tipsOfAll_30 rfl ?_
  cases h
  exact r_ireturn dX2_tipsOfAll_31 rfl (Nat.zero_le _) ⟨rfl, rfl⟩
def fX2_filledAs_2 (N : Nat) (v0 : Nat) (v1 : Nat) : Nat → Int32 → PS → Option (Nat × Int32 × PS)
  | 0, _, _ => none
  | n + 1, v2, S =>
    (if 9 ≤ v2 then
      some (0, v2, S)
    else
      gd (obj v0 2) <|
      gd (arr (sr v0 1) 1 9) <|
      gd (inr v2 9) <|
      gd (obj v1 2) <|
      gd (arr (sr v1 1) 1 9) <|
      gd (inr v2 9) <|
      (if (S.1 (sr v0 1) (ix v2)) = (S.1 (sr v1 1) (ix v2)) then
        lt (v2 + 1 : Int32) fun x9 =>
        fX2_filledAs_2 N v0 v1 n x9 S
      else
        some (1, v2, S)))
set_option maxHeartbeats 4000000 in
set_option maxRecDepth 100000 in
theorem okX2_filledAs_2 (N : Nat) (v0 : Nat) (v1 : Nat) (Q : OQ) (u : Nat) (hu : u ≤ 0) : ∀ (n : Nat) (v2 : Int32) (S : PS) (tg : Nat) (y2 : Int32) (T : PS), fX2_filledAs_2 N v0 v1 n v2 S = some (tg, y2, T) → (tg = 0 → WP [] mX2_filledAs 0 0 Q 31 [some (.ref v0), some (.ref v1), some (.int y2)] [] T u) → (tg = 1 → WP [] mX2_filledAs 0 0 Q 23 [some (.ref v0), some (.ref v1), some (.int y2)] [] T u) → WP [] mX2_filledAs 0 0 Q 2 [some (.ref v0), some (.ref v1), some (.int v2)] [] S u := by
  intro n
  induction n with
  | zero => intro v2 S tg y2 T h; rw [fX2_filledAs_2] at h; cases h
  | succ n ih =>
    intro v2 S tg y2 T h k0 k1
    rw [fX2_filledAs_2] at h
    refine r_iload_n (x := v2) dX2_filledAs_2 rfl ?_
    refine r_bipush (v := 9) dX2_filledAs_3 rfl ?_
    refine r_icmp_ge (tgt := 31) dX2_filledAs_5 (by decide) (fun c1 => ?_) (fun c1 => ?_)
    · rw [if_pos c1] at h
      cases h
      exact k0 rfl
    · rw [if_neg c1] at h
      refine r_aload_n (x := v0) dX2_filledAs_8 rfl ?_
      obtain ⟨g2, h⟩ := gd_e h
      refine r_getfield (o := v0) (v := .ref (sr v0 1)) dX2_filledAs_9 lX2_15 g2.1 g2.2 rfl ?_
      refine r_iload_n (x := v2) dX2_filledAs_12 rfl ?_
      obtain ⟨g3, h⟩ := gd_e h
      obtain ⟨g4, h⟩ := gd_e h
      refine r_iaload (a := (sr v0 1)) dX2_filledAs_13 g3.1 g3.2 (inr_IX g4) ?_
      refine r_aload_n (x := v1) dX2_filledAs_14 rfl ?_
      obtain ⟨g5, h⟩ := gd_e h
      refine r_getfield (o := v1) (v := .ref (sr v1 1)) dX2_filledAs_15 lX2_15 g5.1 g5.2 rfl ?_
      refine r_iload_n (x := v2) dX2_filledAs_18 rfl ?_
      obtain ⟨g6, h⟩ := gd_e h
      obtain ⟨g7, h⟩ := gd_e h
      refine r_iaload (a := (sr v1 1)) dX2_filledAs_19 g6.1 g6.2 (inr_IX g7) ?_
      refine r_icmp_eq (tgt := 25) dX2_filledAs_20 (by decide) (fun c8 => ?_) (fun c8 => ?_)
      · rw [if_pos c8] at h
        obtain ⟨x9, hx9⟩ : ∃ y : Int32, y = (v2 + 1 : Int32) := ⟨_, rfl⟩
        replace h := lt_e hx9 h
        refine r_iinc (x := v2) (v := x9) (L' := [some (.ref v0), some (.ref v1), some (.int x9)]) dX2_filledAs_25 rfl (by rw [hx9]; rfl) (Nat.le_of_ble_eq_true rfl) rfl rfl ?_
        refine r_goto (tgt := 2) dX2_filledAs_28 (by decide) ?_
        exact ih _ _ _ _ _ h k0 k1
      · rw [if_neg c8] at h
        cases h
        exact k1 rfl
def fX2_filledAs (N : Nat) (p : Nat) (p0 : Nat) (S : PS) : Option (Int32 × PS) :=
  bT (fX2_filledAs_2 N p p0 N 0 S) fun q10 =>
  lt (q10.1 : Nat) fun t13 =>
  lt (q10.2.1 : Int32) fun x11 =>
  lt (q10.2.2 : PS) fun S12 =>
  (if t13 = 0 then
    some (1, S12)
  else 
    some (0, S12))
set_option maxHeartbeats 4000000 in
set_option maxRecDepth 100000 in
theorem okX2_filledAs (N : Nat) (p : Nat) (p0 : Nat) (S : PS) (r : Int32) (T : PS) (h : fX2_filledAs N p p0 S = some (r, T)) : CT mX2_filledAs 0 0 [.ref p, .ref p0] S (qI r T) := by
  refine ct_of [some (.ref p), some (.ref p0), none] rfl (fun _ => rfl) (fun _ => Nat.le_of_ble_eq_true rfl) ?_
  unfold fX2_filledAs at h
  refine r_iconst (v := 0) dX2_filledAs_0 rfl ?_
  refine r_istore_n (L' := [some (.ref p), some (.ref p0), some (.int 0)]) dX2_filledAs_1 (Nat.le_of_ble_eq_true rfl) rfl rfl ?_
  obtain ⟨⟨t13, x11, S12⟩, h14, h⟩ := bT_e h
  dsimp only at h
  replace h := pl_s (pl_s (pl_s (h)))
  refine okX2_filledAs_2 N p p0 (qI r T) 0 (Nat.zero_le _) _ _ _ _ _ _ h14 (fun et13 => ?_) (fun et13 => ?_)
  · rw [if_pos et13] at h
    refine r_iconst (v := 1) dX2_filledAs_31 rfl ?_
    cases h
    exact r_zreturn dX2_filledAs_32 rfl rfl (Nat.zero_le _) ⟨rfl, rfl⟩
  · rw [if_neg (by rw [et13]; decide)] at h
    refine r_iconst (v := 0) dX2_filledAs_23 rfl ?_
    cases h
    exact r_zreturn dX2_filledAs_24 rfl rfl (Nat.zero_le _) ⟨rfl, rfl⟩
def fX2_setHolds (N : Nat) (p : Nat) (p0 : Int32) (p1 : Int32) (S : PS) : Option PS :=
  gd (obj p 2) <|
  gd (arr (sr p 0) 1 9) <|
  gd (inr p0 9) <|
  lt ((u2 S.1 (sr p 0) (ix p0) p1, S.2) : PS) fun S4 =>
  gd (obj p 2) <|
  gd (obj p 2) <|
  gd (arr (sr p 1) 1 9) <|
  gd (inr p0 9) <|
  lt ((if (p1 - 1) < (S4.1 (sr p 1) (ix p0)) then (p1 - 1) else (S4.1 (sr p 1) (ix p0))) : Int32) fun x9 =>
  gd (arr (sr p 1) 1 9) <|
  gd (inr p0 9) <|
  lt ((u2 S4.1 (sr p 1) (ix p0) x9, S4.2) : PS) fun S12 =>
  some S12
set_option maxHeartbeats 4000000 in
set_option maxRecDepth 100000 in
theorem okX2_setHolds (N : Nat) (p : Nat) (p0 : Int32) (p1 : Int32) (S : PS) (T : PS) (h : fX2_setHolds N p p0 p1 S = some T) : CT mX2_setHolds 1 0 [.ref p, .int p0, .int p1] S (qV T) := by
  refine ct_of [some (.ref p), some (.int p0), some (.int p1)] rfl (fun _ => rfl) (fun _ => Nat.le_of_ble_eq_true rfl) ?_
  unfold fX2_setHolds at h
  refine r_aload_n (x := p) dX2_setHolds_0 rfl ?_
  obtain ⟨g1, h⟩ := gd_e h
  refine r_getfield (o := p) (v := .ref (sr p 0)) dX2_setHolds_1 lX2_9 g1.1 g1.2 rfl ?_
  refine r_iload_n (x := p0) dX2_setHolds_4 rfl ?_
  refine r_iload_n (x := p1) dX2_setHolds_5 rfl ?_
  obtain ⟨g2, h⟩ := gd_e h
  obtain ⟨g3, h⟩ := gd_e h
  refine r_iastore (a := (sr p 0)) dX2_setHolds_6 g2.1 g2.2 (inr_IX g3) ?_
  refine r_topS (fun S4 hS4 => ?_)
  replace h := lt_e hS4 h
  refine r_aload_n (x := p) dX2_setHolds_7 rfl ?_
  obtain ⟨g5, h⟩ := gd_e h
  refine r_getfield (o := p) (v := .ref (sr p 1)) dX2_setHolds_8 lX2_15 g5.1 g5.2 rfl ?_
  refine r_iload_n (x := p0) dX2_setHolds_11 rfl ?_
  refine r_aload_n (x := p) dX2_setHolds_12 rfl ?_
  obtain ⟨g6, h⟩ := gd_e h
  refine r_getfield (o := p) (v := .ref (sr p 1)) dX2_setHolds_13 lX2_15 g6.1 g6.2 rfl ?_
  refine r_iload_n (x := p0) dX2_setHolds_16 rfl ?_
  obtain ⟨g7, h⟩ := gd_e h
  obtain ⟨g8, h⟩ := gd_e h
  refine r_iaload (a := (sr p 1)) dX2_setHolds_17 g7.1 g7.2 (inr_IX g8) ?_
  refine r_iload_n (x := p1) dX2_setHolds_18 rfl ?_
  refine r_iconst (v := 1) dX2_setHolds_19 rfl ?_
  refine r_isub dX2_setHolds_20 ?_
  refine r_mmin dX2_setHolds_21 qX2_55 (by decide) (Nat.zero_le _) (Nat.le_of_ble_eq_true rfl) ?_
  refine r_topi (fun x9 hx9 => ?_)
  replace h := lt_e hx9 h
  obtain ⟨g10, h⟩ := gd_e h
  obtain ⟨g11, h⟩ := gd_e h
  refine r_iastore (a := (sr p 1)) dX2_setHolds_24 g10.1 g10.2 (inr_IX g11) ?_
  refine r_topS (fun S12 hS12 => ?_)
  replace h := lt_e hS12 h
  cases h
  exact r_return dX2_setHolds_25 rfl (Nat.zero_le _) ⟨rfl, rfl⟩
def fX2_leadsJust (N : Nat) (p : Nat) (p0 : Int32) (p1 : Int32) (S : PS) : Option (Int32 × PS) :=
  gd (obj p 2) <|
  gd (arr (sr p 2) 1 9) <|
  gd (inr p0 9) <|
  (if (S.1 (sr p 2) (ix p0)) = p1 then
    gd (obj p 2) <|
    gd (arr (sr p 3) 1 9) <|
    gd (inr p0 9) <|
    lt ((if (S.1 (sr p 3) (ix p0)) = (-1) then 1 else 0) : Int32) fun x9 =>
    gd (b01 x9) <|
    some (x9, S)
  else
    some (0, S))
set_option maxHeartbeats 4000000 in
set_option maxRecDepth 100000 in
theorem okX2_leadsJust (N : Nat) (p : Nat) (p0 : Int32) (p1 : Int32) (S : PS) (r : Int32) (T : PS) (h : fX2_leadsJust N p p0 p1 S = some (r, T)) : CT mX2_leadsJust 0 0 [.ref p, .int p0, .int p1] S (qI r T) := by
  refine ct_of [some (.ref p), some (.int p0), some (.int p1)] rfl (fun _ => rfl) (fun _ => Nat.le_of_ble_eq_true rfl) ?_
  unfold fX2_leadsJust at h
  refine r_aload_n (x := p) dX2_leadsJust_0 rfl ?_
  obtain ⟨g1, h⟩ := gd_e h
  refine r_getfield (o := p) (v := .ref (sr p 2)) dX2_leadsJust_1 lX2_18 g1.1 g1.2 rfl ?_
  refine r_iload_n (x := p0) dX2_leadsJust_4 rfl ?_
  obtain ⟨g2, h⟩ := gd_e h
  obtain ⟨g3, h⟩ := gd_e h
  refine r_iaload (a := (sr p 2)) dX2_leadsJust_5 g2.1 g2.2 (inr_IX g3) ?_
  refine r_iload_n (x := p1) dX2_leadsJust_6 rfl ?_
  refine r_icmp_ne (tgt := 24) dX2_leadsJust_7 (by decide) (fun c4 => ?_) (fun c4 => ?_)
  · rw [if_neg c4] at h
    refine r_iconst (v := 0) dX2_leadsJust_24 rfl ?_
    cases h
    exact r_zreturn dX2_leadsJust_25 rfl rfl (Nat.zero_le _) ⟨rfl, rfl⟩
  · rw [if_pos c4] at h
    refine r_aload_n (x := p) dX2_leadsJust_10 rfl ?_
    obtain ⟨g5, h⟩ := gd_e h
    refine r_getfield (o := p) (v := .ref (sr p 3)) dX2_leadsJust_11 lX2_21 g5.1 g5.2 rfl ?_
    refine r_iload_n (x := p0) dX2_leadsJust_14 rfl ?_
    obtain ⟨g6, h⟩ := gd_e h
    obtain ⟨g7, h⟩ := gd_e h
    refine r_iaload (a := (sr p 3)) dX2_leadsJust_15 g6.1 g6.2 (inr_IX g7) ?_
    refine r_iconst (v := (-1)) dX2_leadsJust_16 rfl ?_
    obtain ⟨x9, hx9⟩ : ∃ y : Int32, y = ((if (S.1 (sr p 3) (ix p0)) = (-1) then 1 else 0) : Int32) := ⟨_, rfl⟩
    replace h := lt_e hx9 h
    have keyx9 : WP [] mX2_leadsJust 0 0 (qI r T) 25 [some (.ref p), some (.int p0), some (.int p1)] (.int x9 :: []) S 0 := by
      obtain ⟨g10, h⟩ := gd_e h
      cases h
      exact r_zreturn dX2_leadsJust_25 rfl (nar01 g10) (Nat.zero_le _) ⟨rfl, rfl⟩
    refine r_icmp_ne (tgt := 24) dX2_leadsJust_17 (by decide) (fun c8 => ?_) (fun c8 => ?_)
    · refine r_iconst (v := 0) dX2_leadsJust_24 rfl ?_
      exact r_tope (by rw [hx9, if_neg c8]) keyx9
    · refine r_iconst (v := 1) dX2_leadsJust_20 rfl ?_
      refine r_goto (tgt := 25) dX2_leadsJust_21 (by decide) ?_
      exact r_tope (by rw [hx9, if_pos c8]) keyx9
def fX2_intoOfDrop (N : Nat) (p : Nat) (p0 : Int32) (p1 : Int32) (S : PS) : Option (Int32 × PS) :=
  gd (obj p 2) <|
  gd (arr (sr p 3) 1 9) <|
  gd (inr p0 9) <|
  (if (S.1 (sr p 3) (ix p0)) = (-1) then
    gd (obj p 2) <|
    gd (arr (sr p 2) 1 9) <|
    gd (inr p0 9) <|
    some ((S.1 (sr p 2) (ix p0)), S)
  else
    gd (obj p 2) <|
    lt ((((S.1 p 8) >>> (p0 &&& 31)) + p1) : Int32) fun x6 =>
    (if (x6 &&& 1) = 0 then
      gd (obj p 2) <|
      gd (arr (sr p 2) 1 9) <|
      gd (inr p0 9) <|
      some ((S.1 (sr p 2) (ix p0)), S)
    else
      gd (obj p 2) <|
      gd (arr (sr p 3) 1 9) <|
      gd (inr p0 9) <|
      some ((S.1 (sr p 3) (ix p0)), S)))
set_option maxHeartbeats 4000000 in
set_option maxRecDepth 100000 in
theorem okX2_intoOfDrop (N : Nat) (p : Nat) (p0 : Int32) (p1 : Int32) (S : PS) (r : Int32) (T : PS) (h : fX2_intoOfDrop N p p0 p1 S = some (r, T)) : CT mX2_intoOfDrop 0 0 [.ref p, .int p0, .int p1] S (qI r T) := by
  refine ct_of [some (.ref p), some (.int p0), some (.int p1), none] rfl (fun _ => rfl) (fun _ => Nat.le_of_ble_eq_true rfl) ?_
  unfold fX2_intoOfDrop at h
  refine r_aload_n (x := p) dX2_intoOfDrop_0 rfl ?_
  obtain ⟨g1, h⟩ := gd_e h
  refine r_getfield (o := p) (v := .ref (sr p 3)) dX2_intoOfDrop_1 lX2_21 g1.1 g1.2 rfl ?_
  refine r_iload_n (x := p0) dX2_intoOfDrop_4 rfl ?_
  obtain ⟨g2, h⟩ := gd_e h
  obtain ⟨g3, h⟩ := gd_e h
  refine r_iaload (a := (sr p 3)) dX2_intoOfDrop_5 g2.1 g2.2 (inr_IX g3) ?_
  refine r_iconst (v := (-1)) dX2_intoOfDrop_6 rfl ?_
  refine r_icmp_ne (tgt := 17) dX2_intoOfDrop_7 (by decide) (fun c4 => ?_) (fun c4 => ?_)
  · rw [if_neg c4] at h
    refine r_aload_n (x := p) dX2_intoOfDrop_17 rfl ?_
    obtain ⟨g5, h⟩ := gd_e h
    refine r_getfield (o := p) (v := .int (S.1 p 8)) dX2_intoOfDrop_18 lX2_37 g5.1 g5.2 rfl ?_
    refine r_iload_n (x := p0) dX2_intoOfDrop_21 rfl ?_
    refine r_ishr dX2_intoOfDrop_22 ?_
    refine r_iload_n (x := p1) dX2_intoOfDrop_23 rfl ?_
    refine r_iadd dX2_intoOfDrop_24 ?_
    refine r_topi (fun x6 hx6 => ?_)
    replace h := lt_e hx6 h
    refine r_istore_n (L' := [some (.ref p), some (.int p0), some (.int p1), some (.int x6)]) dX2_intoOfDrop_25 (Nat.le_of_ble_eq_true rfl) rfl rfl ?_
    refine r_iload_n (x := x6) dX2_intoOfDrop_26 rfl ?_
    refine r_iconst (v := 1) dX2_intoOfDrop_27 rfl ?_
    refine r_iand dX2_intoOfDrop_28 ?_
    refine r_if_ne (tgt := 41) dX2_intoOfDrop_29 (by decide) (fun c7 => ?_) (fun c7 => ?_)
    · rw [if_neg c7] at h
      refine r_aload_n (x := p) dX2_intoOfDrop_41 rfl ?_
      obtain ⟨g8, h⟩ := gd_e h
      refine r_getfield (o := p) (v := .ref (sr p 3)) dX2_intoOfDrop_42 lX2_21 g8.1 g8.2 rfl ?_
      refine r_iload_n (x := p0) dX2_intoOfDrop_45 rfl ?_
      obtain ⟨g9, h⟩ := gd_e h
      obtain ⟨g10, h⟩ := gd_e h
      refine r_iaload (a := (sr p 3)) dX2_intoOfDrop_46 g9.1 g9.2 (inr_IX g10) ?_
      cases h
      exact r_ireturn dX2_intoOfDrop_47 rfl (Nat.zero_le _) ⟨rfl, rfl⟩
    · rw [if_pos c7] at h
      refine r_aload_n (x := p) dX2_intoOfDrop_32 rfl ?_
      obtain ⟨g11, h⟩ := gd_e h
      refine r_getfield (o := p) (v := .ref (sr p 2)) dX2_intoOfDrop_33 lX2_18 g11.1 g11.2 rfl ?_
      refine r_iload_n (x := p0) dX2_intoOfDrop_36 rfl ?_
      obtain ⟨g12, h⟩ := gd_e h
      obtain ⟨g13, h⟩ := gd_e h
      refine r_iaload (a := (sr p 2)) dX2_intoOfDrop_37 g12.1 g12.2 (inr_IX g13) ?_
      refine r_goto (tgt := 47) dX2_intoOfDrop_38 (by decide) ?_
      cases h
      exact r_ireturn dX2_intoOfDrop_47 rfl (Nat.zero_le _) ⟨rfl, rfl⟩
  · rw [if_pos c4] at h
    refine r_aload_n (x := p) dX2_intoOfDrop_10 rfl ?_
    obtain ⟨g14, h⟩ := gd_e h
    refine r_getfield (o := p) (v := .ref (sr p 2)) dX2_intoOfDrop_11 lX2_18 g14.1 g14.2 rfl ?_
    refine r_iload_n (x := p0) dX2_intoOfDrop_14 rfl ?_
    obtain ⟨g15, h⟩ := gd_e h
    obtain ⟨g16, h⟩ := gd_e h
    refine r_iaload (a := (sr p 2)) dX2_intoOfDrop_15 g15.1 g15.2 (inr_IX g16) ?_
    cases h
    exact r_ireturn dX2_intoOfDrop_16 rfl (Nat.zero_le _) ⟨rfl, rfl⟩
def fX2_dropsIntoFirst (N : Nat) (p : Nat) (p0 : Int32) (p1 : Int32) (S : PS) : Option (Int32 × PS) :=
  gd (obj p 2) <|
  gd (arr (sr p 3) 1 9) <|
  gd (inr p0 9) <|
  (if (S.1 (sr p 3) (ix p0)) = (-1) then
    some (p1, S)
  else
    gd (obj p 2) <|
    lt ((1 - (((S.1 p 8) >>> (p0 &&& 31)) &&& 1)) : Int32) fun x6 =>
    some (((p1 + x6) / 2), S))
set_option maxHeartbeats 4000000 in
set_option maxRecDepth 100000 in
theorem okX2_dropsIntoFirst (N : Nat) (p : Nat) (p0 : Int32) (p1 : Int32) (S : PS) (r : Int32) (T : PS) (h : fX2_dropsIntoFirst N p p0 p1 S = some (r, T)) : CT mX2_dropsIntoFirst 0 0 [.ref p, .int p0, .int p1] S (qI r T) := by
  refine ct_of [some (.ref p), some (.int p0), some (.int p1), none] rfl (fun _ => rfl) (fun _ => Nat.le_of_ble_eq_true rfl) ?_
  unfold fX2_dropsIntoFirst at h
  refine r_aload_n (x := p) dX2_dropsIntoFirst_0 rfl ?_
  obtain ⟨g1, h⟩ := gd_e h
  refine r_getfield (o := p) (v := .ref (sr p 3)) dX2_dropsIntoFirst_1 lX2_21 g1.1 g1.2 rfl ?_
  refine r_iload_n (x := p0) dX2_dropsIntoFirst_4 rfl ?_
  obtain ⟨g2, h⟩ := gd_e h
  obtain ⟨g3, h⟩ := gd_e h
  refine r_iaload (a := (sr p 3)) dX2_dropsIntoFirst_5 g2.1 g2.2 (inr_IX g3) ?_
  refine r_iconst (v := (-1)) dX2_dropsIntoFirst_6 rfl ?_
  refine r_icmp_ne (tgt := 12) dX2_dropsIntoFirst_7 (by decide) (fun c4 => ?_) (fun c4 => ?_)
  · rw [if_neg c4] at h
    refine r_iconst (v := 1) dX2_dropsIntoFirst_12 rfl ?_
    refine r_aload_n (x := p) dX2_dropsIntoFirst_13 rfl ?_
    obtain ⟨g5, h⟩ := gd_e h
    refine r_getfield (o := p) (v := .int (S.1 p 8)) dX2_dropsIntoFirst_14 lX2_37 g5.1 g5.2 rfl ?_
    refine r_iload_n (x := p0) dX2_dropsIntoFirst_17 rfl ?_
    refine r_ishr dX2_dropsIntoFirst_18 ?_
    refine r_iconst (v := 1) dX2_dropsIntoFirst_19 rfl ?_
    refine r_iand dX2_dropsIntoFirst_20 ?_
    refine r_isub dX2_dropsIntoFirst_21 ?_
    refine r_topi (fun x6 hx6 => ?_)
    replace h := lt_e hx6 h
    refine r_istore_n (L' := [some (.ref p), some (.int p0), some (.int p1), some (.int x6)]) dX2_dropsIntoFirst_22 (Nat.le_of_ble_eq_true rfl) rfl rfl ?_
    refine r_iload_n (x := p1) dX2_dropsIntoFirst_23 rfl ?_
    refine r_iload_n (x := x6) dX2_dropsIntoFirst_24 rfl ?_
    refine r_iadd dX2_dropsIntoFirst_25 ?_
    refine r_iconst (v := 2) dX2_dropsIntoFirst_26 rfl ?_
    refine r_idiv dX2_dropsIntoFirst_27 (by decide) ?_
    cases h
    exact r_ireturn dX2_dropsIntoFirst_28 rfl (Nat.zero_le _) ⟨rfl, rfl⟩
  · rw [if_pos c4] at h
    refine r_iload_n (x := p1) dX2_dropsIntoFirst_10 rfl ?_
    cases h
    exact r_ireturn dX2_dropsIntoFirst_11 rfl (Nat.zero_le _) ⟨rfl, rfl⟩
def fX2_dropsInto (N : Nat) (p : Nat) (p0 : Int32) (p1 : Int32) (p2 : Int32) (S : PS) : Option (Int32 × PS) :=
  gd (obj p 2) <|
  bI (fX2_dropsIntoFirst N p p0 p2 S) fun x1 S2 =>
  gd (obj p 2) <|
  gd (arr (sr p 2) 1 9) <|
  gd (inr p0 9) <|
  lt ((if (S2.1 (sr p 2) (ix p0)) = p1 then x1 else 0) : Int32) fun x9 =>
  gd (obj p 2) <|
  gd (arr (sr p 3) 1 9) <|
  gd (inr p0 9) <|
  lt ((if (S2.1 (sr p 3) (ix p0)) = p1 then ((x9 + p2) - x1) else x9) : Int32) fun x14 =>
  some (x14, S2)
set_option maxHeartbeats 4000000 in
set_option maxRecDepth 100000 in
theorem okX2_dropsInto (N : Nat) (p : Nat) (p0 : Int32) (p1 : Int32) (p2 : Int32) (S : PS) (r : Int32) (T : PS) (h : fX2_dropsInto N p p0 p1 p2 S = some (r, T)) : CT mX2_dropsInto 1 0 [.ref p, .int p0, .int p1, .int p2] S (qI r T) := by
  refine ct_of [some (.ref p), some (.int p0), some (.int p1), some (.int p2), none, none] rfl (fun _ => rfl) (fun _ => Nat.le_of_ble_eq_true rfl) ?_
  unfold fX2_dropsInto at h
  refine r_aload_n (x := p) dX2_dropsInto_0 rfl ?_
  refine r_iload_n (x := p0) dX2_dropsInto_1 rfl ?_
  refine r_iload_n (x := p2) dX2_dropsInto_2 rfl ?_
  obtain ⟨g4, h⟩ := gd_e h
  obtain ⟨x1, S2, h3, h⟩ := bI_e h
  refine r_cVI (y := mX2_dropsIntoFirst) (As := [.int p0, .int p2]) (rest := []) dX2_dropsInto_3 qX2_69 kX2_dropsIntoFirst rfl g4 vc2 rfl (okX2_dropsIntoFirst N p p0 p2 S x1 S2 h3) (by decide) (Nat.zero_le _) rfl (Nat.le_of_ble_eq_true rfl) ?_
  refine r_istore (L' := [some (.ref p), some (.int p0), some (.int p1), some (.int p2), some (.int x1), none]) dX2_dropsInto_6 (Nat.le_of_ble_eq_true rfl) rfl rfl ?_
  refine r_aload_n (x := p) dX2_dropsInto_8 rfl ?_
  obtain ⟨g5, h⟩ := gd_e h
  refine r_getfield (o := p) (v := .ref (sr p 2)) dX2_dropsInto_9 lX2_18 g5.1 g5.2 rfl ?_
  refine r_iload_n (x := p0) dX2_dropsInto_12 rfl ?_
  obtain ⟨g6, h⟩ := gd_e h
  obtain ⟨g7, h⟩ := gd_e h
  refine r_iaload (a := (sr p 2)) dX2_dropsInto_13 g6.1 g6.2 (inr_IX g7) ?_
  refine r_iload_n (x := p1) dX2_dropsInto_14 rfl ?_
  obtain ⟨x9, hx9⟩ : ∃ y : Int32, y = ((if (S2.1 (sr p 2) (ix p0)) = p1 then x1 else 0) : Int32) := ⟨_, rfl⟩
  replace h := lt_e hx9 h
  have keyx9 : WP [] mX2_dropsInto 1 0 (qI r T) 24 [some (.ref p), some (.int p0), some (.int p1), some (.int p2), some (.int x1), none] (.int x9 :: []) S2 0 := by
    refine r_istore (L' := [some (.ref p), some (.int p0), some (.int p1), some (.int p2), some (.int x1), some (.int x9)]) dX2_dropsInto_24 (Nat.le_of_ble_eq_true rfl) rfl rfl ?_
    refine r_aload_n (x := p) dX2_dropsInto_26 rfl ?_
    obtain ⟨g10, h⟩ := gd_e h
    refine r_getfield (o := p) (v := .ref (sr p 3)) dX2_dropsInto_27 lX2_21 g10.1 g10.2 rfl ?_
    refine r_iload_n (x := p0) dX2_dropsInto_30 rfl ?_
    obtain ⟨g11, h⟩ := gd_e h
    obtain ⟨g12, h⟩ := gd_e h
    refine r_iaload (a := (sr p 3)) dX2_dropsInto_31 g11.1 g11.2 (inr_IX g12) ?_
    refine r_iload_n (x := p1) dX2_dropsInto_32 rfl ?_
    obtain ⟨x14, hx14⟩ : ∃ y : Int32, y = ((if (S2.1 (sr p 3) (ix p0)) = p1 then ((x9 + p2) - x1) else x9) : Int32) := ⟨_, rfl⟩
    replace h := lt_e hx14 h
    have keyx14 : WP [] mX2_dropsInto 1 0 (qI r T) 48 [some (.ref p), some (.int p0), some (.int p1), some (.int p2), some (.int x1), some (.int x9)] (.int x14 :: []) S2 0 := by
      cases h
      exact r_ireturn dX2_dropsInto_48 rfl (Nat.zero_le _) ⟨rfl, rfl⟩
    refine r_icmp_ne (tgt := 46) dX2_dropsInto_33 (by decide) (fun c13 => ?_) (fun c13 => ?_)
    · refine r_iload (x := x9) dX2_dropsInto_46 rfl ?_
      exact r_tope (by rw [hx14, if_neg c13]) keyx14
    · refine r_iload (x := x9) dX2_dropsInto_36 rfl ?_
      refine r_iload_n (x := p2) dX2_dropsInto_38 rfl ?_
      refine r_iadd dX2_dropsInto_39 ?_
      refine r_iload (x := x1) dX2_dropsInto_40 rfl ?_
      refine r_isub dX2_dropsInto_42 ?_
      refine r_goto (tgt := 48) dX2_dropsInto_43 (by decide) ?_
      exact r_tope (by rw [hx14, if_pos c13]) keyx14
  refine r_icmp_ne (tgt := 23) dX2_dropsInto_15 (by decide) (fun c8 => ?_) (fun c8 => ?_)
  · refine r_iconst (v := 0) dX2_dropsInto_23 rfl ?_
    exact r_tope (by rw [hx9, if_neg c8]) keyx9
  · refine r_iload (x := x1) dX2_dropsInto_18 rfl ?_
    refine r_goto (tgt := 24) dX2_dropsInto_20 (by decide) ?_
    exact r_tope (by rw [hx9, if_pos c8]) keyx9
def fX2_passTurns (N : Nat) (p : Nat) (p0 : Int32) (p1 : Int32) (S : PS) : Option PS :=
  gd (obj p 2) <|
  gd (arr (sr p 3) 1 9) <|
  gd (inr p0 9) <|
  (if (S.1 (sr p 3) (ix p0)) = (-1) then
    some S
  else
    (if (p1 &&& 1) = 1 then
      gd (obj p 2) <|
      gd (obj p 2) <|
      lt ((u2 S.1 p 8 ((S.1 p 8) ^^^ (1 <<< (p0 &&& 31))), S.2) : PS) fun S8 =>
      some S8
    else
      some S))
set_option maxHeartbeats 4000000 in
set_option maxRecDepth 100000 in
theorem okX2_passTurns (N : Nat) (p : Nat) (p0 : Int32) (p1 : Int32) (S : PS) (T : PS) (h : fX2_passTurns N p p0 p1 S = some T) : CT mX2_passTurns 0 0 [.ref p, .int p0, .int p1] S (qV T) := by
  refine ct_of [some (.ref p), some (.int p0), some (.int p1)] rfl (fun _ => rfl) (fun _ => Nat.le_of_ble_eq_true rfl) ?_
  unfold fX2_passTurns at h
  refine r_aload_n (x := p) dX2_passTurns_0 rfl ?_
  obtain ⟨g1, h⟩ := gd_e h
  refine r_getfield (o := p) (v := .ref (sr p 3)) dX2_passTurns_1 lX2_21 g1.1 g1.2 rfl ?_
  refine r_iload_n (x := p0) dX2_passTurns_4 rfl ?_
  obtain ⟨g2, h⟩ := gd_e h
  obtain ⟨g3, h⟩ := gd_e h
  refine r_iaload (a := (sr p 3)) dX2_passTurns_5 g2.1 g2.2 (inr_IX g3) ?_
  refine r_iconst (v := (-1)) dX2_passTurns_6 rfl ?_
  refine r_icmp_eq (tgt := 29) dX2_passTurns_7 (by decide) (fun c4 => ?_) (fun c4 => ?_)
  · rw [if_pos c4] at h
    cases h
    exact r_return dX2_passTurns_29 rfl (Nat.zero_le _) ⟨rfl, rfl⟩
  · rw [if_neg c4] at h
    refine r_iload_n (x := p1) dX2_passTurns_10 rfl ?_
    refine r_iconst (v := 1) dX2_passTurns_11 rfl ?_
    refine r_iand dX2_passTurns_12 ?_
    refine r_iconst (v := 1) dX2_passTurns_13 rfl ?_
    refine r_icmp_ne (tgt := 29) dX2_passTurns_14 (by decide) (fun c5 => ?_) (fun c5 => ?_)
    · rw [if_neg c5] at h
      cases h
      exact r_return dX2_passTurns_29 rfl (Nat.zero_le _) ⟨rfl, rfl⟩
    · rw [if_pos c5] at h
      refine r_aload_n (x := p) dX2_passTurns_17 rfl ?_
      refine r_dup_ref dX2_passTurns_18 ?_
      obtain ⟨g6, h⟩ := gd_e h
      refine r_getfield (o := p) (v := .int (S.1 p 8)) dX2_passTurns_19 lX2_37 g6.1 g6.2 rfl ?_
      refine r_iconst (v := 1) dX2_passTurns_22 rfl ?_
      refine r_iload_n (x := p0) dX2_passTurns_23 rfl ?_
      refine r_ishl dX2_passTurns_24 ?_
      refine r_ixor dX2_passTurns_25 ?_
      obtain ⟨g7, h⟩ := gd_e h
      refine r_putI dX2_passTurns_26 lX2_37 g7.1 g7.2 ?_
      refine r_topS (fun S8 hS8 => ?_)
      replace h := lt_e hS8 h
      cases h
      exact r_return dX2_passTurns_29 rfl (Nat.zero_le _) ⟨rfl, rfl⟩
def fX3_give (N : Nat) (p0 : Int32) (p1 : Int32) (S : PS) : Option PS :=
  (if p0 < 0 then
    lt ((u2 S.1 5 6 ((S.1 5 6) + p1), S.2) : PS) fun S2 =>
    some S2
  else
    (if 9 ≤ p0 then
      lt ((u2 S.1 5 6 ((S.1 5 6) + p1), S.2) : PS) fun S4 =>
      some S4
    else
      gd (inr p0 9) <|
      gd (inr p0 9) <|
      lt ((u2 S.1 27 (ix p0) ((S.1 27 (ix p0)) + p1), S.2) : PS) fun S7 =>
      some S7))
set_option maxHeartbeats 4000000 in
set_option maxRecDepth 100000 in
theorem okX3_give (N : Nat) (p0 : Int32) (p1 : Int32) (S : PS) (T : PS) (h : fX3_give N p0 p1 S = some T) : CT mX3_give 0 0 [.ref 5, .int p0, .int p1] S (qV T) := by
  refine ct_of [some (.ref 5), some (.int p0), some (.int p1)] rfl (fun _ => rfl) (fun _ => Nat.le_of_ble_eq_true rfl) ?_
  unfold fX3_give at h
  refine r_iload_n (x := p0) dX3_give_0 rfl ?_
  refine r_if_lt (tgt := 23) dX3_give_1 (by decide) (fun c1 => ?_) (fun c1 => ?_)
  · rw [if_pos c1] at h
    refine r_aload_n (x := 5) dX3_give_23 rfl ?_
    refine r_dup_ref dX3_give_24 ?_
    refine r_getfield (o := 5) (v := .int (S.1 5 6)) dX3_give_25 lX3_39 ck5 nC5 rfl ?_
    refine r_iload_n (x := p1) dX3_give_28 rfl ?_
    refine r_iadd dX3_give_29 ?_
    refine r_putI dX3_give_30 lX3_39 ck5 nC5 ?_
    refine r_topS (fun S2 hS2 => ?_)
    replace h := lt_e hS2 h
    cases h
    exact r_return dX3_give_33 rfl (Nat.zero_le _) ⟨rfl, rfl⟩
  · rw [if_neg c1] at h
    refine r_iload_n (x := p0) dX3_give_4 rfl ?_
    refine r_bipush (v := 9) dX3_give_5 rfl ?_
    refine r_icmp_ge (tgt := 23) dX3_give_7 (by decide) (fun c3 => ?_) (fun c3 => ?_)
    · rw [if_pos c3] at h
      refine r_aload_n (x := 5) dX3_give_23 rfl ?_
      refine r_dup_ref dX3_give_24 ?_
      refine r_getfield (o := 5) (v := .int (S.1 5 6)) dX3_give_25 lX3_39 ck5 nC5 rfl ?_
      refine r_iload_n (x := p1) dX3_give_28 rfl ?_
      refine r_iadd dX3_give_29 ?_
      refine r_putI dX3_give_30 lX3_39 ck5 nC5 ?_
      refine r_topS (fun S4 hS4 => ?_)
      replace h := lt_e hS4 h
      cases h
      exact r_return dX3_give_33 rfl (Nat.zero_le _) ⟨rfl, rfl⟩
    · rw [if_neg c3] at h
      refine r_aload_n (x := 5) dX3_give_10 rfl ?_
      refine r_getfield (o := 5) (v := .ref 27) dX3_give_11 lX3_18 ck5 nC5 rfl ?_
      refine r_iload_n (x := p0) dX3_give_14 rfl ?_
      refine r_dup2 dX3_give_15 ?_
      obtain ⟨g5, h⟩ := gd_e h
      refine r_iaload (a := 27) dX3_give_16 ck27 nC27 (inr_IX g5) ?_
      refine r_iload_n (x := p1) dX3_give_17 rfl ?_
      refine r_iadd dX3_give_18 ?_
      obtain ⟨g6, h⟩ := gd_e h
      refine r_iastore (a := 27) dX3_give_19 ck27 nC27 (inr_IX g6) ?_
      refine r_topS (fun S7 hS7 => ?_)
      replace h := lt_e hS7 h
      refine r_goto (tgt := 33) dX3_give_20 (by decide) ?_
      cases h
      exact r_return dX3_give_33 rfl (Nat.zero_le _) ⟨rfl, rfl⟩
def fX3_timesOfAll_4 (N : Nat)  : Nat → Int32 → Int32 → PS → Option (Int32 × Int32 × PS)
  | 0, _, _, _ => none
  | n + 1, v1, v2, S =>
    lt ((S.2.2 5 3) : Nat) fun o1 =>
    gd (obj o1 1) <|
    (if (S.1 o1 4) ≤ v2 then
      some (v1, v2, S)
    else
      gd (inr v2 9) <|
      lt ((v1 + (S.1 28 (ix v2))) : Int32) fun x5 =>
      lt (v2 + 1 : Int32) fun x6 =>
      fX3_timesOfAll_4 N  n x5 x6 S)
set_option maxHeartbeats 4000000 in
set_option maxRecDepth 100000 in
theorem okX3_timesOfAll_4 (N : Nat)  (Q : OQ) (u : Nat) (hu : u ≤ 0) : ∀ (n : Nat) (v1 : Int32) (v2 : Int32) (S : PS) (y1 : Int32) (y2 : Int32) (T : PS), fX3_timesOfAll_4 N  n v1 v2 S = some (y1, y2, T) → WP [] mX3_timesOfAll 0 0 Q 30 [some (.ref 5), some (.int y1), some (.int y2)] [] T u → WP [] mX3_timesOfAll 0 0 Q 4 [some (.ref 5), some (.int v1), some (.int v2)] [] S u := by
  intro n
  induction n with
  | zero => intro v1 v2 S y1 y2 T h; rw [fX3_timesOfAll_4] at h; cases h
  | succ n ih =>
    intro v1 v2 S y1 y2 T h k0
    rw [fX3_timesOfAll_4] at h
    refine r_iload_n (x := v2) dX3_timesOfAll_4 rfl ?_
    refine r_aload_n (x := 5) dX3_timesOfAll_5 rfl ?_
    refine r_getfield (o := 5) (v := .ref (S.2.2 5 3)) dX3_timesOfAll_6 lX3_28 ck5 nC5 rfl ?_
    refine r_topr (fun o1 ho1 => ?_)
    replace h := lt_e ho1 h
    obtain ⟨g2, h⟩ := gd_e h
    refine r_getfield (o := o1) (v := .int (S.1 o1 4)) dX3_timesOfAll_9 lX3_59 g2.1 g2.2 rfl ?_
    refine r_icmp_ge (tgt := 30) dX3_timesOfAll_12 (by decide) (fun c3 => ?_) (fun c3 => ?_)
    · rw [if_pos c3] at h
      cases h
      exact k0
    · rw [if_neg c3] at h
      refine r_iload_n (x := v1) dX3_timesOfAll_15 rfl ?_
      refine r_aload_n (x := 5) dX3_timesOfAll_16 rfl ?_
      refine r_getfield (o := 5) (v := .ref 28) dX3_timesOfAll_17 lX3_22 ck5 nC5 rfl ?_
      refine r_iload_n (x := v2) dX3_timesOfAll_20 rfl ?_
      obtain ⟨g4, h⟩ := gd_e h
      refine r_iaload (a := 28) dX3_timesOfAll_21 ck28 nC28 (inr_IX g4) ?_
      refine r_iadd dX3_timesOfAll_22 ?_
      refine r_topi (fun x5 hx5 => ?_)
      replace h := lt_e hx5 h
      refine r_istore_n (L' := [some (.ref 5), some (.int x5), some (.int v2)]) dX3_timesOfAll_23 (Nat.le_of_ble_eq_true rfl) rfl rfl ?_
      obtain ⟨x6, hx6⟩ : ∃ y : Int32, y = (v2 + 1 : Int32) := ⟨_, rfl⟩
      replace h := lt_e hx6 h
      refine r_iinc (x := v2) (v := x6) (L' := [some (.ref 5), some (.int x5), some (.int x6)]) dX3_timesOfAll_24 rfl (by rw [hx6]; rfl) (Nat.le_of_ble_eq_true rfl) rfl rfl ?_
      refine r_goto (tgt := 4) dX3_timesOfAll_27 (by decide) ?_
      exact ih _ _ _ _ _ _ h k0
def fX3_timesOfAll (N : Nat)  (S : PS) : Option (Int32 × PS) :=
  bT (fX3_timesOfAll_4 N  N 0 0 S) fun q7 =>
  lt (q7.1 : Int32) fun x8 =>
  lt (q7.2.1 : Int32) fun x9 =>
  lt (q7.2.2 : PS) fun S10 =>
  some (x8, S10)
set_option maxHeartbeats 4000000 in
set_option maxRecDepth 100000 in
theorem okX3_timesOfAll (N : Nat)  (S : PS) (r : Int32) (T : PS) (h : fX3_timesOfAll N  S = some (r, T)) : CT mX3_timesOfAll 0 0 [.ref 5] S (qI r T) := by
  refine ct_of [some (.ref 5), none, none] rfl (fun _ => rfl) (fun _ => Nat.le_of_ble_eq_true rfl) ?_
  unfold fX3_timesOfAll at h
  refine r_iconst (v := 0) dX3_timesOfAll_0 rfl ?_
  refine r_istore_n (L' := [some (.ref 5), some (.int 0), none]) dX3_timesOfAll_1 (Nat.le_of_ble_eq_true rfl) rfl rfl ?_
  refine r_iconst (v := 0) dX3_timesOfAll_2 rfl ?_
  refine r_istore_n (L' := [some (.ref 5), some (.int 0), some (.int 0)]) dX3_timesOfAll_3 (Nat.le_of_ble_eq_true rfl) rfl rfl ?_
  obtain ⟨⟨x8, x9, S10⟩, h12, h⟩ := bT_e h
  dsimp only at h
  replace h := pl_s (pl_s (pl_s (h)))
  refine okX3_timesOfAll_4 N  (qI r T) 0 (Nat.zero_le _) _ _ _ _ _ _ _ h12 ?_
  refine r_iload_n (x := x8) dX3_timesOfAll_30 rfl ?_
  cases h
  exact r_ireturn dX3_timesOfAll_31 rfl (Nat.zero_le _) ⟨rfl, rfl⟩
def fX3_neverTipped_4 (N : Nat)  : Nat → Int32 → Int32 → PS → Option (Int32 × Int32 × PS)
  | 0, _, _, _ => none
  | n + 1, v1, v2, S =>
    lt ((S.2.2 5 3) : Nat) fun o1 =>
    gd (obj o1 1) <|
    (if (S.1 o1 4) ≤ v2 then
      some (v1, v2, S)
    else
      gd (inr v2 9) <|
      (if (S.1 28 (ix v2)) = 0 then
        lt ((v1 ||| (1 <<< (v2 &&& 31))) : Int32) fun x7 =>
        lt (v2 + 1 : Int32) fun x8 =>
        fX3_neverTipped_4 N  n x7 x8 S
      else
        lt (v2 + 1 : Int32) fun x6 =>
        fX3_neverTipped_4 N  n v1 x6 S))
set_option maxHeartbeats 4000000 in
set_option maxRecDepth 100000 in
theorem okX3_neverTipped_4 (N : Nat)  (Q : OQ) (u : Nat) (hu : u ≤ 0) : ∀ (n : Nat) (v1 : Int32) (v2 : Int32) (S : PS) (y1 : Int32) (y2 : Int32) (T : PS), fX3_neverTipped_4 N  n v1 v2 S = some (y1, y2, T) → WP [] mX3_neverTipped 0 0 Q 36 [some (.ref 5), some (.int y1), some (.int y2)] [] T u → WP [] mX3_neverTipped 0 0 Q 4 [some (.ref 5), some (.int v1), some (.int v2)] [] S u := by
  intro n
  induction n with
  | zero => intro v1 v2 S y1 y2 T h; rw [fX3_neverTipped_4] at h; cases h
  | succ n ih =>
    intro v1 v2 S y1 y2 T h k0
    rw [fX3_neverTipped_4] at h
    refine r_iload_n (x := v2) dX3_neverTipped_4 rfl ?_
    refine r_aload_n (x := 5) dX3_neverTipped_5 rfl ?_
    refine r_getfield (o := 5) (v := .ref (S.2.2 5 3)) dX3_neverTipped_6 lX3_28 ck5 nC5 rfl ?_
    refine r_topr (fun o1 ho1 => ?_)
    replace h := lt_e ho1 h
    obtain ⟨g2, h⟩ := gd_e h
    refine r_getfield (o := o1) (v := .int (S.1 o1 4)) dX3_neverTipped_9 lX3_59 g2.1 g2.2 rfl ?_
    refine r_icmp_ge (tgt := 36) dX3_neverTipped_12 (by decide) (fun c3 => ?_) (fun c3 => ?_)
    · rw [if_pos c3] at h
      cases h
      exact k0
    · rw [if_neg c3] at h
      refine r_aload_n (x := 5) dX3_neverTipped_15 rfl ?_
      refine r_getfield (o := 5) (v := .ref 28) dX3_neverTipped_16 lX3_22 ck5 nC5 rfl ?_
      refine r_iload_n (x := v2) dX3_neverTipped_19 rfl ?_
      obtain ⟨g4, h⟩ := gd_e h
      refine r_iaload (a := 28) dX3_neverTipped_20 ck28 nC28 (inr_IX g4) ?_
      refine r_if_ne (tgt := 30) dX3_neverTipped_21 (by decide) (fun c5 => ?_) (fun c5 => ?_)
      · rw [if_neg c5] at h
        obtain ⟨x6, hx6⟩ : ∃ y : Int32, y = (v2 + 1 : Int32) := ⟨_, rfl⟩
        replace h := lt_e hx6 h
        refine r_iinc (x := v2) (v := x6) (L' := [some (.ref 5), some (.int v1), some (.int x6)]) dX3_neverTipped_30 rfl (by rw [hx6]; rfl) (Nat.le_of_ble_eq_true rfl) rfl rfl ?_
        refine r_goto (tgt := 4) dX3_neverTipped_33 (by decide) ?_
        exact ih _ _ _ _ _ _ h k0
      · rw [if_pos c5] at h
        refine r_iload_n (x := v1) dX3_neverTipped_24 rfl ?_
        refine r_iconst (v := 1) dX3_neverTipped_25 rfl ?_
        refine r_iload_n (x := v2) dX3_neverTipped_26 rfl ?_
        refine r_ishl dX3_neverTipped_27 ?_
        refine r_ior dX3_neverTipped_28 ?_
        refine r_topi (fun x7 hx7 => ?_)
        replace h := lt_e hx7 h
        refine r_istore_n (L' := [some (.ref 5), some (.int x7), some (.int v2)]) dX3_neverTipped_29 (Nat.le_of_ble_eq_true rfl) rfl rfl ?_
        obtain ⟨x8, hx8⟩ : ∃ y : Int32, y = (v2 + 1 : Int32) := ⟨_, rfl⟩
        replace h := lt_e hx8 h
        refine r_iinc (x := v2) (v := x8) (L' := [some (.ref 5), some (.int x7), some (.int x8)]) dX3_neverTipped_30 rfl (by rw [hx8]; rfl) (Nat.le_of_ble_eq_true rfl) rfl rfl ?_
        refine r_goto (tgt := 4) dX3_neverTipped_33 (by decide) ?_
        exact ih _ _ _ _ _ _ h k0
def fX3_neverTipped (N : Nat)  (S : PS) : Option (Int32 × PS) :=
  bT (fX3_neverTipped_4 N  N 0 0 S) fun q9 =>
  lt (q9.1 : Int32) fun x10 =>
  lt (q9.2.1 : Int32) fun x11 =>
  lt (q9.2.2 : PS) fun S12 =>
  some (x10, S12)
set_option maxHeartbeats 4000000 in
set_option maxRecDepth 100000 in
theorem okX3_neverTipped (N : Nat)  (S : PS) (r : Int32) (T : PS) (h : fX3_neverTipped N  S = some (r, T)) : CT mX3_neverTipped 0 0 [.ref 5] S (qI r T) := by
  refine ct_of [some (.ref 5), none, none] rfl (fun _ => rfl) (fun _ => Nat.le_of_ble_eq_true rfl) ?_
  unfold fX3_neverTipped at h
  refine r_iconst (v := 0) dX3_neverTipped_0 rfl ?_
  refine r_istore_n (L' := [some (.ref 5), some (.int 0), none]) dX3_neverTipped_1 (Nat.le_of_ble_eq_true rfl) rfl rfl ?_
  refine r_iconst (v := 0) dX3_neverTipped_2 rfl ?_
  refine r_istore_n (L' := [some (.ref 5), some (.int 0), some (.int 0)]) dX3_neverTipped_3 (Nat.le_of_ble_eq_true rfl) rfl rfl ?_
  obtain ⟨⟨x10, x11, S12⟩, h14, h⟩ := bT_e h
  dsimp only at h
  replace h := pl_s (pl_s (pl_s (h)))
  refine okX3_neverTipped_4 N  (qI r T) 0 (Nat.zero_le _) _ _ _ _ _ _ _ h14 ?_
  refine r_iload_n (x := x10) dX3_neverTipped_36 rfl ?_
  cases h
  exact r_ireturn dX3_neverTipped_37 rfl (Nat.zero_le _) ⟨rfl, rfl⟩
def fX4_give (N : Nat) (p0 : Int32) (p1 : Int32) (S : PS) : Option PS :=
  (if p0 < 0 then
    some S
  else
    (if 9 ≤ p0 then
      some S
    else
      gd (inr p0 9) <|
      gd (inr p0 9) <|
      lt ((u2 S.1 29 (ix p0) ((S.1 29 (ix p0)) + p1), S.2) : PS) fun S5 =>
      some S5))
set_option maxHeartbeats 4000000 in
set_option maxRecDepth 100000 in
theorem okX4_give (N : Nat) (p0 : Int32) (p1 : Int32) (S : PS) (T : PS) (h : fX4_give N p0 p1 S = some T) : CT mX4_give 0 0 [.ref 6, .int p0, .int p1] S (qV T) := by
  refine ct_of [some (.ref 6), some (.int p0), some (.int p1)] rfl (fun _ => rfl) (fun _ => Nat.le_of_ble_eq_true rfl) ?_
  unfold fX4_give at h
  refine r_iload_n (x := p0) dX4_give_0 rfl ?_
  refine r_if_lt (tgt := 20) dX4_give_1 (by decide) (fun c1 => ?_) (fun c1 => ?_)
  · rw [if_pos c1] at h
    cases h
    exact r_return dX4_give_20 rfl (Nat.zero_le _) ⟨rfl, rfl⟩
  · rw [if_neg c1] at h
    refine r_iload_n (x := p0) dX4_give_4 rfl ?_
    refine r_bipush (v := 9) dX4_give_5 rfl ?_
    refine r_icmp_ge (tgt := 20) dX4_give_7 (by decide) (fun c2 => ?_) (fun c2 => ?_)
    · rw [if_pos c2] at h
      cases h
      exact r_return dX4_give_20 rfl (Nat.zero_le _) ⟨rfl, rfl⟩
    · rw [if_neg c2] at h
      refine r_aload_n (x := 6) dX4_give_10 rfl ?_
      refine r_getfield (o := 6) (v := .ref 29) dX4_give_11 lX4_9 ck6 nC6 rfl ?_
      refine r_iload_n (x := p0) dX4_give_14 rfl ?_
      refine r_dup2 dX4_give_15 ?_
      obtain ⟨g3, h⟩ := gd_e h
      refine r_iaload (a := 29) dX4_give_16 ck29 nC29 (inr_IX g3) ?_
      refine r_iload_n (x := p1) dX4_give_17 rfl ?_
      refine r_iadd dX4_give_18 ?_
      obtain ⟨g4, h⟩ := gd_e h
      refine r_iastore (a := 29) dX4_give_19 ck29 nC29 (inr_IX g4) ?_
      refine r_topS (fun S5 hS5 => ?_)
      replace h := lt_e hS5 h
      cases h
      exact r_return dX4_give_20 rfl (Nat.zero_le _) ⟨rfl, rfl⟩
def fX4_keepTimes (N : Nat)  (S : PS) : Option PS :=
  gd ((0 ≤ (0 : Int32) ∧ 0 ≤ (0 : Int32) ∧ 0 ≤ (9 : Int32)) ∧ ix 0 + ix 9 ≤ 9 ∧ ix 0 + ix 9 ≤ 9) <|
  lt ((urow S.1 31 (va_cpy (S.1 30) (S.1 31) (ix 0) (ix 0) (ix 9)), S.2) : PS) fun S2 =>
  some S2
set_option maxHeartbeats 4000000 in
set_option maxRecDepth 100000 in
theorem okX4_keepTimes (N : Nat)  (S : PS) (T : PS) (h : fX4_keepTimes N  S = some T) : CT mX4_keepTimes 3 0 [.ref 6] S (qV T) := by
  refine ct_of [some (.ref 6)] rfl (fun _ => rfl) (fun _ => Nat.le_of_ble_eq_true rfl) ?_
  unfold fX4_keepTimes at h
  refine r_aload_n (x := 6) dX4_keepTimes_0 rfl ?_
  refine r_getfield (o := 6) (v := .ref 30) dX4_keepTimes_1 lX4_15 ck6 nC6 rfl ?_
  refine r_iconst (v := 0) dX4_keepTimes_4 rfl ?_
  refine r_aload_n (x := 6) dX4_keepTimes_5 rfl ?_
  refine r_getfield (o := 6) (v := .ref 31) dX4_keepTimes_6 lX4_18 ck6 nC6 rfl ?_
  refine r_iconst (v := 0) dX4_keepTimes_9 rfl ?_
  refine r_bipush (v := 9) dX4_keepTimes_10 rfl ?_
  obtain ⟨g1, h⟩ := gd_e h
  refine r_arraycopy (a := 30) (b := 31) dX4_keepTimes_12 qX4_66 ⟨ck30, nC30⟩ ⟨ck31, nC31⟩ g1 (by decide) (Nat.le_of_ble_eq_true rfl) ?_
  refine r_topS (fun S2 hS2 => ?_)
  replace h := lt_e hS2 h
  cases h
  exact r_return dX4_keepTimes_15 rfl (Nat.zero_le _) ⟨rfl, rfl⟩
def fX5_note (N : Nat) (p : Nat) (p0 : Int32) (p1 : Int32) (p2 : Int32) (S : PS) : Option PS :=
  gd (obj p 5) <|
  (if 8 ≤ (S.1 p 3) then
    some S
  else
    gd (obj p 5) <|
    gd (obj p 5) <|
    gd (arr (sr p 0) 1 8) <|
    gd (inr (S.1 p 3) 8) <|
    lt ((u2 S.1 (sr p 0) (ix (S.1 p 3)) p0, S.2) : PS) fun S7 =>
    gd (obj p 5) <|
    gd (obj p 5) <|
    gd (arr (sr p 1) 1 8) <|
    gd (inr (S7.1 p 3) 8) <|
    lt ((u2 S7.1 (sr p 1) (ix (S7.1 p 3)) p1, S7.2) : PS) fun S12 =>
    (if p2 = 0 then
      gd (obj p 5) <|
      gd (obj p 5) <|
      gd (obj p 5) <|
      lt ((u2 S12.1 p 2 ((S12.1 p 2) &&& ((1 <<< ((S12.1 p 3) &&& 31)) ^^^ (-1))), S12.2) : PS) fun S17 =>
      gd (obj p 5) <|
      gd (obj p 5) <|
      lt ((u2 S17.1 p 3 ((S17.1 p 3) + 1), S17.2) : PS) fun S20 =>
      some S20
    else
      gd (obj p 5) <|
      gd (obj p 5) <|
      gd (obj p 5) <|
      lt ((u2 S12.1 p 2 ((S12.1 p 2) ||| (1 <<< ((S12.1 p 3) &&& 31))), S12.2) : PS) fun S24 =>
      gd (obj p 5) <|
      gd (obj p 5) <|
      lt ((u2 S24.1 p 3 ((S24.1 p 3) + 1), S24.2) : PS) fun S27 =>
      some S27))
set_option maxHeartbeats 4000000 in
set_option maxRecDepth 100000 in
theorem okX5_note (N : Nat) (p : Nat) (p0 : Int32) (p1 : Int32) (p2 : Int32) (S : PS) (T : PS) (h : fX5_note N p p0 p1 p2 S = some T) : CT mX5_note 0 0 [.ref p, .int p0, .int p1, .int p2] S (qV T) := by
  refine ct_of [some (.ref p), some (.int p0), some (.int p1), some (.int p2)] rfl (fun _ => rfl) (fun _ => Nat.le_of_ble_eq_true rfl) ?_
  unfold fX5_note at h
  refine r_aload_n (x := p) dX5_note_0 rfl ?_
  obtain ⟨g1, h⟩ := gd_e h
  refine r_getfield (o := p) (v := .int (S.1 p 3)) dX5_note_1 lX5_22 g1.1 g1.2 rfl ?_
  refine r_bipush (v := 8) dX5_note_4 rfl ?_
  refine r_icmp_ge (tgt := 74) dX5_note_6 (by decide) (fun c2 => ?_) (fun c2 => ?_)
  · rw [if_pos c2] at h
    cases h
    exact r_return dX5_note_74 rfl (Nat.zero_le _) ⟨rfl, rfl⟩
  · rw [if_neg c2] at h
    refine r_aload_n (x := p) dX5_note_9 rfl ?_
    obtain ⟨g3, h⟩ := gd_e h
    refine r_getfield (o := p) (v := .ref (sr p 0)) dX5_note_10 lX5_9 g3.1 g3.2 rfl ?_
    refine r_aload_n (x := p) dX5_note_13 rfl ?_
    obtain ⟨g4, h⟩ := gd_e h
    refine r_getfield (o := p) (v := .int (S.1 p 3)) dX5_note_14 lX5_22 g4.1 g4.2 rfl ?_
    refine r_iload_n (x := p0) dX5_note_17 rfl ?_
    obtain ⟨g5, h⟩ := gd_e h
    obtain ⟨g6, h⟩ := gd_e h
    refine r_iastore (a := (sr p 0)) dX5_note_18 g5.1 g5.2 (inr_IX g6) ?_
    refine r_topS (fun S7 hS7 => ?_)
    replace h := lt_e hS7 h
    refine r_aload_n (x := p) dX5_note_19 rfl ?_
    obtain ⟨g8, h⟩ := gd_e h
    refine r_getfield (o := p) (v := .ref (sr p 1)) dX5_note_20 lX5_15 g8.1 g8.2 rfl ?_
    refine r_aload_n (x := p) dX5_note_23 rfl ?_
    obtain ⟨g9, h⟩ := gd_e h
    refine r_getfield (o := p) (v := .int (S7.1 p 3)) dX5_note_24 lX5_22 g9.1 g9.2 rfl ?_
    refine r_iload_n (x := p1) dX5_note_27 rfl ?_
    obtain ⟨g10, h⟩ := gd_e h
    obtain ⟨g11, h⟩ := gd_e h
    refine r_iastore (a := (sr p 1)) dX5_note_28 g10.1 g10.2 (inr_IX g11) ?_
    refine r_topS (fun S12 hS12 => ?_)
    replace h := lt_e hS12 h
    refine r_aload_n (x := p) dX5_note_29 rfl ?_
    refine r_iload_n (x := p2) dX5_note_30 rfl ?_
    refine r_if_eq (tgt := 48) dX5_note_31 (by decide) (fun c13 => ?_) (fun c13 => ?_)
    · rw [if_pos c13] at h
      refine r_aload_n (x := p) dX5_note_48 rfl ?_
      obtain ⟨g14, h⟩ := gd_e h
      refine r_getfield (o := p) (v := .int (S12.1 p 2)) dX5_note_49 lX5_18 g14.1 g14.2 rfl ?_
      refine r_iconst (v := 1) dX5_note_52 rfl ?_
      refine r_aload_n (x := p) dX5_note_53 rfl ?_
      obtain ⟨g15, h⟩ := gd_e h
      refine r_getfield (o := p) (v := .int (S12.1 p 3)) dX5_note_54 lX5_22 g15.1 g15.2 rfl ?_
      refine r_ishl dX5_note_57 ?_
      refine r_iconst (v := (-1)) dX5_note_58 rfl ?_
      refine r_ixor dX5_note_59 ?_
      refine r_iand dX5_note_60 ?_
      obtain ⟨g16, h⟩ := gd_e h
      refine r_putI dX5_note_61 lX5_18 g16.1 g16.2 ?_
      refine r_topS (fun S17 hS17 => ?_)
      replace h := lt_e hS17 h
      refine r_aload_n (x := p) dX5_note_64 rfl ?_
      refine r_dup_ref dX5_note_65 ?_
      obtain ⟨g18, h⟩ := gd_e h
      refine r_getfield (o := p) (v := .int (S17.1 p 3)) dX5_note_66 lX5_22 g18.1 g18.2 rfl ?_
      refine r_iconst (v := 1) dX5_note_69 rfl ?_
      refine r_iadd dX5_note_70 ?_
      obtain ⟨g19, h⟩ := gd_e h
      refine r_putI dX5_note_71 lX5_22 g19.1 g19.2 ?_
      refine r_topS (fun S20 hS20 => ?_)
      replace h := lt_e hS20 h
      cases h
      exact r_return dX5_note_74 rfl (Nat.zero_le _) ⟨rfl, rfl⟩
    · rw [if_neg c13] at h
      refine r_aload_n (x := p) dX5_note_34 rfl ?_
      obtain ⟨g21, h⟩ := gd_e h
      refine r_getfield (o := p) (v := .int (S12.1 p 2)) dX5_note_35 lX5_18 g21.1 g21.2 rfl ?_
      refine r_iconst (v := 1) dX5_note_38 rfl ?_
      refine r_aload_n (x := p) dX5_note_39 rfl ?_
      obtain ⟨g22, h⟩ := gd_e h
      refine r_getfield (o := p) (v := .int (S12.1 p 3)) dX5_note_40 lX5_22 g22.1 g22.2 rfl ?_
      refine r_ishl dX5_note_43 ?_
      refine r_ior dX5_note_44 ?_
      refine r_goto (tgt := 61) dX5_note_45 (by decide) ?_
      obtain ⟨g23, h⟩ := gd_e h
      refine r_putI dX5_note_61 lX5_18 g23.1 g23.2 ?_
      refine r_topS (fun S24 hS24 => ?_)
      replace h := lt_e hS24 h
      refine r_aload_n (x := p) dX5_note_64 rfl ?_
      refine r_dup_ref dX5_note_65 ?_
      obtain ⟨g25, h⟩ := gd_e h
      refine r_getfield (o := p) (v := .int (S24.1 p 3)) dX5_note_66 lX5_22 g25.1 g25.2 rfl ?_
      refine r_iconst (v := 1) dX5_note_69 rfl ?_
      refine r_iadd dX5_note_70 ?_
      obtain ⟨g26, h⟩ := gd_e h
      refine r_putI dX5_note_71 lX5_22 g26.1 g26.2 ?_
      refine r_topS (fun S27 hS27 => ?_)
      replace h := lt_e hS27 h
      cases h
      exact r_return dX5_note_74 rfl (Nat.zero_le _) ⟨rfl, rfl⟩
def fX5_copy (N : Nat) (p : Nat) (p0 : Nat) (S : PS) : Option PS :=
  gd (obj p0 5) <|
  gd (obj p 5) <|
  gd (arr (sr p0 0) 1 8) <|
  gd (arr (sr p 0) 1 8) <|
  gd ((0 ≤ (0 : Int32) ∧ 0 ≤ (0 : Int32) ∧ 0 ≤ (8 : Int32)) ∧ ix 0 + ix 8 ≤ 8 ∧ ix 0 + ix 8 ≤ 8) <|
  lt ((urow S.1 (sr p 0) (va_cpy (S.1 (sr p0 0)) (S.1 (sr p 0)) (ix 0) (ix 0) (ix 8)), S.2) : PS) fun S6 =>
  gd (obj p0 5) <|
  gd (obj p 5) <|
  gd (arr (sr p0 1) 1 8) <|
  gd (arr (sr p 1) 1 8) <|
  gd ((0 ≤ (0 : Int32) ∧ 0 ≤ (0 : Int32) ∧ 0 ≤ (8 : Int32)) ∧ ix 0 + ix 8 ≤ 8 ∧ ix 0 + ix 8 ≤ 8) <|
  lt ((urow S6.1 (sr p 1) (va_cpy (S6.1 (sr p0 1)) (S6.1 (sr p 1)) (ix 0) (ix 0) (ix 8)), S6.2) : PS) fun S12 =>
  gd (obj p0 5) <|
  gd (obj p 5) <|
  lt ((u2 S12.1 p 2 (S12.1 p0 2), S12.2) : PS) fun S15 =>
  gd (obj p0 5) <|
  gd (obj p 5) <|
  lt ((u2 S15.1 p 3 (S15.1 p0 3), S15.2) : PS) fun S18 =>
  some S18
set_option maxHeartbeats 4000000 in
set_option maxRecDepth 100000 in
theorem okX5_copy (N : Nat) (p : Nat) (p0 : Nat) (S : PS) (T : PS) (h : fX5_copy N p p0 S = some T) : CT mX5_copy 3 0 [.ref p, .ref p0] S (qV T) := by
  refine ct_of [some (.ref p), some (.ref p0)] rfl (fun _ => rfl) (fun _ => Nat.le_of_ble_eq_true rfl) ?_
  unfold fX5_copy at h
  refine r_aload_n (x := p0) dX5_copy_0 rfl ?_
  obtain ⟨g1, h⟩ := gd_e h
  refine r_getfield (o := p0) (v := .ref (sr p0 0)) dX5_copy_1 lX5_9 g1.1 g1.2 rfl ?_
  refine r_iconst (v := 0) dX5_copy_4 rfl ?_
  refine r_aload_n (x := p) dX5_copy_5 rfl ?_
  obtain ⟨g2, h⟩ := gd_e h
  refine r_getfield (o := p) (v := .ref (sr p 0)) dX5_copy_6 lX5_9 g2.1 g2.2 rfl ?_
  refine r_iconst (v := 0) dX5_copy_9 rfl ?_
  refine r_bipush (v := 8) dX5_copy_10 rfl ?_
  obtain ⟨g3, h⟩ := gd_e h
  obtain ⟨g4, h⟩ := gd_e h
  obtain ⟨g5, h⟩ := gd_e h
  refine r_arraycopy (a := (sr p0 0)) (b := (sr p 0)) dX5_copy_12 qX5_25 ⟨g3.1, g3.2⟩ ⟨g4.1, g4.2⟩ g5 (by decide) (Nat.le_of_ble_eq_true rfl) ?_
  refine r_topS (fun S6 hS6 => ?_)
  replace h := lt_e hS6 h
  refine r_aload_n (x := p0) dX5_copy_15 rfl ?_
  obtain ⟨g7, h⟩ := gd_e h
  refine r_getfield (o := p0) (v := .ref (sr p0 1)) dX5_copy_16 lX5_15 g7.1 g7.2 rfl ?_
  refine r_iconst (v := 0) dX5_copy_19 rfl ?_
  refine r_aload_n (x := p) dX5_copy_20 rfl ?_
  obtain ⟨g8, h⟩ := gd_e h
  refine r_getfield (o := p) (v := .ref (sr p 1)) dX5_copy_21 lX5_15 g8.1 g8.2 rfl ?_
  refine r_iconst (v := 0) dX5_copy_24 rfl ?_
  refine r_bipush (v := 8) dX5_copy_25 rfl ?_
  obtain ⟨g9, h⟩ := gd_e h
  obtain ⟨g10, h⟩ := gd_e h
  obtain ⟨g11, h⟩ := gd_e h
  refine r_arraycopy (a := (sr p0 1)) (b := (sr p 1)) dX5_copy_27 qX5_25 ⟨g9.1, g9.2⟩ ⟨g10.1, g10.2⟩ g11 (by decide) (Nat.le_of_ble_eq_true rfl) ?_
  refine r_topS (fun S12 hS12 => ?_)
  replace h := lt_e hS12 h
  refine r_aload_n (x := p) dX5_copy_30 rfl ?_
  refine r_aload_n (x := p0) dX5_copy_31 rfl ?_
  obtain ⟨g13, h⟩ := gd_e h
  refine r_getfield (o := p0) (v := .int (S12.1 p0 2)) dX5_copy_32 lX5_18 g13.1 g13.2 rfl ?_
  obtain ⟨g14, h⟩ := gd_e h
  refine r_putI dX5_copy_35 lX5_18 g14.1 g14.2 ?_
  refine r_topS (fun S15 hS15 => ?_)
  replace h := lt_e hS15 h
  refine r_aload_n (x := p) dX5_copy_38 rfl ?_
  refine r_aload_n (x := p0) dX5_copy_39 rfl ?_
  obtain ⟨g16, h⟩ := gd_e h
  refine r_getfield (o := p0) (v := .int (S15.1 p0 3)) dX5_copy_40 lX5_22 g16.1 g16.2 rfl ?_
  obtain ⟨g17, h⟩ := gd_e h
  refine r_putI dX5_copy_43 lX5_22 g17.1 g17.2 ?_
  refine r_topS (fun S18 hS18 => ?_)
  replace h := lt_e hS18 h
  cases h
  exact r_return dX5_copy_46 rfl (Nat.zero_le _) ⟨rfl, rfl⟩
def fX6_begin (N : Nat) (p : Nat) (p0 : Nat) (S : PS) : Option PS :=
  gd (obj p 6) <|
  gd (obj (sr p 0) 2) <|
  bV (fX2_copy N (sr p 0) p0 S) fun S3 =>
  gd (obj p 6) <|
  gd (obj (sr p 1) 0) <|
  lt ((u2 S3.1 (sr p 1) 1 0, S3.2) : PS) fun S8 =>
  gd (obj p 6) <|
  gd (obj (sr p 2) 5) <|
  lt ((u2 S8.1 (sr p 2) 3 0, S8.2) : PS) fun S11 =>
  some S11
set_option maxHeartbeats 4000000 in
set_option maxRecDepth 100000 in
theorem okX6_begin (N : Nat) (p : Nat) (p0 : Nat) (S : PS) (T : PS) (h : fX6_begin N p p0 S = some T) : CT mX6_begin 4 0 [.ref p, .ref p0] S (qV T) := by
  refine ct_of [some (.ref p), some (.ref p0)] rfl (fun _ => rfl) (fun _ => Nat.le_of_ble_eq_true rfl) ?_
  unfold fX6_begin at h
  refine r_aload_n (x := p) dX6_begin_0 rfl ?_
  obtain ⟨g1, h⟩ := gd_e h
  refine r_getfield (o := p) (v := .ref (sr p 0)) dX6_begin_1 lX6_10 g1.1 g1.2 rfl ?_
  refine r_aload_n (x := p0) dX6_begin_4 rfl ?_
  obtain ⟨g5, h⟩ := gd_e h
  obtain ⟨S3, h4, h⟩ := bV_e h
  refine r_cVV (y := mX2_copy) (As := [.ref p0]) (rest := []) dX6_begin_5 qX6_30 kX2_copy rfl g5 vc2 rfl (okX2_copy N (sr p 0) p0 S S3 h4) (by decide) (Nat.zero_le _) rfl (Nat.le_of_ble_eq_true rfl) ?_
  refine r_aload_n (x := p) dX6_begin_8 rfl ?_
  obtain ⟨g6, h⟩ := gd_e h
  refine r_getfield (o := p) (v := .ref (sr p 1)) dX6_begin_9 lX6_19 g6.1 g6.2 rfl ?_
  refine r_iconst (v := 0) dX6_begin_12 rfl ?_
  obtain ⟨g7, h⟩ := gd_e h
  refine r_putI dX6_begin_13 lX6_34 g7.1 g7.2 ?_
  refine r_topS (fun S8 hS8 => ?_)
  replace h := lt_e hS8 h
  refine r_aload_n (x := p) dX6_begin_16 rfl ?_
  obtain ⟨g9, h⟩ := gd_e h
  refine r_getfield (o := p) (v := .ref (sr p 2)) dX6_begin_17 lX6_26 g9.1 g9.2 rfl ?_
  refine r_iconst (v := 0) dX6_begin_20 rfl ?_
  obtain ⟨g10, h⟩ := gd_e h
  refine r_putI dX6_begin_21 lX6_38 g10.1 g10.2 ?_
  refine r_topS (fun S11 hS11 => ?_)
  replace h := lt_e hS11 h
  cases h
  exact r_return dX6_begin_24 rfl (Nat.zero_le _) ⟨rfl, rfl⟩
def fX6_copy (N : Nat) (p : Nat) (p0 : Nat) (S : PS) : Option PS :=
  gd (obj p 6) <|
  gd (obj p0 6) <|
  gd (obj (sr p 0) 2) <|
  bV (fX2_copy N (sr p 0) (sr p0 0) S) fun S4 =>
  gd (obj p 6) <|
  gd (obj p0 6) <|
  gd (obj (sr p 1) 0) <|
  bV (fX0_copy N (sr p 1) (sr p0 1) S4) fun S10 =>
  gd (obj p 6) <|
  gd (obj p0 6) <|
  gd (obj (sr p 2) 5) <|
  bV (fX5_copy N (sr p 2) (sr p0 2) S10) fun S16 =>
  some S16
set_option maxHeartbeats 4000000 in
set_option maxRecDepth 100000 in
theorem okX6_copy (N : Nat) (p : Nat) (p0 : Nat) (S : PS) (T : PS) (h : fX6_copy N p p0 S = some T) : CT mX6_copy 4 0 [.ref p, .ref p0] S (qV T) := by
  refine ct_of [some (.ref p), some (.ref p0)] rfl (fun _ => rfl) (fun _ => Nat.le_of_ble_eq_true rfl) ?_
  unfold fX6_copy at h
  refine r_aload_n (x := p) dX6_copy_0 rfl ?_
  obtain ⟨g1, h⟩ := gd_e h
  refine r_getfield (o := p) (v := .ref (sr p 0)) dX6_copy_1 lX6_10 g1.1 g1.2 rfl ?_
  refine r_aload_n (x := p0) dX6_copy_4 rfl ?_
  obtain ⟨g2, h⟩ := gd_e h
  refine r_getfield (o := p0) (v := .ref (sr p0 0)) dX6_copy_5 lX6_10 g2.1 g2.2 rfl ?_
  obtain ⟨g6, h⟩ := gd_e h
  obtain ⟨S4, h5, h⟩ := bV_e h
  refine r_cVV (y := mX2_copy) (As := [.ref (sr p0 0)]) (rest := []) dX6_copy_8 qX6_30 kX2_copy rfl g6 vc2 rfl (okX2_copy N (sr p 0) (sr p0 0) S S4 h5) (by decide) (Nat.zero_le _) rfl (Nat.le_of_ble_eq_true rfl) ?_
  refine r_aload_n (x := p) dX6_copy_11 rfl ?_
  obtain ⟨g7, h⟩ := gd_e h
  refine r_getfield (o := p) (v := .ref (sr p 1)) dX6_copy_12 lX6_19 g7.1 g7.2 rfl ?_
  refine r_aload_n (x := p0) dX6_copy_15 rfl ?_
  obtain ⟨g8, h⟩ := gd_e h
  refine r_getfield (o := p0) (v := .ref (sr p0 1)) dX6_copy_16 lX6_19 g8.1 g8.2 rfl ?_
  obtain ⟨g12, h⟩ := gd_e h
  obtain ⟨S10, h11, h⟩ := bV_e h
  refine r_cVV (y := mX0_copy) (As := [.ref (sr p0 1)]) (rest := []) dX6_copy_19 qX6_41 kX0_copy rfl g12 vc0 rfl (okX0_copy N (sr p 1) (sr p0 1) S4 S10 h11) (by decide) (Nat.zero_le _) rfl (Nat.le_of_ble_eq_true rfl) ?_
  refine r_aload_n (x := p) dX6_copy_22 rfl ?_
  obtain ⟨g13, h⟩ := gd_e h
  refine r_getfield (o := p) (v := .ref (sr p 2)) dX6_copy_23 lX6_26 g13.1 g13.2 rfl ?_
  refine r_aload_n (x := p0) dX6_copy_26 rfl ?_
  obtain ⟨g14, h⟩ := gd_e h
  refine r_getfield (o := p0) (v := .ref (sr p0 2)) dX6_copy_27 lX6_26 g14.1 g14.2 rfl ?_
  obtain ⟨g18, h⟩ := gd_e h
  obtain ⟨S16, h17, h⟩ := bV_e h
  refine r_cVV (y := mX5_copy) (As := [.ref (sr p0 2)]) (rest := []) dX6_copy_30 qX6_44 kX5_copy rfl g18 vc5 rfl (okX5_copy N (sr p 2) (sr p0 2) S10 S16 h17) (by decide) (Nat.zero_le _) rfl (Nat.le_of_ble_eq_true rfl) ?_
  cases h
  exact r_return dX6_copy_33 rfl (Nat.zero_le _) ⟨rfl, rfl⟩
def fX7_fail (N : Nat) (p0 : Int32) (S : PS) : Option (Int32 × PS) :=
  (if (S.1 1 3) = 0 then
    lt ((u2 S.1 1 3 p0, S.2) : PS) fun S2 =>
    lt ((u2 S2.1 1 4 (S2.1 2 3), S2.2) : PS) fun S3 =>
    some ((-1), S3)
  else
    some ((-1), S))
set_option maxHeartbeats 4000000 in
set_option maxRecDepth 100000 in
theorem okX7_fail (N : Nat) (p0 : Int32) (S : PS) (r : Int32) (T : PS) (h : fX7_fail N p0 S = some (r, T)) : CT mX7_fail 0 0 [.ref 1, .int p0] S (qI r T) := by
  refine ct_of [some (.ref 1), some (.int p0)] rfl (fun _ => rfl) (fun _ => Nat.le_of_ble_eq_true rfl) ?_
  unfold fX7_fail at h
  refine r_aload_n (x := 1) dX7_fail_0 rfl ?_
  refine r_getfield (o := 1) (v := .int (S.1 1 3)) dX7_fail_1 lX7_32 ck1 nC1 rfl ?_
  refine r_if_ne (tgt := 23) dX7_fail_4 (by decide) (fun c1 => ?_) (fun c1 => ?_)
  · rw [if_neg c1] at h
    refine r_iconst (v := (-1)) dX7_fail_23 rfl ?_
    cases h
    exact r_ireturn dX7_fail_24 rfl (Nat.zero_le _) ⟨rfl, rfl⟩
  · rw [if_pos c1] at h
    refine r_aload_n (x := 1) dX7_fail_7 rfl ?_
    refine r_iload_n (x := p0) dX7_fail_8 rfl ?_
    refine r_putI dX7_fail_9 lX7_32 ck1 nC1 ?_
    refine r_topS (fun S2 hS2 => ?_)
    replace h := lt_e hS2 h
    refine r_aload_n (x := 1) dX7_fail_12 rfl ?_
    refine r_aload_n (x := 1) dX7_fail_13 rfl ?_
    refine r_getfield (o := 1) (v := .ref 2) dX7_fail_14 lX7_12 ck1 nC1 rfl ?_
    refine r_getfield (o := 2) (v := .int (S2.1 2 3)) dX7_fail_17 lX7_76 ck2 nC2 rfl ?_
    refine r_putI dX7_fail_20 lX7_36 ck1 nC1 ?_
    refine r_topS (fun S3 hS3 => ?_)
    replace h := lt_e hS3 h
    refine r_iconst (v := (-1)) dX7_fail_23 rfl ?_
    cases h
    exact r_ireturn dX7_fail_24 rfl (Nat.zero_le _) ⟨rfl, rfl⟩
def fX8_clear (N : Nat) (p : Nat) (S : PS) : Option PS :=
  gd (obj p 8) <|
  lt ((u2 S.1 p 2 0, S.2) : PS) fun S2 =>
  gd (obj p 8) <|
  lt ((u2 S2.1 p 3 0, S2.2) : PS) fun S4 =>
  some S4
set_option maxHeartbeats 4000000 in
set_option maxRecDepth 100000 in
theorem okX8_clear (N : Nat) (p : Nat) (S : PS) (T : PS) (h : fX8_clear N p S = some T) : CT mX8_clear 0 0 [.ref p] S (qV T) := by
  refine ct_of [some (.ref p)] rfl (fun _ => rfl) (fun _ => Nat.le_of_ble_eq_true rfl) ?_
  unfold fX8_clear at h
  refine r_aload_n (x := p) dX8_clear_0 rfl ?_
  refine r_iconst (v := 0) dX8_clear_1 rfl ?_
  obtain ⟨g1, h⟩ := gd_e h
  refine r_putI dX8_clear_2 lX8_18 g1.1 g1.2 ?_
  refine r_topS (fun S2 hS2 => ?_)
  replace h := lt_e hS2 h
  refine r_aload_n (x := p) dX8_clear_5 rfl ?_
  refine r_iconst (v := 0) dX8_clear_6 rfl ?_
  obtain ⟨g3, h⟩ := gd_e h
  refine r_putZ dX8_clear_7 lX8_22 g3.1 g3.2 (by decide) ?_
  refine r_topS (fun S4 hS4 => ?_)
  replace h := lt_e hS4 h
  cases h
  exact r_return dX8_clear_10 rfl (Nat.zero_le _) ⟨rfl, rfl⟩
def fX8_add (N : Nat) (p : Nat) (p0 : Int32) (S : PS) : Option PS :=
  gd (obj p 8) <|
  gd (obj p 8) <|
  gd (arr (sr p 0) 1 700) <|
  (if 700 ≤ (S.1 p 2) then
    some S
  else
    gd (obj p 8) <|
    gd (obj p 8) <|
    gd (arr (sr p 0) 1 700) <|
    gd (inr (S.1 p 2) 700) <|
    lt ((u2 S.1 (sr p 0) (ix (S.1 p 2)) p0, S.2) : PS) fun S9 =>
    gd (obj p 8) <|
    gd (obj p 8) <|
    lt ((u2 S9.1 p 2 ((S9.1 p 2) + 1), S9.2) : PS) fun S12 =>
    some S12)
set_option maxHeartbeats 4000000 in
set_option maxRecDepth 100000 in
theorem okX8_add (N : Nat) (p : Nat) (p0 : Int32) (S : PS) (T : PS) (h : fX8_add N p p0 S = some T) : CT mX8_add 0 0 [.ref p, .int p0] S (qV T) := by
  refine ct_of [some (.ref p), some (.int p0)] rfl (fun _ => rfl) (fun _ => Nat.le_of_ble_eq_true rfl) ?_
  unfold fX8_add at h
  refine r_aload_n (x := p) dX8_add_0 rfl ?_
  obtain ⟨g1, h⟩ := gd_e h
  refine r_getfield (o := p) (v := .int (S.1 p 2)) dX8_add_1 lX8_18 g1.1 g1.2 rfl ?_
  refine r_aload_n (x := p) dX8_add_4 rfl ?_
  obtain ⟨g2, h⟩ := gd_e h
  refine r_getfield (o := p) (v := .ref (sr p 0)) dX8_add_5 lX8_9 g2.1 g2.2 rfl ?_
  obtain ⟨g3, h⟩ := gd_e h
  refine r_alen (v := 700) dX8_add_8 g3.1 (by decide) g3.2 rfl ?_
  refine r_icmp_ge (tgt := 32) dX8_add_9 (by decide) (fun c4 => ?_) (fun c4 => ?_)
  · rw [if_pos c4] at h
    cases h
    exact r_return dX8_add_32 rfl (Nat.zero_le _) ⟨rfl, rfl⟩
  · rw [if_neg c4] at h
    refine r_aload_n (x := p) dX8_add_12 rfl ?_
    obtain ⟨g5, h⟩ := gd_e h
    refine r_getfield (o := p) (v := .ref (sr p 0)) dX8_add_13 lX8_9 g5.1 g5.2 rfl ?_
    refine r_aload_n (x := p) dX8_add_16 rfl ?_
    obtain ⟨g6, h⟩ := gd_e h
    refine r_getfield (o := p) (v := .int (S.1 p 2)) dX8_add_17 lX8_18 g6.1 g6.2 rfl ?_
    refine r_iload_n (x := p0) dX8_add_20 rfl ?_
    obtain ⟨g7, h⟩ := gd_e h
    obtain ⟨g8, h⟩ := gd_e h
    refine r_iastore (a := (sr p 0)) dX8_add_21 g7.1 g7.2 (inr_IX g8) ?_
    refine r_topS (fun S9 hS9 => ?_)
    replace h := lt_e hS9 h
    refine r_aload_n (x := p) dX8_add_22 rfl ?_
    refine r_dup_ref dX8_add_23 ?_
    obtain ⟨g10, h⟩ := gd_e h
    refine r_getfield (o := p) (v := .int (S9.1 p 2)) dX8_add_24 lX8_18 g10.1 g10.2 rfl ?_
    refine r_iconst (v := 1) dX8_add_27 rfl ?_
    refine r_iadd dX8_add_28 ?_
    obtain ⟨g11, h⟩ := gd_e h
    refine r_putI dX8_add_29 lX8_18 g11.1 g11.2 ?_
    refine r_topS (fun S12 hS12 => ?_)
    replace h := lt_e hS12 h
    cases h
    exact r_return dX8_add_32 rfl (Nat.zero_le _) ⟨rfl, rfl⟩
def fX8_valueOf (N : Nat) (p0 : Int32) (p1 : Nat) (p2 : Int32) (p3 : Int32) (S : PS) : Option (Int32 × PS) :=
  (if p0 = (-5) then
    some (p2, S)
  else if p0 = (-4) then
    gd (obj p1 2) <|
    gd (arr (sr p1 4) 1 9) <|
    gd (inr p2 9) <|
    some ((S.1 (sr p1 4) (ix p2)), S)
  else if p0 = (-3) then
    some (p3, S)
  else if p0 = (-2) then
    gd (obj p1 2) <|
    gd (arr (sr p1 0) 1 9) <|
    gd (inr p2 9) <|
    some ((S.1 (sr p1 0) (ix p2)), S)
  else if p0 = (-1) then
    gd (obj p1 2) <|
    gd (arr (sr p1 1) 1 9) <|
    gd (inr p2 9) <|
    some ((S.1 (sr p1 1) (ix p2)), S)
  else 
    gd (obj p1 2) <|
    some ((S.1 p1 6), S))
set_option maxHeartbeats 4000000 in
set_option maxRecDepth 100000 in
theorem okX8_valueOf (N : Nat) (p0 : Int32) (p1 : Nat) (p2 : Int32) (p3 : Int32) (S : PS) (r : Int32) (T : PS) (h : fX8_valueOf N p0 p1 p2 p3 S = some (r, T)) : CT mX8_valueOf 0 0 [.int p0, .ref p1, .int p2, .int p3] S (qI r T) := by
  refine ct_of [some (.int p0), some (.ref p1), some (.int p2), some (.int p3)] rfl (fun _ => rfl) (fun _ => Nat.le_of_ble_eq_true rfl) ?_
  unfold fX8_valueOf at h
  refine r_iload_n (x := p0) dX8_valueOf_0 rfl ?_
  by_cases c1 : p0 = (-5)
  · rw [if_pos c1] at h
    refine r_tableIn (tgt := 59) dX8_valueOf_1 (by rw [c1]; decide) (by rw [c1]; decide) (by rw [c1]; rfl) (by decide) ?_
    refine r_iload_n (x := p2) dX8_valueOf_59 rfl ?_
    cases h
    exact r_ireturn dX8_valueOf_60 rfl (Nat.zero_le _) ⟨rfl, rfl⟩
  rw [if_neg c1] at h
  by_cases c2 : p0 = (-4)
  · rw [if_pos c2] at h
    refine r_tableIn (tgt := 52) dX8_valueOf_1 (by rw [c2]; decide) (by rw [c2]; decide) (by rw [c2]; rfl) (by decide) ?_
    refine r_aload_n (x := p1) dX8_valueOf_52 rfl ?_
    obtain ⟨g3, h⟩ := gd_e h
    refine r_getfield (o := p1) (v := .ref (sr p1 4)) dX8_valueOf_53 lX8_42 g3.1 g3.2 rfl ?_
    refine r_iload_n (x := p2) dX8_valueOf_56 rfl ?_
    obtain ⟨g4, h⟩ := gd_e h
    obtain ⟨g5, h⟩ := gd_e h
    refine r_iaload (a := (sr p1 4)) dX8_valueOf_57 g4.1 g4.2 (inr_IX g5) ?_
    cases h
    exact r_ireturn dX8_valueOf_58 rfl (Nat.zero_le _) ⟨rfl, rfl⟩
  rw [if_neg c2] at h
  by_cases c6 : p0 = (-3)
  · rw [if_pos c6] at h
    refine r_tableIn (tgt := 50) dX8_valueOf_1 (by rw [c6]; decide) (by rw [c6]; decide) (by rw [c6]; rfl) (by decide) ?_
    refine r_iload_n (x := p3) dX8_valueOf_50 rfl ?_
    cases h
    exact r_ireturn dX8_valueOf_51 rfl (Nat.zero_le _) ⟨rfl, rfl⟩
  rw [if_neg c6] at h
  by_cases c7 : p0 = (-2)
  · rw [if_pos c7] at h
    refine r_tableIn (tgt := 43) dX8_valueOf_1 (by rw [c7]; decide) (by rw [c7]; decide) (by rw [c7]; rfl) (by decide) ?_
    refine r_aload_n (x := p1) dX8_valueOf_43 rfl ?_
    obtain ⟨g8, h⟩ := gd_e h
    refine r_getfield (o := p1) (v := .ref (sr p1 0)) dX8_valueOf_44 lX8_39 g8.1 g8.2 rfl ?_
    refine r_iload_n (x := p2) dX8_valueOf_47 rfl ?_
    obtain ⟨g9, h⟩ := gd_e h
    obtain ⟨g10, h⟩ := gd_e h
    refine r_iaload (a := (sr p1 0)) dX8_valueOf_48 g9.1 g9.2 (inr_IX g10) ?_
    cases h
    exact r_ireturn dX8_valueOf_49 rfl (Nat.zero_le _) ⟨rfl, rfl⟩
  rw [if_neg c7] at h
  by_cases c11 : p0 = (-1)
  · rw [if_pos c11] at h
    refine r_tableIn (tgt := 36) dX8_valueOf_1 (by rw [c11]; decide) (by rw [c11]; decide) (by rw [c11]; rfl) (by decide) ?_
    refine r_aload_n (x := p1) dX8_valueOf_36 rfl ?_
    obtain ⟨g12, h⟩ := gd_e h
    refine r_getfield (o := p1) (v := .ref (sr p1 1)) dX8_valueOf_37 lX8_34 g12.1 g12.2 rfl ?_
    refine r_iload_n (x := p2) dX8_valueOf_40 rfl ?_
    obtain ⟨g13, h⟩ := gd_e h
    obtain ⟨g14, h⟩ := gd_e h
    refine r_iaload (a := (sr p1 1)) dX8_valueOf_41 g13.1 g13.2 (inr_IX g14) ?_
    cases h
    exact r_ireturn dX8_valueOf_42 rfl (Nat.zero_le _) ⟨rfl, rfl⟩
  rw [if_neg c11] at h
  refine r_tableOut (tgt := 61) dX8_valueOf_1 (by have nc1 := lv_neT c1 (a := -5) rfl; have nc2 := lv_neT c2 (a := -4) rfl; have nc6 := lv_neT c6 (a := -3) rfl; have nc7 := lv_neT c7 (a := -2) rfl; have nc11 := lv_neT c11 (a := -1) rfl; omega) (by decide) ?_
  refine r_aload_n (x := p1) dX8_valueOf_61 rfl ?_
  obtain ⟨g15, h⟩ := gd_e h
  refine r_getfield (o := p1) (v := .int (S.1 p1 6)) dX8_valueOf_62 lX8_45 g15.1 g15.2 rfl ?_
  cases h
  exact r_ireturn dX8_valueOf_65 rfl (Nat.zero_le _) ⟨rfl, rfl⟩
def fX8_joined (N : Nat) (p0 : Int32) (p1 : Int32) (p2 : Int32) (S : PS) : Option (Int32 × PS) :=
  (if p0 = (-14) then
    some ((p1 * p2), S)
  else if p0 = (-13) then
    some ((p1 - p2), S)
  else if p0 = (-12) then
    some ((p1 + p2), S)
  else if p0 = (-11) then
    lt ((if p1 = p2 then 1 else 0) : Int32) fun x6 =>
    some (x6, S)
  else if p0 = (-10) then
    lt ((if p2 ≤ p1 then 0 else 1) : Int32) fun x9 =>
    some (x9, S)
  else if p0 = (-9) then
    lt ((if p1 = 0 then 0 else (if p2 = 0 then 0 else 1)) : Int32) fun x13 =>
    some (x13, S)
  else if p0 = (-8) then
    lt ((if p1 = 0 then (if p2 = 0 then 0 else 1) else 1) : Int32) fun x17 =>
    some (x17, S)
  else 
    (if p2 = 0 then
      some (0, S)
    else
      gd (¬ p2 = 0) <|
      some ((p1 / p2), S)))
set_option maxHeartbeats 4000000 in
set_option maxRecDepth 100000 in
theorem okX8_joined (N : Nat) (p0 : Int32) (p1 : Int32) (p2 : Int32) (S : PS) (r : Int32) (T : PS) (h : fX8_joined N p0 p1 p2 S = some (r, T)) : CT mX8_joined 0 0 [.int p0, .int p1, .int p2] S (qI r T) := by
  refine ct_of [some (.int p0), some (.int p1), some (.int p2)] rfl (fun _ => rfl) (fun _ => Nat.le_of_ble_eq_true rfl) ?_
  unfold fX8_joined at h
  refine r_iload_n (x := p0) dX8_joined_0 rfl ?_
  by_cases c1 : p0 = (-14)
  · rw [if_pos c1] at h
    refine r_tableIn (tgt := 102) dX8_joined_1 (by rw [c1]; decide) (by rw [c1]; decide) (by rw [c1]; rfl) (by decide) ?_
    refine r_iload_n (x := p1) dX8_joined_102 rfl ?_
    refine r_iload_n (x := p2) dX8_joined_103 rfl ?_
    refine r_imul dX8_joined_104 ?_
    cases h
    exact r_ireturn dX8_joined_105 rfl (Nat.zero_le _) ⟨rfl, rfl⟩
  rw [if_neg c1] at h
  by_cases c2 : p0 = (-13)
  · rw [if_pos c2] at h
    refine r_tableIn (tgt := 98) dX8_joined_1 (by rw [c2]; decide) (by rw [c2]; decide) (by rw [c2]; rfl) (by decide) ?_
    refine r_iload_n (x := p1) dX8_joined_98 rfl ?_
    refine r_iload_n (x := p2) dX8_joined_99 rfl ?_
    refine r_isub dX8_joined_100 ?_
    cases h
    exact r_ireturn dX8_joined_101 rfl (Nat.zero_le _) ⟨rfl, rfl⟩
  rw [if_neg c2] at h
  by_cases c3 : p0 = (-12)
  · rw [if_pos c3] at h
    refine r_tableIn (tgt := 94) dX8_joined_1 (by rw [c3]; decide) (by rw [c3]; decide) (by rw [c3]; rfl) (by decide) ?_
    refine r_iload_n (x := p1) dX8_joined_94 rfl ?_
    refine r_iload_n (x := p2) dX8_joined_95 rfl ?_
    refine r_iadd dX8_joined_96 ?_
    cases h
    exact r_ireturn dX8_joined_97 rfl (Nat.zero_le _) ⟨rfl, rfl⟩
  rw [if_neg c3] at h
  by_cases c4 : p0 = (-11)
  · rw [if_pos c4] at h
    refine r_tableIn (tgt := 83) dX8_joined_1 (by rw [c4]; decide) (by rw [c4]; decide) (by rw [c4]; rfl) (by decide) ?_
    refine r_iload_n (x := p1) dX8_joined_83 rfl ?_
    refine r_iload_n (x := p2) dX8_joined_84 rfl ?_
    obtain ⟨x6, hx6⟩ : ∃ y : Int32, y = ((if p1 = p2 then 1 else 0) : Int32) := ⟨_, rfl⟩
    replace h := lt_e hx6 h
    have keyx6 : WP [] mX8_joined 0 0 (qI r T) 93 [some (.int p0), some (.int p1), some (.int p2)] (.int x6 :: []) S 0 := by
      cases h
      exact r_ireturn dX8_joined_93 rfl (Nat.zero_le _) ⟨rfl, rfl⟩
    refine r_icmp_ne (tgt := 92) dX8_joined_85 (by decide) (fun c5 => ?_) (fun c5 => ?_)
    · refine r_iconst (v := 0) dX8_joined_92 rfl ?_
      exact r_tope (by rw [hx6, if_neg c5]) keyx6
    · refine r_iconst (v := 1) dX8_joined_88 rfl ?_
      refine r_goto (tgt := 93) dX8_joined_89 (by decide) ?_
      exact r_tope (by rw [hx6, if_pos c5]) keyx6
  rw [if_neg c4] at h
  by_cases c7 : p0 = (-10)
  · rw [if_pos c7] at h
    refine r_tableIn (tgt := 72) dX8_joined_1 (by rw [c7]; decide) (by rw [c7]; decide) (by rw [c7]; rfl) (by decide) ?_
    refine r_iload_n (x := p1) dX8_joined_72 rfl ?_
    refine r_iload_n (x := p2) dX8_joined_73 rfl ?_
    obtain ⟨x9, hx9⟩ : ∃ y : Int32, y = ((if p2 ≤ p1 then 0 else 1) : Int32) := ⟨_, rfl⟩
    replace h := lt_e hx9 h
    have keyx9 : WP [] mX8_joined 0 0 (qI r T) 82 [some (.int p0), some (.int p1), some (.int p2)] (.int x9 :: []) S 0 := by
      cases h
      exact r_ireturn dX8_joined_82 rfl (Nat.zero_le _) ⟨rfl, rfl⟩
    refine r_icmp_ge (tgt := 81) dX8_joined_74 (by decide) (fun c8 => ?_) (fun c8 => ?_)
    · refine r_iconst (v := 0) dX8_joined_81 rfl ?_
      exact r_tope (by rw [hx9, if_pos c8]) keyx9
    · refine r_iconst (v := 1) dX8_joined_77 rfl ?_
      refine r_goto (tgt := 82) dX8_joined_78 (by decide) ?_
      exact r_tope (by rw [hx9, if_neg c8]) keyx9
  rw [if_neg c7] at h
  by_cases c10 : p0 = (-9)
  · rw [if_pos c10] at h
    refine r_tableIn (tgt := 58) dX8_joined_1 (by rw [c10]; decide) (by rw [c10]; decide) (by rw [c10]; rfl) (by decide) ?_
    refine r_iload_n (x := p1) dX8_joined_58 rfl ?_
    obtain ⟨x13, hx13⟩ : ∃ y : Int32, y = ((if p1 = 0 then 0 else (if p2 = 0 then 0 else 1)) : Int32) := ⟨_, rfl⟩
    replace h := lt_e hx13 h
    have keyx13 : WP [] mX8_joined 0 0 (qI r T) 71 [some (.int p0), some (.int p1), some (.int p2)] (.int x13 :: []) S 0 := by
      cases h
      exact r_ireturn dX8_joined_71 rfl (Nat.zero_le _) ⟨rfl, rfl⟩
    refine r_if_eq (tgt := 70) dX8_joined_59 (by decide) (fun c11 => ?_) (fun c11 => ?_)
    · refine r_iconst (v := 0) dX8_joined_70 rfl ?_
      exact r_tope (by rw [hx13, if_pos c11]) keyx13
    · refine r_iload_n (x := p2) dX8_joined_62 rfl ?_
      refine r_if_eq (tgt := 70) dX8_joined_63 (by decide) (fun c12 => ?_) (fun c12 => ?_)
      · refine r_iconst (v := 0) dX8_joined_70 rfl ?_
        exact r_tope (by rw [hx13, if_neg c11, if_pos c12]) keyx13
      · refine r_iconst (v := 1) dX8_joined_66 rfl ?_
        refine r_goto (tgt := 71) dX8_joined_67 (by decide) ?_
        exact r_tope (by rw [hx13, if_neg c11, if_neg c12]) keyx13
  rw [if_neg c10] at h
  by_cases c14 : p0 = (-8)
  · rw [if_pos c14] at h
    refine r_tableIn (tgt := 44) dX8_joined_1 (by rw [c14]; decide) (by rw [c14]; decide) (by rw [c14]; rfl) (by decide) ?_
    refine r_iload_n (x := p1) dX8_joined_44 rfl ?_
    obtain ⟨x17, hx17⟩ : ∃ y : Int32, y = ((if p1 = 0 then (if p2 = 0 then 0 else 1) else 1) : Int32) := ⟨_, rfl⟩
    replace h := lt_e hx17 h
    have keyx17 : WP [] mX8_joined 0 0 (qI r T) 57 [some (.int p0), some (.int p1), some (.int p2)] (.int x17 :: []) S 0 := by
      cases h
      exact r_ireturn dX8_joined_57 rfl (Nat.zero_le _) ⟨rfl, rfl⟩
    refine r_if_ne (tgt := 52) dX8_joined_45 (by decide) (fun c15 => ?_) (fun c15 => ?_)
    · refine r_iconst (v := 1) dX8_joined_52 rfl ?_
      refine r_goto (tgt := 57) dX8_joined_53 (by decide) ?_
      exact r_tope (by rw [hx17, if_neg c15]) keyx17
    · refine r_iload_n (x := p2) dX8_joined_48 rfl ?_
      refine r_if_eq (tgt := 56) dX8_joined_49 (by decide) (fun c16 => ?_) (fun c16 => ?_)
      · refine r_iconst (v := 0) dX8_joined_56 rfl ?_
        exact r_tope (by rw [hx17, if_pos c15, if_pos c16]) keyx17
      · refine r_iconst (v := 1) dX8_joined_52 rfl ?_
        refine r_goto (tgt := 57) dX8_joined_53 (by decide) ?_
        exact r_tope (by rw [hx17, if_pos c15, if_neg c16]) keyx17
  rw [if_neg c14] at h
  refine r_tableOut (tgt := 106) dX8_joined_1 (by have nc1 := lv_neT c1 (a := -14) rfl; have nc2 := lv_neT c2 (a := -13) rfl; have nc3 := lv_neT c3 (a := -12) rfl; have nc4 := lv_neT c4 (a := -11) rfl; have nc7 := lv_neT c7 (a := -10) rfl; have nc10 := lv_neT c10 (a := -9) rfl; have nc14 := lv_neT c14 (a := -8) rfl; omega) (by decide) ?_
  refine r_iload_n (x := p2) dX8_joined_106 rfl ?_
  refine r_if_ne (tgt := 114) dX8_joined_107 (by decide) (fun c18 => ?_) (fun c18 => ?_)
  · rw [if_neg c18] at h
    refine r_iload_n (x := p1) dX8_joined_114 rfl ?_
    refine r_iload_n (x := p2) dX8_joined_115 rfl ?_
    obtain ⟨g19, h⟩ := gd_e h
    refine r_idiv dX8_joined_116 g19 ?_
    cases h
    exact r_ireturn dX8_joined_117 rfl (Nat.zero_le _) ⟨rfl, rfl⟩
  · rw [if_pos c18] at h
    refine r_iconst (v := 0) dX8_joined_110 rfl ?_
    refine r_goto (tgt := 117) dX8_joined_111 (by decide) ?_
    cases h
    exact r_ireturn dX8_joined_117 rfl (Nat.zero_le _) ⟨rfl, rfl⟩
def fX9_keepSets_2 (N : Nat)  : Nat → Int32 → PS → Option (Int32 × PS)
  | 0, _, _ => none
  | n + 1, v1, S =>
    (if 40 ≤ v1 then
      some (v1, S)
    else
      gd (inr v1 40) <|
      lt ((S.1 32 (ix v1)) : Int32) fun x3 =>
      (if x3 < 0 then
        lt (v1 + 1 : Int32) fun x5 =>
        fX9_keepSets_2 N  n x5 S
      else
        (if 512 ≤ x3 then
          lt (v1 + 1 : Int32) fun x7 =>
          fX9_keepSets_2 N  n x7 S
        else
          gd (inr ((v1 * 8) + (x3 / 64)) 320) <|
          gd (inr ((v1 * 8) + (x3 / 64)) 320) <|
          lt ((S.1, u2L S.2.1 33 (ix ((v1 * 8) + (x3 / 64))) ((S.2.1 33 (ix ((v1 * 8) + (x3 / 64)))) ||| (1 <<< (((x3 - x3 / 64 * 64) : Int32).toInt64 &&& 63))), S.2.2) : PS) fun S10 =>
          lt (v1 + 1 : Int32) fun x11 =>
          fX9_keepSets_2 N  n x11 S10)))
set_option maxHeartbeats 4000000 in
set_option maxRecDepth 100000 in
theorem okX9_keepSets_2 (N : Nat)  (Q : OQ) (u : Nat) (hu : u ≤ 0) : ∀ (n : Nat) (v1 : Int32) (S : PS) (y1 : Int32) (T : PS), fX9_keepSets_2 N  n v1 S = some (y1, T) → WP [] mX9_keepSets 0 0 Q 55 [some (.ref 7), some (.int y1), none] [] T u → WP [] mX9_keepSets 0 0 Q 2 [some (.ref 7), some (.int v1), none] [] S u := by
  intro n
  induction n with
  | zero => intro v1 S y1 T h; rw [fX9_keepSets_2] at h; cases h
  | succ n ih =>
    intro v1 S y1 T h k0
    rw [fX9_keepSets_2] at h
    refine r_iload_n (x := v1) dX9_keepSets_2 rfl ?_
    refine r_bipush (v := 40) dX9_keepSets_3 rfl ?_
    refine r_icmp_ge (tgt := 55) dX9_keepSets_5 (by decide) (fun c1 => ?_) (fun c1 => ?_)
    · rw [if_pos c1] at h
      cases h
      exact k0
    · rw [if_neg c1] at h
      refine r_aload_n (x := 7) dX9_keepSets_8 rfl ?_
      refine r_getfield (o := 7) (v := .ref 32) dX9_keepSets_9 lX9_9 ck7 nC7 rfl ?_
      refine r_iload_n (x := v1) dX9_keepSets_12 rfl ?_
      obtain ⟨g2, h⟩ := gd_e h
      refine r_iaload (a := 32) dX9_keepSets_13 ck32 nC32 (inr_IX g2) ?_
      refine r_topi (fun x3 hx3 => ?_)
      replace h := lt_e hx3 h
      refine r_istore_n (L' := [some (.ref 7), some (.int v1), some (.int x3)]) dX9_keepSets_14 (Nat.le_of_ble_eq_true rfl) rfl rfl ?_
      refine r_iload_n (x := x3) dX9_keepSets_15 rfl ?_
      refine r_if_lt (tgt := 49) dX9_keepSets_16 (by decide) (fun c4 => ?_) (fun c4 => ?_)
      · rw [if_pos c4] at h
        obtain ⟨x5, hx5⟩ : ∃ y : Int32, y = (v1 + 1 : Int32) := ⟨_, rfl⟩
        replace h := lt_e hx5 h
        refine r_iinc (x := v1) (v := x5) (L' := [some (.ref 7), some (.int x5), some (.int x3)]) dX9_keepSets_49 rfl (by rw [hx5]; rfl) (Nat.le_of_ble_eq_true rfl) rfl rfl ?_
        refine r_goto (tgt := 2) dX9_keepSets_52 (by decide) ?_
        refine r_drop [true, true, false] rfl ?_
        exact ih _ _ _ _ h k0
      · rw [if_neg c4] at h
        refine r_iload_n (x := x3) dX9_keepSets_19 rfl ?_
        refine r_sipush (v := 512) dX9_keepSets_20 rfl ?_
        refine r_icmp_ge (tgt := 49) dX9_keepSets_23 (by decide) (fun c6 => ?_) (fun c6 => ?_)
        · rw [if_pos c6] at h
          obtain ⟨x7, hx7⟩ : ∃ y : Int32, y = (v1 + 1 : Int32) := ⟨_, rfl⟩
          replace h := lt_e hx7 h
          refine r_iinc (x := v1) (v := x7) (L' := [some (.ref 7), some (.int x7), some (.int x3)]) dX9_keepSets_49 rfl (by rw [hx7]; rfl) (Nat.le_of_ble_eq_true rfl) rfl rfl ?_
          refine r_goto (tgt := 2) dX9_keepSets_52 (by decide) ?_
          refine r_drop [true, true, false] rfl ?_
          exact ih _ _ _ _ h k0
        · rw [if_neg c6] at h
          refine r_aload_n (x := 7) dX9_keepSets_26 rfl ?_
          refine r_getfield (o := 7) (v := .ref 33) dX9_keepSets_27 lX9_15 ck7 nC7 rfl ?_
          refine r_iload_n (x := v1) dX9_keepSets_30 rfl ?_
          refine r_bipush (v := 8) dX9_keepSets_31 rfl ?_
          refine r_imul dX9_keepSets_33 ?_
          refine r_iload_n (x := x3) dX9_keepSets_34 rfl ?_
          refine r_bipush (v := 64) dX9_keepSets_35 rfl ?_
          refine r_idiv dX9_keepSets_37 (by decide) ?_
          refine r_iadd dX9_keepSets_38 ?_
          refine r_dup2 dX9_keepSets_39 ?_
          obtain ⟨g8, h⟩ := gd_e h
          refine r_laload (a := 33) dX9_keepSets_40 ck33 nC33 (inr_IX g8) ?_
          refine r_lconst (v := 1) dX9_keepSets_41 rfl ?_
          refine r_iload_n (x := x3) dX9_keepSets_42 rfl ?_
          refine r_bipush (v := 64) dX9_keepSets_43 rfl ?_
          refine r_irem dX9_keepSets_45 (by decide) ?_
          refine r_lshl dX9_keepSets_46 ?_
          refine r_lor dX9_keepSets_47 ?_
          obtain ⟨g9, h⟩ := gd_e h
          refine r_lastore (a := 33) dX9_keepSets_48 ck33 nC33 (inr_IX g9) ?_
          refine r_topS (fun S10 hS10 => ?_)
          replace h := lt_e hS10 h
          obtain ⟨x11, hx11⟩ : ∃ y : Int32, y = (v1 + 1 : Int32) := ⟨_, rfl⟩
          replace h := lt_e hx11 h
          refine r_iinc (x := v1) (v := x11) (L' := [some (.ref 7), some (.int x11), some (.int x3)]) dX9_keepSets_49 rfl (by rw [hx11]; rfl) (Nat.le_of_ble_eq_true rfl) rfl rfl ?_
          refine r_goto (tgt := 2) dX9_keepSets_52 (by decide) ?_
          refine r_drop [true, true, false] rfl ?_
          exact ih _ _ _ _ h k0
def fX9_keepSets (N : Nat)  (S : PS) : Option PS :=
  bT (fX9_keepSets_2 N  N 0 S) fun q12 =>
  lt (q12.1 : Int32) fun x13 =>
  lt (q12.2 : PS) fun S14 =>
  some S14
set_option maxHeartbeats 4000000 in
set_option maxRecDepth 100000 in
theorem okX9_keepSets (N : Nat)  (S : PS) (T : PS) (h : fX9_keepSets N  S = some T) : CT mX9_keepSets 0 0 [.ref 7] S (qV T) := by
  refine ct_of [some (.ref 7), none, none] rfl (fun _ => rfl) (fun _ => Nat.le_of_ble_eq_true rfl) ?_
  unfold fX9_keepSets at h
  refine r_iconst (v := 0) dX9_keepSets_0 rfl ?_
  refine r_istore_n (L' := [some (.ref 7), some (.int 0), none]) dX9_keepSets_1 (Nat.le_of_ble_eq_true rfl) rfl rfl ?_
  obtain ⟨⟨x13, S14⟩, h16, h⟩ := bT_e h
  dsimp only at h
  replace h := pl_s (pl_s (h))
  refine okX9_keepSets_2 N  (qV T) 0 (Nat.zero_le _) _ _ _ _ _ h16 ?_
  cases h
  exact r_return dX9_keepSets_55 rfl (Nat.zero_le _) ⟨rfl, rfl⟩
def fX10_append_3 (N : Nat) (v1 : Int32) : Nat → Int32 → PS → Option (Int32 × PS)
  | 0, _, _ => none
  | n + 1, v2, S =>
    (if v2 < 0 then
      some (v2, S)
    else
      (if 700 ≤ (S.1 2 1) then
        lt (v2 + (-8) : Int32) fun x3 =>
        fX10_append_3 N v1 n x3 S
      else
        gd (inr (S.1 2 1) 700) <|
        lt ((u2 S.1 26 (ix (S.1 2 1)) ((v1 >>> (v2 &&& 31)).toInt8.toInt32).toInt8.toInt32, S.2) : PS) fun S5 =>
        lt ((u2 S5.1 2 1 ((S5.1 2 1) + 1), S5.2) : PS) fun S6 =>
        lt (v2 + (-8) : Int32) fun x7 =>
        fX10_append_3 N v1 n x7 S6))
set_option maxHeartbeats 4000000 in
set_option maxRecDepth 100000 in
theorem okX10_append_3 (N : Nat) (v1 : Int32) (Q : OQ) (u : Nat) (hu : u ≤ 0) : ∀ (n : Nat) (v2 : Int32) (S : PS) (y2 : Int32) (T : PS), fX10_append_3 N v1 n v2 S = some (y2, T) → WP [] mX10_append 0 0 Q 48 [some (.ref 2), some (.int v1), some (.int y2)] [] T u → WP [] mX10_append 0 0 Q 3 [some (.ref 2), some (.int v1), some (.int v2)] [] S u := by
  intro n
  induction n with
  | zero => intro v2 S y2 T h; rw [fX10_append_3] at h; cases h
  | succ n ih =>
    intro v2 S y2 T h k0
    rw [fX10_append_3] at h
    refine r_iload_n (x := v2) dX10_append_3 rfl ?_
    refine r_if_lt (tgt := 48) dX10_append_4 (by decide) (fun c1 => ?_) (fun c1 => ?_)
    · rw [if_pos c1] at h
      cases h
      exact k0
    · rw [if_neg c1] at h
      refine r_aload_n (x := 2) dX10_append_7 rfl ?_
      refine r_getfield (o := 2) (v := .int (S.1 2 1)) dX10_append_8 lX10_15 ck2 nC2 rfl ?_
      refine r_aload_n (x := 2) dX10_append_11 rfl ?_
      refine r_getfield (o := 2) (v := .ref 26) dX10_append_12 lX10_9 ck2 nC2 rfl ?_
      refine r_alen (v := 700) dX10_append_15 ck26 (by decide) nC26 rfl ?_
      refine r_icmp_ge (tgt := 42) dX10_append_16 (by decide) (fun c2 => ?_) (fun c2 => ?_)
      · rw [if_pos c2] at h
        obtain ⟨x3, hx3⟩ : ∃ y : Int32, y = (v2 + (-8) : Int32) := ⟨_, rfl⟩
        replace h := lt_e hx3 h
        refine r_iinc (x := v2) (v := x3) (L' := [some (.ref 2), some (.int v1), some (.int x3)]) dX10_append_42 rfl (by rw [hx3]; rfl) (Nat.le_of_ble_eq_true rfl) rfl rfl ?_
        refine r_goto (tgt := 3) dX10_append_45 (by decide) ?_
        exact ih _ _ _ _ h k0
      · rw [if_neg c2] at h
        refine r_aload_n (x := 2) dX10_append_19 rfl ?_
        refine r_getfield (o := 2) (v := .ref 26) dX10_append_20 lX10_9 ck2 nC2 rfl ?_
        refine r_aload_n (x := 2) dX10_append_23 rfl ?_
        refine r_getfield (o := 2) (v := .int (S.1 2 1)) dX10_append_24 lX10_15 ck2 nC2 rfl ?_
        refine r_iload_n (x := v1) dX10_append_27 rfl ?_
        refine r_iload_n (x := v2) dX10_append_28 rfl ?_
        refine r_ishr dX10_append_29 ?_
        refine r_i2b dX10_append_30 ?_
        obtain ⟨g4, h⟩ := gd_e h
        refine r_bastore (a := 26) dX10_append_31 ck26 nC26 (inr_IX g4) ?_
        refine r_topS (fun S5 hS5 => ?_)
        replace h := lt_e hS5 h
        refine r_aload_n (x := 2) dX10_append_32 rfl ?_
        refine r_dup_ref dX10_append_33 ?_
        refine r_getfield (o := 2) (v := .int (S5.1 2 1)) dX10_append_34 lX10_15 ck2 nC2 rfl ?_
        refine r_iconst (v := 1) dX10_append_37 rfl ?_
        refine r_iadd dX10_append_38 ?_
        refine r_putI dX10_append_39 lX10_15 ck2 nC2 ?_
        refine r_topS (fun S6 hS6 => ?_)
        replace h := lt_e hS6 h
        obtain ⟨x7, hx7⟩ : ∃ y : Int32, y = (v2 + (-8) : Int32) := ⟨_, rfl⟩
        replace h := lt_e hx7 h
        refine r_iinc (x := v2) (v := x7) (L' := [some (.ref 2), some (.int v1), some (.int x7)]) dX10_append_42 rfl (by rw [hx7]; rfl) (Nat.le_of_ble_eq_true rfl) rfl rfl ?_
        refine r_goto (tgt := 3) dX10_append_45 (by decide) ?_
        exact ih _ _ _ _ h k0
def fX10_append (N : Nat) (p0 : Int32) (S : PS) : Option PS :=
  bT (fX10_append_3 N p0 N 24 S) fun q8 =>
  lt (q8.1 : Int32) fun x9 =>
  lt (q8.2 : PS) fun S10 =>
  some S10
set_option maxHeartbeats 4000000 in
set_option maxRecDepth 100000 in
theorem okX10_append (N : Nat) (p0 : Int32) (S : PS) (T : PS) (h : fX10_append N p0 S = some T) : CT mX10_append 0 0 [.ref 2, .int p0] S (qV T) := by
  refine ct_of [some (.ref 2), some (.int p0), none] rfl (fun _ => rfl) (fun _ => Nat.le_of_ble_eq_true rfl) ?_
  unfold fX10_append at h
  refine r_bipush (v := 24) dX10_append_0 rfl ?_
  refine r_istore_n (L' := [some (.ref 2), some (.int p0), some (.int 24)]) dX10_append_2 (Nat.le_of_ble_eq_true rfl) rfl rfl ?_
  obtain ⟨⟨x9, S10⟩, h12, h⟩ := bT_e h
  dsimp only at h
  replace h := pl_s (pl_s (h))
  refine okX10_append_3 N p0 (qV T) 0 (Nat.zero_le _) _ _ _ _ _ h12 ?_
  cases h
  exact r_return dX10_append_48 rfl (Nat.zero_le _) ⟨rfl, rfl⟩
def fX10_isTooLong (N : Nat)  (S : PS) : Option (Int32 × PS) :=
  lt ((if ((S.1 2 4) - (S.1 2 3)) ≤ 4 then 0 else 1) : Int32) fun x2 =>
  gd (b01 x2) <|
  some (x2, S)
set_option maxHeartbeats 4000000 in
set_option maxRecDepth 100000 in
theorem okX10_isTooLong (N : Nat)  (S : PS) (r : Int32) (T : PS) (h : fX10_isTooLong N  S = some (r, T)) : CT mX10_isTooLong 0 0 [.ref 2] S (qI r T) := by
  refine ct_of [some (.ref 2)] rfl (fun _ => rfl) (fun _ => Nat.le_of_ble_eq_true rfl) ?_
  unfold fX10_isTooLong at h
  refine r_aload_n (x := 2) dX10_isTooLong_0 rfl ?_
  refine r_getfield (o := 2) (v := .int (S.1 2 4)) dX10_isTooLong_1 lX10_25 ck2 nC2 rfl ?_
  refine r_aload_n (x := 2) dX10_isTooLong_4 rfl ?_
  refine r_getfield (o := 2) (v := .int (S.1 2 3)) dX10_isTooLong_5 lX10_22 ck2 nC2 rfl ?_
  refine r_isub dX10_isTooLong_8 ?_
  refine r_iconst (v := 4) dX10_isTooLong_9 rfl ?_
  obtain ⟨x2, hx2⟩ : ∃ y : Int32, y = ((if ((S.1 2 4) - (S.1 2 3)) ≤ 4 then 0 else 1) : Int32) := ⟨_, rfl⟩
  replace h := lt_e hx2 h
  have keyx2 : WP [] mX10_isTooLong 0 0 (qI r T) 18 [some (.ref 2)] (.int x2 :: []) S 0 := by
    obtain ⟨g3, h⟩ := gd_e h
    cases h
    exact r_zreturn dX10_isTooLong_18 rfl (nar01 g3) (Nat.zero_le _) ⟨rfl, rfl⟩
  refine r_icmp_le (tgt := 17) dX10_isTooLong_10 (by decide) (fun c1 => ?_) (fun c1 => ?_)
  · refine r_iconst (v := 0) dX10_isTooLong_17 rfl ?_
    exact r_tope (by rw [hx2, if_pos c1]) keyx2
  · refine r_iconst (v := 1) dX10_isTooLong_13 rfl ?_
    refine r_goto (tgt := 18) dX10_isTooLong_14 (by decide) ?_
    exact r_tope (by rw [hx2, if_neg c1]) keyx2
def fX10_isWord_31 (N : Nat) (v1 : Nat) : Nat → Int32 → PS → Option (Nat × Int32 × PS)
  | 0, _, _ => none
  | n + 1, v2, S =>
    (if (S.1 2 4) ≤ v2 then
      some (0, v2, S)
    else
      gd (inr v2 700) <|
      gd (v1 < litL.length) <|
      gd (inr (v2 - (S.1 2 3)) (litL.getD v1 0)) <|
      lt ((sch v1 (ix (v2 - (S.1 2 3)))) : Int32) fun x10 =>
      (if (S.1 26 (ix v2)) = x10 then
        lt (v2 + 1 : Int32) fun x12 =>
        fX10_isWord_31 N v1 n x12 S
      else
        some (1, v2, S)))
set_option maxHeartbeats 4000000 in
set_option maxRecDepth 100000 in
theorem okX10_isWord_31 (N : Nat) (v1 : Nat) (Q : OQ) (u : Nat) (hu : u ≤ 0) : ∀ (n : Nat) (v2 : Int32) (S : PS) (tg : Nat) (y2 : Int32) (T : PS), fX10_isWord_31 N v1 n v2 S = some (tg, y2, T) → (tg = 0 → WP [] mX10_isWord 4 0 Q 66 [some (.ref 2), some (.ref (1001 + v1)), some (.int y2)] [] T u) → (tg = 1 → WP [] mX10_isWord 4 0 Q 58 [some (.ref 2), some (.ref (1001 + v1)), some (.int y2)] [] T u) → WP [] mX10_isWord 4 0 Q 31 [some (.ref 2), some (.ref (1001 + v1)), some (.int v2)] [] S u := by
  intro n
  induction n with
  | zero => intro v2 S tg y2 T h; rw [fX10_isWord_31] at h; cases h
  | succ n ih =>
    intro v2 S tg y2 T h k0 k1
    rw [fX10_isWord_31] at h
    refine r_iload_n (x := v2) dX10_isWord_31 rfl ?_
    refine r_aload_n (x := 2) dX10_isWord_32 rfl ?_
    refine r_getfield (o := 2) (v := .int (S.1 2 4)) dX10_isWord_33 lX10_25 ck2 nC2 rfl ?_
    refine r_icmp_ge (tgt := 66) dX10_isWord_36 (by decide) (fun c6 => ?_) (fun c6 => ?_)
    · rw [if_pos c6] at h
      cases h
      exact k0 rfl
    · rw [if_neg c6] at h
      refine r_aload_n (x := 2) dX10_isWord_39 rfl ?_
      refine r_getfield (o := 2) (v := .ref 26) dX10_isWord_40 lX10_9 ck2 nC2 rfl ?_
      refine r_iload_n (x := v2) dX10_isWord_43 rfl ?_
      obtain ⟨g7, h⟩ := gd_e h
      refine r_baload (a := 26) dX10_isWord_44 ck26 nC26 (inr_IX g7) ?_
      refine r_aload_n (x := (1001 + v1)) dX10_isWord_45 rfl ?_
      refine r_iload_n (x := v2) dX10_isWord_46 rfl ?_
      refine r_aload_n (x := 2) dX10_isWord_47 rfl ?_
      refine r_getfield (o := 2) (v := .int (S.1 2 3)) dX10_isWord_48 lX10_22 ck2 nC2 rfl ?_
      refine r_isub dX10_isWord_51 ?_
      obtain ⟨g8, h⟩ := gd_e h
      obtain ⟨g9, h⟩ := gd_e h
      refine r_callStr (y := mJ0_charAt_5068e) (k9 := v1) (As := [.int (v2 - (S.1 2 3))]) (rest := [.int (S.1 26 (ix v2))]) g8 dX10_isWord_52 qX10_61 kJ0_charAt_5068e rfl rfl (ok_sChA S v1 (ix (v2 - (S.1 2 3))) (v2 - (S.1 2 3)) g8 (inr_IX g9) (inr_n0 g9) (inr_lt g8 g9)) (by decide) hu rfl (Nat.le_of_ble_eq_true rfl) ?_
      refine r_topi (fun x10 hx10 => ?_)
      replace h := lt_e hx10 h
      refine r_icmp_eq (tgt := 60) dX10_isWord_55 (by decide) (fun c11 => ?_) (fun c11 => ?_)
      · rw [if_pos c11] at h
        obtain ⟨x12, hx12⟩ : ∃ y : Int32, y = (v2 + 1 : Int32) := ⟨_, rfl⟩
        replace h := lt_e hx12 h
        refine r_iinc (x := v2) (v := x12) (L' := [some (.ref 2), some (.ref (1001 + v1)), some (.int x12)]) dX10_isWord_60 rfl (by rw [hx12]; rfl) (Nat.le_of_ble_eq_true rfl) rfl rfl ?_
        refine r_goto (tgt := 31) dX10_isWord_63 (by decide) ?_
        exact ih _ _ _ _ _ h k0 k1
      · rw [if_neg c11] at h
        cases h
        exact k1 rfl
def fX10_isWord (N : Nat) (p0 : Nat) (S : PS) : Option (Int32 × PS) :=
  (if (S.1 2 5) = 1 then
    gd (p0 < litL.length) <|
    lt ((nI (litL.getD p0 0)) : Int32) fun x3 =>
    (if x3 = ((S.1 2 4) - (S.1 2 3)) then
      lt ((S.1 2 3) : Int32) fun x5 =>
      bT (fX10_isWord_31 N p0 N x5 S) fun q13 =>
      lt (q13.1 : Nat) fun t16 =>
      lt (q13.2.1 : Int32) fun x14 =>
      lt (q13.2.2 : PS) fun S15 =>
      (if t16 = 0 then
        some (1, S15)
      else 
        some (0, S15))
    else
      some (0, S))
  else
    some (0, S))
set_option maxHeartbeats 4000000 in
set_option maxRecDepth 100000 in
theorem okX10_isWord (N : Nat) (p0 : Nat) (S : PS) (r : Int32) (T : PS) (h : fX10_isWord N p0 S = some (r, T)) : CT mX10_isWord 4 0 [.ref 2, .ref (1001 + p0)] S (qI r T) := by
  refine ct_of [some (.ref 2), some (.ref (1001 + p0)), none] rfl (fun _ => rfl) (fun _ => Nat.le_of_ble_eq_true rfl) ?_
  unfold fX10_isWord at h
  refine r_aload_n (x := 2) dX10_isWord_0 rfl ?_
  refine r_getfield (o := 2) (v := .int (S.1 2 5)) dX10_isWord_1 lX10_28 ck2 nC2 rfl ?_
  refine r_iconst (v := 1) dX10_isWord_4 rfl ?_
  refine r_icmp_ne (tgt := 24) dX10_isWord_5 (by decide) (fun c1 => ?_) (fun c1 => ?_)
  · rw [if_neg c1] at h
    refine r_iconst (v := 0) dX10_isWord_24 rfl ?_
    cases h
    exact r_zreturn dX10_isWord_25 rfl rfl (Nat.zero_le _) ⟨rfl, rfl⟩
  · rw [if_pos c1] at h
    refine r_aload_n (x := (1001 + p0)) dX10_isWord_8 rfl ?_
    obtain ⟨g2, h⟩ := gd_e h
    refine r_callStr (y := mJ0_length_8abf5) (k9 := p0) (As := []) (rest := []) g2 dX10_isWord_9 qX10_56 kJ0_length_8abf5 rfl rfl (ok_sLen S p0 g2) (by decide) (Nat.zero_le _) rfl (Nat.le_of_ble_eq_true rfl) ?_
    refine r_topi (fun x3 hx3 => ?_)
    replace h := lt_e hx3 h
    refine r_aload_n (x := 2) dX10_isWord_12 rfl ?_
    refine r_getfield (o := 2) (v := .int (S.1 2 4)) dX10_isWord_13 lX10_25 ck2 nC2 rfl ?_
    refine r_aload_n (x := 2) dX10_isWord_16 rfl ?_
    refine r_getfield (o := 2) (v := .int (S.1 2 3)) dX10_isWord_17 lX10_22 ck2 nC2 rfl ?_
    refine r_isub dX10_isWord_20 ?_
    refine r_icmp_eq (tgt := 26) dX10_isWord_21 (by decide) (fun c4 => ?_) (fun c4 => ?_)
    · rw [if_pos c4] at h
      refine r_aload_n (x := 2) dX10_isWord_26 rfl ?_
      refine r_getfield (o := 2) (v := .int (S.1 2 3)) dX10_isWord_27 lX10_22 ck2 nC2 rfl ?_
      refine r_topi (fun x5 hx5 => ?_)
      replace h := lt_e hx5 h
      refine r_istore_n (L' := [some (.ref 2), some (.ref (1001 + p0)), some (.int x5)]) dX10_isWord_30 (Nat.le_of_ble_eq_true rfl) rfl rfl ?_
      obtain ⟨⟨t16, x14, S15⟩, h17, h⟩ := bT_e h
      dsimp only at h
      replace h := pl_s (pl_s (pl_s (h)))
      refine okX10_isWord_31 N p0 (qI r T) 0 (Nat.zero_le _) _ _ _ _ _ _ h17 (fun et16 => ?_) (fun et16 => ?_)
      · rw [if_pos et16] at h
        refine r_iconst (v := 1) dX10_isWord_66 rfl ?_
        cases h
        exact r_zreturn dX10_isWord_67 rfl rfl (Nat.zero_le _) ⟨rfl, rfl⟩
      · rw [if_neg (by rw [et16]; decide)] at h
        refine r_iconst (v := 0) dX10_isWord_58 rfl ?_
        cases h
        exact r_zreturn dX10_isWord_59 rfl rfl (Nat.zero_le _) ⟨rfl, rfl⟩
    · rw [if_neg c4] at h
      refine r_iconst (v := 0) dX10_isWord_24 rfl ?_
      cases h
      exact r_zreturn dX10_isWord_25 rfl rfl (Nat.zero_le _) ⟨rfl, rfl⟩
def fX10_isSign (N : Nat) (p0 : Int32) (S : PS) : Option (Int32 × PS) :=
  (if (S.1 2 5) = 3 then
    (if (S.1 2 2) ≤ (S.1 2 3) then
      some (0, S)
    else
      gd (inr (S.1 2 3) 700) <|
      lt ((if (S.1 26 (ix (S.1 2 3))) = p0 then 1 else 0) : Int32) fun x5 =>
      gd (b01 x5) <|
      some (x5, S))
  else
    some (0, S))
set_option maxHeartbeats 4000000 in
set_option maxRecDepth 100000 in
theorem okX10_isSign (N : Nat) (p0 : Int32) (S : PS) (r : Int32) (T : PS) (h : fX10_isSign N p0 S = some (r, T)) : CT mX10_isSign 0 0 [.ref 2, .int p0] S (qI r T) := by
  refine ct_of [some (.ref 2), some (.int p0)] rfl (fun _ => rfl) (fun _ => Nat.le_of_ble_eq_true rfl) ?_
  unfold fX10_isSign at h
  refine r_aload_n (x := 2) dX10_isSign_0 rfl ?_
  refine r_getfield (o := 2) (v := .int (S.1 2 5)) dX10_isSign_1 lX10_28 ck2 nC2 rfl ?_
  refine r_iconst (v := 3) dX10_isSign_4 rfl ?_
  refine r_icmp_ne (tgt := 36) dX10_isSign_5 (by decide) (fun c1 => ?_) (fun c1 => ?_)
  · rw [if_neg c1] at h
    refine r_iconst (v := 0) dX10_isSign_36 rfl ?_
    cases h
    exact r_zreturn dX10_isSign_37 rfl rfl (Nat.zero_le _) ⟨rfl, rfl⟩
  · rw [if_pos c1] at h
    refine r_aload_n (x := 2) dX10_isSign_8 rfl ?_
    refine r_getfield (o := 2) (v := .int (S.1 2 3)) dX10_isSign_9 lX10_22 ck2 nC2 rfl ?_
    refine r_aload_n (x := 2) dX10_isSign_12 rfl ?_
    refine r_getfield (o := 2) (v := .int (S.1 2 2)) dX10_isSign_13 lX10_19 ck2 nC2 rfl ?_
    refine r_icmp_ge (tgt := 36) dX10_isSign_16 (by decide) (fun c2 => ?_) (fun c2 => ?_)
    · rw [if_pos c2] at h
      refine r_iconst (v := 0) dX10_isSign_36 rfl ?_
      cases h
      exact r_zreturn dX10_isSign_37 rfl rfl (Nat.zero_le _) ⟨rfl, rfl⟩
    · rw [if_neg c2] at h
      refine r_aload_n (x := 2) dX10_isSign_19 rfl ?_
      refine r_getfield (o := 2) (v := .ref 26) dX10_isSign_20 lX10_9 ck2 nC2 rfl ?_
      refine r_aload_n (x := 2) dX10_isSign_23 rfl ?_
      refine r_getfield (o := 2) (v := .int (S.1 2 3)) dX10_isSign_24 lX10_22 ck2 nC2 rfl ?_
      obtain ⟨g3, h⟩ := gd_e h
      refine r_baload (a := 26) dX10_isSign_27 ck26 nC26 (inr_IX g3) ?_
      refine r_iload_n (x := p0) dX10_isSign_28 rfl ?_
      obtain ⟨x5, hx5⟩ : ∃ y : Int32, y = ((if (S.1 26 (ix (S.1 2 3))) = p0 then 1 else 0) : Int32) := ⟨_, rfl⟩
      replace h := lt_e hx5 h
      have keyx5 : WP [] mX10_isSign 0 0 (qI r T) 37 [some (.ref 2), some (.int p0)] (.int x5 :: []) S 0 := by
        obtain ⟨g6, h⟩ := gd_e h
        cases h
        exact r_zreturn dX10_isSign_37 rfl (nar01 g6) (Nat.zero_le _) ⟨rfl, rfl⟩
      refine r_icmp_ne (tgt := 36) dX10_isSign_29 (by decide) (fun c4 => ?_) (fun c4 => ?_)
      · refine r_iconst (v := 0) dX10_isSign_36 rfl ?_
        exact r_tope (by rw [hx5, if_neg c4]) keyx5
      · refine r_iconst (v := 1) dX10_isSign_32 rfl ?_
        refine r_goto (tgt := 37) dX10_isSign_33 (by decide) ?_
        exact r_tope (by rw [hx5, if_pos c4]) keyx5
def fX10_isBlank (N : Nat) (p0 : Int32) (S : PS) : Option (Int32 × PS) :=
  lt ((if p0 = 32 then 1 else (if p0 = 10 then 1 else 0)) : Int32) fun x3 =>
  gd (b01 x3) <|
  some (x3, S)
set_option maxHeartbeats 4000000 in
set_option maxRecDepth 100000 in
theorem okX10_isBlank (N : Nat) (p0 : Int32) (S : PS) (r : Int32) (T : PS) (h : fX10_isBlank N p0 S = some (r, T)) : CT mX10_isBlank 0 0 [.int p0] S (qI r T) := by
  refine ct_of [some (.int p0)] rfl (fun _ => rfl) (fun _ => Nat.le_of_ble_eq_true rfl) ?_
  unfold fX10_isBlank at h
  refine r_iload_n (x := p0) dX10_isBlank_0 rfl ?_
  refine r_bipush (v := 32) dX10_isBlank_1 rfl ?_
  obtain ⟨x3, hx3⟩ : ∃ y : Int32, y = ((if p0 = 32 then 1 else (if p0 = 10 then 1 else 0)) : Int32) := ⟨_, rfl⟩
  replace h := lt_e hx3 h
  have keyx3 : WP [] mX10_isBlank 0 0 (qI r T) 17 [some (.int p0)] (.int x3 :: []) S 0 := by
    obtain ⟨g4, h⟩ := gd_e h
    cases h
    exact r_zreturn dX10_isBlank_17 rfl (nar01 g4) (Nat.zero_le _) ⟨rfl, rfl⟩
  refine r_icmp_eq (tgt := 12) dX10_isBlank_3 (by decide) (fun c1 => ?_) (fun c1 => ?_)
  · refine r_iconst (v := 1) dX10_isBlank_12 rfl ?_
    refine r_goto (tgt := 17) dX10_isBlank_13 (by decide) ?_
    exact r_tope (by rw [hx3, if_pos c1]) keyx3
  · refine r_iload_n (x := p0) dX10_isBlank_6 rfl ?_
    refine r_bipush (v := 10) dX10_isBlank_7 rfl ?_
    refine r_icmp_ne (tgt := 16) dX10_isBlank_9 (by decide) (fun c2 => ?_) (fun c2 => ?_)
    · refine r_iconst (v := 0) dX10_isBlank_16 rfl ?_
      exact r_tope (by rw [hx3, if_neg c1, if_neg c2]) keyx3
    · refine r_iconst (v := 1) dX10_isBlank_12 rfl ?_
      refine r_goto (tgt := 17) dX10_isBlank_13 (by decide) ?_
      exact r_tope (by rw [hx3, if_neg c1, if_pos c2]) keyx3
def fX10_isLetter (N : Nat) (p0 : Int32) (S : PS) : Option (Int32 × PS) :=
  lt ((if p0 < 97 then 0 else (if 122 < p0 then 0 else 1)) : Int32) fun x3 =>
  gd (b01 x3) <|
  some (x3, S)
set_option maxHeartbeats 4000000 in
set_option maxRecDepth 100000 in
theorem okX10_isLetter (N : Nat) (p0 : Int32) (S : PS) (r : Int32) (T : PS) (h : fX10_isLetter N p0 S = some (r, T)) : CT mX10_isLetter 0 0 [.int p0] S (qI r T) := by
  refine ct_of [some (.int p0)] rfl (fun _ => rfl) (fun _ => Nat.le_of_ble_eq_true rfl) ?_
  unfold fX10_isLetter at h
  refine r_iload_n (x := p0) dX10_isLetter_0 rfl ?_
  refine r_bipush (v := 97) dX10_isLetter_1 rfl ?_
  obtain ⟨x3, hx3⟩ : ∃ y : Int32, y = ((if p0 < 97 then 0 else (if 122 < p0 then 0 else 1)) : Int32) := ⟨_, rfl⟩
  replace h := lt_e hx3 h
  have keyx3 : WP [] mX10_isLetter 0 0 (qI r T) 17 [some (.int p0)] (.int x3 :: []) S 0 := by
    obtain ⟨g4, h⟩ := gd_e h
    cases h
    exact r_zreturn dX10_isLetter_17 rfl (nar01 g4) (Nat.zero_le _) ⟨rfl, rfl⟩
  refine r_icmp_lt (tgt := 16) dX10_isLetter_3 (by decide) (fun c1 => ?_) (fun c1 => ?_)
  · refine r_iconst (v := 0) dX10_isLetter_16 rfl ?_
    exact r_tope (by rw [hx3, if_pos c1]) keyx3
  · refine r_iload_n (x := p0) dX10_isLetter_6 rfl ?_
    refine r_bipush (v := 122) dX10_isLetter_7 rfl ?_
    refine r_icmp_gt (tgt := 16) dX10_isLetter_9 (by decide) (fun c2 => ?_) (fun c2 => ?_)
    · refine r_iconst (v := 0) dX10_isLetter_16 rfl ?_
      exact r_tope (by rw [hx3, if_neg c1, if_pos c2]) keyx3
    · refine r_iconst (v := 1) dX10_isLetter_12 rfl ?_
      refine r_goto (tgt := 17) dX10_isLetter_13 (by decide) ?_
      exact r_tope (by rw [hx3, if_neg c1, if_neg c2]) keyx3
