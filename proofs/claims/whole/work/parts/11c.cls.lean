def fX3_letGo (N : Nat) (p0 : Int32) (p1 : Int32) (S : PS) : Option PS :=
  lt ((S.2.2 5 4) : Nat) fun o1 =>
  gd (obj o1 2) <|
  bI (fX2_dropsIntoFirst N o1 p0 p1 S) fun x2 S3 =>
  lt ((S3.2.2 5 4) : Nat) fun o6 =>
  gd (obj o6 2) <|
  gd (arr (sr o6 2) 1 9) <|
  gd (inr p0 9) <|
  bV (fX3_give N (S3.1 (sr o6 2) (ix p0)) x2 S3) fun S11 =>
  lt ((S11.2.2 5 4) : Nat) fun o13 =>
  gd (obj o13 2) <|
  gd (arr (sr o13 3) 1 9) <|
  gd (inr p0 9) <|
  bV (fX3_give N (S11.1 (sr o13 3) (ix p0)) (p1 - x2) S11) fun S18 =>
  lt ((S18.2.2 5 4) : Nat) fun o20 =>
  gd (obj o20 2) <|
  bV (fX2_passTurns N o20 p0 p1 S18) fun S22 =>
  some S22
set_option maxHeartbeats 4000000 in
set_option maxRecDepth 100000 in
theorem okX3_letGo (N : Nat) (p0 : Int32) (p1 : Int32) (S : PS) (T : PS) (h : fX3_letGo N p0 p1 S = some T) : CT mX3_letGo 1 0 [.ref 5, .int p0, .int p1] S (qV T) := by
  refine ct_of [some (.ref 5), some (.int p0), some (.int p1), none] rfl (fun _ => rfl) (fun _ => Nat.le_of_ble_eq_true rfl) ?_
  unfold fX3_letGo at h
  refine r_aload_n (x := 5) dX3_letGo_0 rfl ?_
  refine r_getfield (o := 5) (v := .ref (S.2.2 5 4)) dX3_letGo_1 lX3_32 ck5 nC5 rfl ?_
  refine r_topr (fun o1 ho1 => ?_)
  replace h := lt_e ho1 h
  refine r_iload_n (x := p0) dX3_letGo_4 rfl ?_
  refine r_iload_n (x := p1) dX3_letGo_5 rfl ?_
  obtain ⟨g5, h⟩ := gd_e h
  obtain ⟨x2, S3, h4, h⟩ := bI_e h
  refine r_cVI (y := mX2_dropsIntoFirst) (As := [.int p0, .int p1]) (rest := []) dX3_letGo_6 qX3_122 kX2_dropsIntoFirst rfl g5 vc2 rfl (okX2_dropsIntoFirst N o1 p0 p1 S x2 S3 h4) (by decide) (Nat.zero_le _) rfl (Nat.le_of_ble_eq_true rfl) ?_
  refine r_istore_n (L' := [some (.ref 5), some (.int p0), some (.int p1), some (.int x2)]) dX3_letGo_9 (Nat.le_of_ble_eq_true rfl) rfl rfl ?_
  refine r_aload_n (x := 5) dX3_letGo_10 rfl ?_
  refine r_aload_n (x := 5) dX3_letGo_11 rfl ?_
  refine r_getfield (o := 5) (v := .ref (S3.2.2 5 4)) dX3_letGo_12 lX3_32 ck5 nC5 rfl ?_
  refine r_topr (fun o6 ho6 => ?_)
  replace h := lt_e ho6 h
  obtain ⟨g7, h⟩ := gd_e h
  refine r_getfield (o := o6) (v := .ref (sr o6 2)) dX3_letGo_15 lX3_125 g7.1 g7.2 rfl ?_
  refine r_iload_n (x := p0) dX3_letGo_18 rfl ?_
  obtain ⟨g8, h⟩ := gd_e h
  obtain ⟨g9, h⟩ := gd_e h
  refine r_iaload (a := (sr o6 2)) dX3_letGo_19 g8.1 g8.2 (inr_IX g9) ?_
  refine r_iload_n (x := x2) dX3_letGo_20 rfl ?_
  obtain ⟨S11, h12, h⟩ := bV_e h
  refine r_cVV (y := mX3_give) (As := [.int (S3.1 (sr o6 2) (ix p0)), .int x2]) (rest := []) dX3_letGo_21 qX3_128 kX3_give rfl ob5 vc3 rfl (okX3_give N (S3.1 (sr o6 2) (ix p0)) x2 S3 S11 h12) (by decide) (Nat.zero_le _) rfl (Nat.le_of_ble_eq_true rfl) ?_
  refine r_aload_n (x := 5) dX3_letGo_24 rfl ?_
  refine r_aload_n (x := 5) dX3_letGo_25 rfl ?_
  refine r_getfield (o := 5) (v := .ref (S11.2.2 5 4)) dX3_letGo_26 lX3_32 ck5 nC5 rfl ?_
  refine r_topr (fun o13 ho13 => ?_)
  replace h := lt_e ho13 h
  obtain ⟨g14, h⟩ := gd_e h
  refine r_getfield (o := o13) (v := .ref (sr o13 3)) dX3_letGo_29 lX3_131 g14.1 g14.2 rfl ?_
  refine r_iload_n (x := p0) dX3_letGo_32 rfl ?_
  obtain ⟨g15, h⟩ := gd_e h
  obtain ⟨g16, h⟩ := gd_e h
  refine r_iaload (a := (sr o13 3)) dX3_letGo_33 g15.1 g15.2 (inr_IX g16) ?_
  refine r_iload_n (x := p1) dX3_letGo_34 rfl ?_
  refine r_iload_n (x := x2) dX3_letGo_35 rfl ?_
  refine r_isub dX3_letGo_36 ?_
  obtain ⟨S18, h19, h⟩ := bV_e h
  refine r_cVV (y := mX3_give) (As := [.int (S11.1 (sr o13 3) (ix p0)), .int (p1 - x2)]) (rest := []) dX3_letGo_37 qX3_128 kX3_give rfl ob5 vc3 rfl (okX3_give N (S11.1 (sr o13 3) (ix p0)) (p1 - x2) S11 S18 h19) (by decide) (Nat.zero_le _) rfl (Nat.le_of_ble_eq_true rfl) ?_
  refine r_aload_n (x := 5) dX3_letGo_40 rfl ?_
  refine r_getfield (o := 5) (v := .ref (S18.2.2 5 4)) dX3_letGo_41 lX3_32 ck5 nC5 rfl ?_
  refine r_topr (fun o20 ho20 => ?_)
  replace h := lt_e ho20 h
  refine r_iload_n (x := p0) dX3_letGo_44 rfl ?_
  refine r_iload_n (x := p1) dX3_letGo_45 rfl ?_
  obtain ⟨g24, h⟩ := gd_e h
  obtain ⟨S22, h23, h⟩ := bV_e h
  refine r_cVV (y := mX2_passTurns) (As := [.int p0, .int p1]) (rest := []) dX3_letGo_46 qX3_134 kX2_passTurns rfl g24 vc2 rfl (okX2_passTurns N o20 p0 p1 S18 S22 h23) (by decide) (Nat.zero_le _) rfl (Nat.le_of_ble_eq_true rfl) ?_
  cases h
  exact r_return dX3_letGo_49 rfl (Nat.zero_le _) ⟨rfl, rfl⟩
def fX4_reckon_19 (N : Nat) (v1 : Nat) (v2 : Nat) (v3 : Int32) : Nat → Int32 → PS → Option (Int32 × PS)
  | 0, _, _ => none
  | n + 1, v4, S =>
    gd (obj v1 1) <|
    (if (S.1 v1 4) ≤ v4 then
      some (v4, S)
    else
      gd (obj v2 2) <|
      bI (fX2_isPlugged N v2 v4 S) fun x9 S10 =>
      (if x9 = 0 then
        gd (inr v4 9) <|
        gd (obj v1 1) <|
        gd (arr (sr v1 0) 1 9) <|
        gd (inr v4 9) <|
        gd (inr v4 9) <|
        lt ((u2 S10.1 29 (ix v4) ((S10.1 29 (ix v4)) + ((S10.1 (sr v1 0) (ix v4)) * v3)), S10.2) : PS) fun S49 =>
        gd (obj v2 2) <|
        gd (arr (sr v2 1) 1 9) <|
        gd (inr v4 9) <|
        gd (inr v4 9) <|
        gd (obj v2 2) <|
        gd (arr (sr v2 0) 1 9) <|
        gd (inr v4 9) <|
        lt ((if (1 : Int32) < (S49.1 (sr v2 0) (ix v4)) then (S49.1 (sr v2 0) (ix v4)) else 1) : Int32) fun x57 =>
        gd (¬ x57 = 0) <|
        gd (inr v4 9) <|
        lt ((u2 S49.1 30 (ix v4) (((S49.1 (sr v2 1) (ix v4)) + (S49.1 29 (ix v4))) / x57), S49.2) : PS) fun S60 =>
        gd (inr v4 9) <|
        gd (obj v2 2) <|
        bI (fX2_dropsIntoFirst N v2 v4 (S60.1 30 (ix v4)) S60) fun x62 S63 =>
        gd (obj v2 2) <|
        gd (arr (sr v2 2) 1 9) <|
        gd (inr v4 9) <|
        bV (fX4_give N (S63.1 (sr v2 2) (ix v4)) x62 S63) fun S70 =>
        gd (obj v2 2) <|
        gd (arr (sr v2 3) 1 9) <|
        gd (inr v4 9) <|
        gd (inr v4 9) <|
        bV (fX4_give N (S70.1 (sr v2 3) (ix v4)) ((S70.1 30 (ix v4)) - x62) S70) fun S77 =>
        lt (v4 + 1 : Int32) fun x79 =>
        fX4_reckon_19 N v1 v2 v3 n x79 S77
      else
        gd (obj v2 2) <|
        gd (arr (sr v2 1) 1 9) <|
        gd (inr v4 9) <|
        gd (inr v4 9) <|
        gd (obj v2 2) <|
        gd (arr (sr v2 0) 1 9) <|
        gd (inr v4 9) <|
        lt ((if (1 : Int32) < (S10.1 (sr v2 0) (ix v4)) then (S10.1 (sr v2 0) (ix v4)) else 1) : Int32) fun x21 =>
        gd (¬ x21 = 0) <|
        gd (inr v4 9) <|
        lt ((u2 S10.1 30 (ix v4) (((S10.1 (sr v2 1) (ix v4)) + (S10.1 29 (ix v4))) / x21), S10.2) : PS) fun S24 =>
        gd (inr v4 9) <|
        gd (obj v2 2) <|
        bI (fX2_dropsIntoFirst N v2 v4 (S24.1 30 (ix v4)) S24) fun x26 S27 =>
        gd (obj v2 2) <|
        gd (arr (sr v2 2) 1 9) <|
        gd (inr v4 9) <|
        bV (fX4_give N (S27.1 (sr v2 2) (ix v4)) x26 S27) fun S34 =>
        gd (obj v2 2) <|
        gd (arr (sr v2 3) 1 9) <|
        gd (inr v4 9) <|
        gd (inr v4 9) <|
        bV (fX4_give N (S34.1 (sr v2 3) (ix v4)) ((S34.1 30 (ix v4)) - x26) S34) fun S41 =>
        lt (v4 + 1 : Int32) fun x43 =>
        fX4_reckon_19 N v1 v2 v3 n x43 S41))
set_option maxHeartbeats 4000000 in
set_option maxRecDepth 100000 in
theorem okX4_reckon_19 (N : Nat) (v1 : Nat) (v2 : Nat) (v3 : Int32) (Q : OQ) (u : Nat) (hu : u ≤ 0) : ∀ (n : Nat) (v4 : Int32) (S : PS) (y4 : Int32) (T : PS), fX4_reckon_19 N v1 v2 v3 n v4 S = some (y4, T) → WP [] mX4_reckon 2 0 Q 145 [some (.ref 6), some (.ref v1), some (.ref v2), some (.int v3), some (.int y4), none] [] T u → WP [] mX4_reckon 2 0 Q 19 [some (.ref 6), some (.ref v1), some (.ref v2), some (.int v3), some (.int v4), none] [] S u := by
  intro n
  induction n with
  | zero => intro v4 S y4 T h; rw [fX4_reckon_19] at h; cases h
  | succ n ih =>
    intro v4 S y4 T h k0
    rw [fX4_reckon_19] at h
    refine r_iload (x := v4) dX4_reckon_19 rfl ?_
    refine r_aload_n (x := v1) dX4_reckon_21 rfl ?_
    obtain ⟨g7, h⟩ := gd_e h
    refine r_getfield (o := v1) (v := .int (S.1 v1 4)) dX4_reckon_22 lX4_27 g7.1 g7.2 rfl ?_
    refine r_icmp_ge (tgt := 145) dX4_reckon_25 (by decide) (fun c8 => ?_) (fun c8 => ?_)
    · rw [if_pos c8] at h
      cases h
      exact k0
    · rw [if_neg c8] at h
      refine r_aload_n (x := v2) dX4_reckon_28 rfl ?_
      refine r_iload (x := v4) dX4_reckon_29 rfl ?_
      obtain ⟨g12, h⟩ := gd_e h
      obtain ⟨x9, S10, h11, h⟩ := bI_e h
      refine r_cVI (y := mX2_isPlugged) (As := [.int v4]) (rest := []) dX4_reckon_31 qX4_33 kX2_isPlugged rfl g12 vc2 rfl (okX2_isPlugged N v2 v4 S x9 S10 h11) (by decide) hu rfl (Nat.le_of_ble_eq_true rfl) ?_
      refine r_if_ne (tgt := 56) dX4_reckon_34 (by decide) (fun c13 => ?_) (fun c13 => ?_)
      · rw [if_neg c13] at h
        refine r_aload_n (x := 6) dX4_reckon_56 rfl ?_
        refine r_getfield (o := 6) (v := .ref 30) dX4_reckon_57 lX4_15 ck6 nC6 rfl ?_
        refine r_iload (x := v4) dX4_reckon_60 rfl ?_
        refine r_aload_n (x := v2) dX4_reckon_62 rfl ?_
        obtain ⟨g14, h⟩ := gd_e h
        refine r_getfield (o := v2) (v := .ref (sr v2 1)) dX4_reckon_63 lX4_42 g14.1 g14.2 rfl ?_
        refine r_iload (x := v4) dX4_reckon_66 rfl ?_
        obtain ⟨g15, h⟩ := gd_e h
        obtain ⟨g16, h⟩ := gd_e h
        refine r_iaload (a := (sr v2 1)) dX4_reckon_68 g15.1 g15.2 (inr_IX g16) ?_
        refine r_aload_n (x := 6) dX4_reckon_69 rfl ?_
        refine r_getfield (o := 6) (v := .ref 29) dX4_reckon_70 lX4_9 ck6 nC6 rfl ?_
        refine r_iload (x := v4) dX4_reckon_73 rfl ?_
        obtain ⟨g17, h⟩ := gd_e h
        refine r_iaload (a := 29) dX4_reckon_75 ck29 nC29 (inr_IX g17) ?_
        refine r_iadd dX4_reckon_76 ?_
        refine r_iconst (v := 1) dX4_reckon_77 rfl ?_
        refine r_aload_n (x := v2) dX4_reckon_78 rfl ?_
        obtain ⟨g18, h⟩ := gd_e h
        refine r_getfield (o := v2) (v := .ref (sr v2 0)) dX4_reckon_79 lX4_44 g18.1 g18.2 rfl ?_
        refine r_iload (x := v4) dX4_reckon_82 rfl ?_
        obtain ⟨g19, h⟩ := gd_e h
        obtain ⟨g20, h⟩ := gd_e h
        refine r_iaload (a := (sr v2 0)) dX4_reckon_84 g19.1 g19.2 (inr_IX g20) ?_
        refine r_mmax dX4_reckon_85 qX4_47 (by decide) hu (Nat.le_of_ble_eq_true rfl) ?_
        refine r_topi (fun x21 hx21 => ?_)
        replace h := lt_e hx21 h
        obtain ⟨g22, h⟩ := gd_e h
        refine r_idiv dX4_reckon_88 g22 ?_
        obtain ⟨g23, h⟩ := gd_e h
        refine r_iastore (a := 30) dX4_reckon_89 ck30 nC30 (inr_IX g23) ?_
        refine r_topS (fun S24 hS24 => ?_)
        replace h := lt_e hS24 h
        refine r_aload_n (x := v2) dX4_reckon_90 rfl ?_
        refine r_iload (x := v4) dX4_reckon_91 rfl ?_
        refine r_aload_n (x := 6) dX4_reckon_93 rfl ?_
        refine r_getfield (o := 6) (v := .ref 30) dX4_reckon_94 lX4_15 ck6 nC6 rfl ?_
        refine r_iload (x := v4) dX4_reckon_97 rfl ?_
        obtain ⟨g25, h⟩ := gd_e h
        refine r_iaload (a := 30) dX4_reckon_99 ck30 nC30 (inr_IX g25) ?_
        obtain ⟨g29, h⟩ := gd_e h
        obtain ⟨x26, S27, h28, h⟩ := bI_e h
        refine r_cVI (y := mX2_dropsIntoFirst) (As := [.int v4, .int (S24.1 30 (ix v4))]) (rest := []) dX4_reckon_100 qX4_53 kX2_dropsIntoFirst rfl g29 vc2 rfl (okX2_dropsIntoFirst N v2 v4 (S24.1 30 (ix v4)) S24 x26 S27 h28) (by decide) hu rfl (Nat.le_of_ble_eq_true rfl) ?_
        refine r_istore (L' := [some (.ref 6), some (.ref v1), some (.ref v2), some (.int v3), some (.int v4), some (.int x26)]) dX4_reckon_103 (Nat.le_of_ble_eq_true rfl) rfl rfl ?_
        refine r_aload_n (x := 6) dX4_reckon_105 rfl ?_
        refine r_aload_n (x := v2) dX4_reckon_106 rfl ?_
        obtain ⟨g30, h⟩ := gd_e h
        refine r_getfield (o := v2) (v := .ref (sr v2 2)) dX4_reckon_107 lX4_56 g30.1 g30.2 rfl ?_
        refine r_iload (x := v4) dX4_reckon_110 rfl ?_
        obtain ⟨g31, h⟩ := gd_e h
        obtain ⟨g32, h⟩ := gd_e h
        refine r_iaload (a := (sr v2 2)) dX4_reckon_112 g31.1 g31.2 (inr_IX g32) ?_
        refine r_iload (x := x26) dX4_reckon_113 rfl ?_
        obtain ⟨S34, h35, h⟩ := bV_e h
        refine r_cVV (y := mX4_give) (As := [.int (S27.1 (sr v2 2) (ix v4)), .int x26]) (rest := []) dX4_reckon_115 qX4_59 kX4_give rfl ob6 vc4 rfl (okX4_give N (S27.1 (sr v2 2) (ix v4)) x26 S27 S34 h35) (by decide) hu rfl (Nat.le_of_ble_eq_true rfl) ?_
        refine r_aload_n (x := 6) dX4_reckon_118 rfl ?_
        refine r_aload_n (x := v2) dX4_reckon_119 rfl ?_
        obtain ⟨g36, h⟩ := gd_e h
        refine r_getfield (o := v2) (v := .ref (sr v2 3)) dX4_reckon_120 lX4_63 g36.1 g36.2 rfl ?_
        refine r_iload (x := v4) dX4_reckon_123 rfl ?_
        obtain ⟨g37, h⟩ := gd_e h
        obtain ⟨g38, h⟩ := gd_e h
        refine r_iaload (a := (sr v2 3)) dX4_reckon_125 g37.1 g37.2 (inr_IX g38) ?_
        refine r_aload_n (x := 6) dX4_reckon_126 rfl ?_
        refine r_getfield (o := 6) (v := .ref 30) dX4_reckon_127 lX4_15 ck6 nC6 rfl ?_
        refine r_iload (x := v4) dX4_reckon_130 rfl ?_
        obtain ⟨g39, h⟩ := gd_e h
        refine r_iaload (a := 30) dX4_reckon_132 ck30 nC30 (inr_IX g39) ?_
        refine r_iload (x := x26) dX4_reckon_133 rfl ?_
        refine r_isub dX4_reckon_135 ?_
        obtain ⟨S41, h42, h⟩ := bV_e h
        refine r_cVV (y := mX4_give) (As := [.int (S34.1 (sr v2 3) (ix v4)), .int ((S34.1 30 (ix v4)) - x26)]) (rest := []) dX4_reckon_136 qX4_59 kX4_give rfl ob6 vc4 rfl (okX4_give N (S34.1 (sr v2 3) (ix v4)) ((S34.1 30 (ix v4)) - x26) S34 S41 h42) (by decide) hu rfl (Nat.le_of_ble_eq_true rfl) ?_
        obtain ⟨x43, hx43⟩ : ∃ y : Int32, y = (v4 + 1 : Int32) := ⟨_, rfl⟩
        replace h := lt_e hx43 h
        refine r_iinc (x := v4) (v := x43) (L' := [some (.ref 6), some (.ref v1), some (.ref v2), some (.int v3), some (.int x43), some (.int x26)]) dX4_reckon_139 rfl (by rw [hx43]; rfl) (Nat.le_of_ble_eq_true rfl) rfl rfl ?_
        refine r_goto (tgt := 19) dX4_reckon_142 (by decide) ?_
        refine r_drop [true, true, true, true, true, false] rfl ?_
        exact ih _ _ _ _ h k0
      · rw [if_pos c13] at h
        refine r_aload_n (x := 6) dX4_reckon_37 rfl ?_
        refine r_getfield (o := 6) (v := .ref 29) dX4_reckon_38 lX4_9 ck6 nC6 rfl ?_
        refine r_iload (x := v4) dX4_reckon_41 rfl ?_
        refine r_dup2 dX4_reckon_43 ?_
        obtain ⟨g44, h⟩ := gd_e h
        refine r_iaload (a := 29) dX4_reckon_44 ck29 nC29 (inr_IX g44) ?_
        refine r_aload_n (x := v1) dX4_reckon_45 rfl ?_
        obtain ⟨g45, h⟩ := gd_e h
        refine r_getfield (o := v1) (v := .ref (sr v1 0)) dX4_reckon_46 lX4_39 g45.1 g45.2 rfl ?_
        refine r_iload (x := v4) dX4_reckon_49 rfl ?_
        obtain ⟨g46, h⟩ := gd_e h
        obtain ⟨g47, h⟩ := gd_e h
        refine r_iaload (a := (sr v1 0)) dX4_reckon_51 g46.1 g46.2 (inr_IX g47) ?_
        refine r_iload_n (x := v3) dX4_reckon_52 rfl ?_
        refine r_imul dX4_reckon_53 ?_
        refine r_iadd dX4_reckon_54 ?_
        obtain ⟨g48, h⟩ := gd_e h
        refine r_iastore (a := 29) dX4_reckon_55 ck29 nC29 (inr_IX g48) ?_
        refine r_topS (fun S49 hS49 => ?_)
        replace h := lt_e hS49 h
        refine r_aload_n (x := 6) dX4_reckon_56 rfl ?_
        refine r_getfield (o := 6) (v := .ref 30) dX4_reckon_57 lX4_15 ck6 nC6 rfl ?_
        refine r_iload (x := v4) dX4_reckon_60 rfl ?_
        refine r_aload_n (x := v2) dX4_reckon_62 rfl ?_
        obtain ⟨g50, h⟩ := gd_e h
        refine r_getfield (o := v2) (v := .ref (sr v2 1)) dX4_reckon_63 lX4_42 g50.1 g50.2 rfl ?_
        refine r_iload (x := v4) dX4_reckon_66 rfl ?_
        obtain ⟨g51, h⟩ := gd_e h
        obtain ⟨g52, h⟩ := gd_e h
        refine r_iaload (a := (sr v2 1)) dX4_reckon_68 g51.1 g51.2 (inr_IX g52) ?_
        refine r_aload_n (x := 6) dX4_reckon_69 rfl ?_
        refine r_getfield (o := 6) (v := .ref 29) dX4_reckon_70 lX4_9 ck6 nC6 rfl ?_
        refine r_iload (x := v4) dX4_reckon_73 rfl ?_
        obtain ⟨g53, h⟩ := gd_e h
        refine r_iaload (a := 29) dX4_reckon_75 ck29 nC29 (inr_IX g53) ?_
        refine r_iadd dX4_reckon_76 ?_
        refine r_iconst (v := 1) dX4_reckon_77 rfl ?_
        refine r_aload_n (x := v2) dX4_reckon_78 rfl ?_
        obtain ⟨g54, h⟩ := gd_e h
        refine r_getfield (o := v2) (v := .ref (sr v2 0)) dX4_reckon_79 lX4_44 g54.1 g54.2 rfl ?_
        refine r_iload (x := v4) dX4_reckon_82 rfl ?_
        obtain ⟨g55, h⟩ := gd_e h
        obtain ⟨g56, h⟩ := gd_e h
        refine r_iaload (a := (sr v2 0)) dX4_reckon_84 g55.1 g55.2 (inr_IX g56) ?_
        refine r_mmax dX4_reckon_85 qX4_47 (by decide) hu (Nat.le_of_ble_eq_true rfl) ?_
        refine r_topi (fun x57 hx57 => ?_)
        replace h := lt_e hx57 h
        obtain ⟨g58, h⟩ := gd_e h
        refine r_idiv dX4_reckon_88 g58 ?_
        obtain ⟨g59, h⟩ := gd_e h
        refine r_iastore (a := 30) dX4_reckon_89 ck30 nC30 (inr_IX g59) ?_
        refine r_topS (fun S60 hS60 => ?_)
        replace h := lt_e hS60 h
        refine r_aload_n (x := v2) dX4_reckon_90 rfl ?_
        refine r_iload (x := v4) dX4_reckon_91 rfl ?_
        refine r_aload_n (x := 6) dX4_reckon_93 rfl ?_
        refine r_getfield (o := 6) (v := .ref 30) dX4_reckon_94 lX4_15 ck6 nC6 rfl ?_
        refine r_iload (x := v4) dX4_reckon_97 rfl ?_
        obtain ⟨g61, h⟩ := gd_e h
        refine r_iaload (a := 30) dX4_reckon_99 ck30 nC30 (inr_IX g61) ?_
        obtain ⟨g65, h⟩ := gd_e h
        obtain ⟨x62, S63, h64, h⟩ := bI_e h
        refine r_cVI (y := mX2_dropsIntoFirst) (As := [.int v4, .int (S60.1 30 (ix v4))]) (rest := []) dX4_reckon_100 qX4_53 kX2_dropsIntoFirst rfl g65 vc2 rfl (okX2_dropsIntoFirst N v2 v4 (S60.1 30 (ix v4)) S60 x62 S63 h64) (by decide) hu rfl (Nat.le_of_ble_eq_true rfl) ?_
        refine r_istore (L' := [some (.ref 6), some (.ref v1), some (.ref v2), some (.int v3), some (.int v4), some (.int x62)]) dX4_reckon_103 (Nat.le_of_ble_eq_true rfl) rfl rfl ?_
        refine r_aload_n (x := 6) dX4_reckon_105 rfl ?_
        refine r_aload_n (x := v2) dX4_reckon_106 rfl ?_
        obtain ⟨g66, h⟩ := gd_e h
        refine r_getfield (o := v2) (v := .ref (sr v2 2)) dX4_reckon_107 lX4_56 g66.1 g66.2 rfl ?_
        refine r_iload (x := v4) dX4_reckon_110 rfl ?_
        obtain ⟨g67, h⟩ := gd_e h
        obtain ⟨g68, h⟩ := gd_e h
        refine r_iaload (a := (sr v2 2)) dX4_reckon_112 g67.1 g67.2 (inr_IX g68) ?_
        refine r_iload (x := x62) dX4_reckon_113 rfl ?_
        obtain ⟨S70, h71, h⟩ := bV_e h
        refine r_cVV (y := mX4_give) (As := [.int (S63.1 (sr v2 2) (ix v4)), .int x62]) (rest := []) dX4_reckon_115 qX4_59 kX4_give rfl ob6 vc4 rfl (okX4_give N (S63.1 (sr v2 2) (ix v4)) x62 S63 S70 h71) (by decide) hu rfl (Nat.le_of_ble_eq_true rfl) ?_
        refine r_aload_n (x := 6) dX4_reckon_118 rfl ?_
        refine r_aload_n (x := v2) dX4_reckon_119 rfl ?_
        obtain ⟨g72, h⟩ := gd_e h
        refine r_getfield (o := v2) (v := .ref (sr v2 3)) dX4_reckon_120 lX4_63 g72.1 g72.2 rfl ?_
        refine r_iload (x := v4) dX4_reckon_123 rfl ?_
        obtain ⟨g73, h⟩ := gd_e h
        obtain ⟨g74, h⟩ := gd_e h
        refine r_iaload (a := (sr v2 3)) dX4_reckon_125 g73.1 g73.2 (inr_IX g74) ?_
        refine r_aload_n (x := 6) dX4_reckon_126 rfl ?_
        refine r_getfield (o := 6) (v := .ref 30) dX4_reckon_127 lX4_15 ck6 nC6 rfl ?_
        refine r_iload (x := v4) dX4_reckon_130 rfl ?_
        obtain ⟨g75, h⟩ := gd_e h
        refine r_iaload (a := 30) dX4_reckon_132 ck30 nC30 (inr_IX g75) ?_
        refine r_iload (x := x62) dX4_reckon_133 rfl ?_
        refine r_isub dX4_reckon_135 ?_
        obtain ⟨S77, h78, h⟩ := bV_e h
        refine r_cVV (y := mX4_give) (As := [.int (S70.1 (sr v2 3) (ix v4)), .int ((S70.1 30 (ix v4)) - x62)]) (rest := []) dX4_reckon_136 qX4_59 kX4_give rfl ob6 vc4 rfl (okX4_give N (S70.1 (sr v2 3) (ix v4)) ((S70.1 30 (ix v4)) - x62) S70 S77 h78) (by decide) hu rfl (Nat.le_of_ble_eq_true rfl) ?_
        obtain ⟨x79, hx79⟩ : ∃ y : Int32, y = (v4 + 1 : Int32) := ⟨_, rfl⟩
        replace h := lt_e hx79 h
        refine r_iinc (x := v4) (v := x79) (L' := [some (.ref 6), some (.ref v1), some (.ref v2), some (.int v3), some (.int x79), some (.int x62)]) dX4_reckon_139 rfl (by rw [hx79]; rfl) (Nat.le_of_ble_eq_true rfl) rfl rfl ?_
        refine r_goto (tgt := 19) dX4_reckon_142 (by decide) ?_
        refine r_drop [true, true, true, true, true, false] rfl ?_
        exact ih _ _ _ _ h k0
def fX4_reckon (N : Nat) (p0 : Nat) (p1 : Nat) (p2 : Int32) (S : PS) : Option PS :=
  bV (fJ7_fill_53178 N 29 0 S) fun S2 =>
  bV (fJ7_fill_53178 N 30 0 S2) fun S5 =>
  bT (fX4_reckon_19 N p0 p1 p2 N 0 S5) fun q80 =>
  lt (q80.1 : Int32) fun x81 =>
  lt (q80.2 : PS) fun S82 =>
  some S82
set_option maxHeartbeats 4000000 in
set_option maxRecDepth 100000 in
theorem okX4_reckon (N : Nat) (p0 : Nat) (p1 : Nat) (p2 : Int32) (S : PS) (T : PS) (h : fX4_reckon N p0 p1 p2 S = some T) : CT mX4_reckon 2 0 [.ref 6, .ref p0, .ref p1, .int p2] S (qV T) := by
  refine ct_of [some (.ref 6), some (.ref p0), some (.ref p1), some (.int p2), none, none] rfl (fun _ => rfl) (fun _ => Nat.le_of_ble_eq_true rfl) ?_
  unfold fX4_reckon at h
  refine r_aload_n (x := 6) dX4_reckon_0 rfl ?_
  refine r_getfield (o := 6) (v := .ref 29) dX4_reckon_1 lX4_9 ck6 nC6 rfl ?_
  refine r_iconst (v := 0) dX4_reckon_4 rfl ?_
  obtain ⟨S2, h3, h⟩ := bV_e h
  refine r_cSV (y := mJ7_fill_53178) (As := [.ref 29, .int 0]) (rest := []) dX4_reckon_5 qX4_21 kJ7_fill_53178 rfl (okJ7_fill_53178 N 29 0 S S2 h3) (by decide) (Nat.zero_le _) rfl (Nat.le_of_ble_eq_true rfl) ?_
  refine r_aload_n (x := 6) dX4_reckon_8 rfl ?_
  refine r_getfield (o := 6) (v := .ref 30) dX4_reckon_9 lX4_15 ck6 nC6 rfl ?_
  refine r_iconst (v := 0) dX4_reckon_12 rfl ?_
  obtain ⟨S5, h6, h⟩ := bV_e h
  refine r_cSV (y := mJ7_fill_53178) (As := [.ref 30, .int 0]) (rest := []) dX4_reckon_13 qX4_21 kJ7_fill_53178 rfl (okJ7_fill_53178 N 30 0 S2 S5 h6) (by decide) (Nat.zero_le _) rfl (Nat.le_of_ble_eq_true rfl) ?_
  refine r_iconst (v := 0) dX4_reckon_16 rfl ?_
  refine r_istore (L' := [some (.ref 6), some (.ref p0), some (.ref p1), some (.int p2), some (.int 0), none]) dX4_reckon_17 (Nat.le_of_ble_eq_true rfl) rfl rfl ?_
  obtain ⟨⟨x81, S82⟩, h84, h⟩ := bT_e h
  dsimp only at h
  replace h := pl_s (pl_s (h))
  refine okX4_reckon_19 N p0 p1 p2 (qV T) 0 (Nat.zero_le _) _ _ _ _ _ h84 ?_
  cases h
  exact r_return dX4_reckon_145 rfl (Nat.zero_le _) ⟨rfl, rfl⟩
def fX4_allTippedSince_2 (N : Nat) (v1 : Int32) : Nat → Int32 → PS → Option (Nat × Int32 × PS)
  | 0, _, _ => none
  | n + 1, v2, S =>
    (if 9 ≤ v2 then
      some (0, v2, S)
    else
      bI (fX11_has N v1 v2 S) fun x2 S3 =>
      (if x2 = 0 then
        lt (v2 + 1 : Int32) fun x6 =>
        fX4_allTippedSince_2 N v1 n x6 S3
      else
        gd (inr v2 9) <|
        gd (inr v2 9) <|
        (if (S3.1 30 (ix v2)) = (S3.1 31 (ix v2)) then
          some (1, v2, S3)
        else
          lt (v2 + 1 : Int32) fun x10 =>
          fX4_allTippedSince_2 N v1 n x10 S3)))
set_option maxHeartbeats 4000000 in
set_option maxRecDepth 100000 in
theorem okX4_allTippedSince_2 (N : Nat) (v1 : Int32) (Q : OQ) (u : Nat) (hu : u ≤ 0) : ∀ (n : Nat) (v2 : Int32) (S : PS) (tg : Nat) (y2 : Int32) (T : PS), fX4_allTippedSince_2 N v1 n v2 S = some (tg, y2, T) → (tg = 0 → WP [] mX4_allTippedSince 1 0 Q 39 [some (.ref 6), some (.int v1), some (.int y2)] [] T u) → (tg = 1 → WP [] mX4_allTippedSince 1 0 Q 31 [some (.ref 6), some (.int v1), some (.int y2)] [] T u) → WP [] mX4_allTippedSince 1 0 Q 2 [some (.ref 6), some (.int v1), some (.int v2)] [] S u := by
  intro n
  induction n with
  | zero => intro v2 S tg y2 T h; rw [fX4_allTippedSince_2] at h; cases h
  | succ n ih =>
    intro v2 S tg y2 T h k0 k1
    rw [fX4_allTippedSince_2] at h
    refine r_iload_n (x := v2) dX4_allTippedSince_2 rfl ?_
    refine r_bipush (v := 9) dX4_allTippedSince_3 rfl ?_
    refine r_icmp_ge (tgt := 39) dX4_allTippedSince_5 (by decide) (fun c1 => ?_) (fun c1 => ?_)
    · rw [if_pos c1] at h
      cases h
      exact k0 rfl
    · rw [if_neg c1] at h
      refine r_iload_n (x := v1) dX4_allTippedSince_8 rfl ?_
      refine r_iload_n (x := v2) dX4_allTippedSince_9 rfl ?_
      obtain ⟨x2, S3, h4, h⟩ := bI_e h
      refine r_cNI (y := mX11_has) (As := [.int v1, .int v2]) (rest := []) (host := "DripCups") dX4_allTippedSince_10 (by decide) kX11_has rfl (okX11_has N v1 v2 S x2 S3 h4) (by decide) hu rfl (Nat.le_of_ble_eq_true rfl) ?_
      refine r_if_eq (tgt := 33) dX4_allTippedSince_13 (by decide) (fun c5 => ?_) (fun c5 => ?_)
      · rw [if_pos c5] at h
        obtain ⟨x6, hx6⟩ : ∃ y : Int32, y = (v2 + 1 : Int32) := ⟨_, rfl⟩
        replace h := lt_e hx6 h
        refine r_iinc (x := v2) (v := x6) (L' := [some (.ref 6), some (.int v1), some (.int x6)]) dX4_allTippedSince_33 rfl (by rw [hx6]; rfl) (Nat.le_of_ble_eq_true rfl) rfl rfl ?_
        refine r_goto (tgt := 2) dX4_allTippedSince_36 (by decide) ?_
        exact ih _ _ _ _ _ h k0 k1
      · rw [if_neg c5] at h
        refine r_aload_n (x := 6) dX4_allTippedSince_16 rfl ?_
        refine r_getfield (o := 6) (v := .ref 30) dX4_allTippedSince_17 lX4_15 ck6 nC6 rfl ?_
        refine r_iload_n (x := v2) dX4_allTippedSince_20 rfl ?_
        obtain ⟨g7, h⟩ := gd_e h
        refine r_iaload (a := 30) dX4_allTippedSince_21 ck30 nC30 (inr_IX g7) ?_
        refine r_aload_n (x := 6) dX4_allTippedSince_22 rfl ?_
        refine r_getfield (o := 6) (v := .ref 31) dX4_allTippedSince_23 lX4_18 ck6 nC6 rfl ?_
        refine r_iload_n (x := v2) dX4_allTippedSince_26 rfl ?_
        obtain ⟨g8, h⟩ := gd_e h
        refine r_iaload (a := 31) dX4_allTippedSince_27 ck31 nC31 (inr_IX g8) ?_
        refine r_icmp_ne (tgt := 33) dX4_allTippedSince_28 (by decide) (fun c9 => ?_) (fun c9 => ?_)
        · rw [if_neg c9] at h
          obtain ⟨x10, hx10⟩ : ∃ y : Int32, y = (v2 + 1 : Int32) := ⟨_, rfl⟩
          replace h := lt_e hx10 h
          refine r_iinc (x := v2) (v := x10) (L' := [some (.ref 6), some (.int v1), some (.int x10)]) dX4_allTippedSince_33 rfl (by rw [hx10]; rfl) (Nat.le_of_ble_eq_true rfl) rfl rfl ?_
          refine r_goto (tgt := 2) dX4_allTippedSince_36 (by decide) ?_
          exact ih _ _ _ _ _ h k0 k1
        · rw [if_pos c9] at h
          cases h
          exact k1 rfl
def fX4_allTippedSince (N : Nat) (p0 : Int32) (S : PS) : Option (Int32 × PS) :=
  bT (fX4_allTippedSince_2 N p0 N 0 S) fun q11 =>
  lt (q11.1 : Nat) fun t14 =>
  lt (q11.2.1 : Int32) fun x12 =>
  lt (q11.2.2 : PS) fun S13 =>
  (if t14 = 0 then
    some (1, S13)
  else 
    some (0, S13))
set_option maxHeartbeats 4000000 in
set_option maxRecDepth 100000 in
theorem okX4_allTippedSince (N : Nat) (p0 : Int32) (S : PS) (r : Int32) (T : PS) (h : fX4_allTippedSince N p0 S = some (r, T)) : CT mX4_allTippedSince 1 0 [.ref 6, .int p0] S (qI r T) := by
  refine ct_of [some (.ref 6), some (.int p0), none] rfl (fun _ => rfl) (fun _ => Nat.le_of_ble_eq_true rfl) ?_
  unfold fX4_allTippedSince at h
  refine r_iconst (v := 0) dX4_allTippedSince_0 rfl ?_
  refine r_istore_n (L' := [some (.ref 6), some (.int p0), some (.int 0)]) dX4_allTippedSince_1 (Nat.le_of_ble_eq_true rfl) rfl rfl ?_
  obtain ⟨⟨t14, x12, S13⟩, h15, h⟩ := bT_e h
  dsimp only at h
  replace h := pl_s (pl_s (pl_s (h)))
  refine okX4_allTippedSince_2 N p0 (qI r T) 0 (Nat.zero_le _) _ _ _ _ _ _ h15 (fun et14 => ?_) (fun et14 => ?_)
  · rw [if_pos et14] at h
    refine r_iconst (v := 1) dX4_allTippedSince_39 rfl ?_
    cases h
    exact r_zreturn dX4_allTippedSince_40 rfl rfl (Nat.zero_le _) ⟨rfl, rfl⟩
  · rw [if_neg (by rw [et14]; decide)] at h
    refine r_iconst (v := 0) dX4_allTippedSince_31 rfl ?_
    cases h
    exact r_zreturn dX4_allTippedSince_32 rfl rfl (Nat.zero_le _) ⟨rfl, rfl⟩
def fX5_agrees_2 (N : Nat) (v0 : Nat) (v1 : Int32) (v2 : Int32) : Nat → Int32 → PS → Option (Nat × Int32 × PS)
  | 0, _, _ => none
  | n + 1, v3, S =>
    gd (obj v0 5) <|
    (if (S.1 v0 3) ≤ v3 then
      some (0, v3, S)
    else
      gd (obj v0 5) <|
      gd (arr (sr v0 1) 1 8) <|
      gd (inr v3 8) <|
      (if (S.1 (sr v0 1) (ix v3)) = v1 then
        gd (obj v0 5) <|
        gd (arr (sr v0 0) 1 8) <|
        gd (inr v3 8) <|
        bI (fX11_has N v2 (S.1 (sr v0 0) (ix v3)) S) fun x11 S12 =>
        gd (obj v0 5) <|
        bI (fX11_has N (S12.1 v0 2) v3 S12) fun x15 S16 =>
        (if x11 = x15 then
          lt (v3 + 1 : Int32) fun x19 =>
          fX5_agrees_2 N v0 v1 v2 n x19 S16
        else
          some (1, v3, S16))
      else
        lt (v3 + 1 : Int32) fun x7 =>
        fX5_agrees_2 N v0 v1 v2 n x7 S))
set_option maxHeartbeats 4000000 in
set_option maxRecDepth 100000 in
theorem okX5_agrees_2 (N : Nat) (v0 : Nat) (v1 : Int32) (v2 : Int32) (Q : OQ) (u : Nat) (hu : u ≤ 0) : ∀ (n : Nat) (v3 : Int32) (S : PS) (tg : Nat) (y3 : Int32) (T : PS), fX5_agrees_2 N v0 v1 v2 n v3 S = some (tg, y3, T) → (tg = 0 → WP [] mX5_agrees 1 0 Q 49 [some (.ref v0), some (.int v1), some (.int v2), some (.int y3)] [] T u) → (tg = 1 → WP [] mX5_agrees 1 0 Q 41 [some (.ref v0), some (.int v1), some (.int v2), some (.int y3)] [] T u) → WP [] mX5_agrees 1 0 Q 2 [some (.ref v0), some (.int v1), some (.int v2), some (.int v3)] [] S u := by
  intro n
  induction n with
  | zero => intro v3 S tg y3 T h; rw [fX5_agrees_2] at h; cases h
  | succ n ih =>
    intro v3 S tg y3 T h k0 k1
    rw [fX5_agrees_2] at h
    refine r_iload_n (x := v3) dX5_agrees_2 rfl ?_
    refine r_aload_n (x := v0) dX5_agrees_3 rfl ?_
    obtain ⟨g1, h⟩ := gd_e h
    refine r_getfield (o := v0) (v := .int (S.1 v0 3)) dX5_agrees_4 lX5_22 g1.1 g1.2 rfl ?_
    refine r_icmp_ge (tgt := 49) dX5_agrees_7 (by decide) (fun c2 => ?_) (fun c2 => ?_)
    · rw [if_pos c2] at h
      cases h
      exact k0 rfl
    · rw [if_neg c2] at h
      refine r_aload_n (x := v0) dX5_agrees_10 rfl ?_
      obtain ⟨g3, h⟩ := gd_e h
      refine r_getfield (o := v0) (v := .ref (sr v0 1)) dX5_agrees_11 lX5_15 g3.1 g3.2 rfl ?_
      refine r_iload_n (x := v3) dX5_agrees_14 rfl ?_
      obtain ⟨g4, h⟩ := gd_e h
      obtain ⟨g5, h⟩ := gd_e h
      refine r_iaload (a := (sr v0 1)) dX5_agrees_15 g4.1 g4.2 (inr_IX g5) ?_
      refine r_iload_n (x := v1) dX5_agrees_16 rfl ?_
      refine r_icmp_ne (tgt := 43) dX5_agrees_17 (by decide) (fun c6 => ?_) (fun c6 => ?_)
      · rw [if_neg c6] at h
        obtain ⟨x7, hx7⟩ : ∃ y : Int32, y = (v3 + 1 : Int32) := ⟨_, rfl⟩
        replace h := lt_e hx7 h
        refine r_iinc (x := v3) (v := x7) (L' := [some (.ref v0), some (.int v1), some (.int v2), some (.int x7)]) dX5_agrees_43 rfl (by rw [hx7]; rfl) (Nat.le_of_ble_eq_true rfl) rfl rfl ?_
        refine r_goto (tgt := 2) dX5_agrees_46 (by decide) ?_
        exact ih _ _ _ _ _ h k0 k1
      · rw [if_pos c6] at h
        refine r_iload_n (x := v2) dX5_agrees_20 rfl ?_
        refine r_aload_n (x := v0) dX5_agrees_21 rfl ?_
        obtain ⟨g8, h⟩ := gd_e h
        refine r_getfield (o := v0) (v := .ref (sr v0 0)) dX5_agrees_22 lX5_9 g8.1 g8.2 rfl ?_
        refine r_iload_n (x := v3) dX5_agrees_25 rfl ?_
        obtain ⟨g9, h⟩ := gd_e h
        obtain ⟨g10, h⟩ := gd_e h
        refine r_iaload (a := (sr v0 0)) dX5_agrees_26 g9.1 g9.2 (inr_IX g10) ?_
        obtain ⟨x11, S12, h13, h⟩ := bI_e h
        refine r_cNI (y := mX11_has) (As := [.int v2, .int (S.1 (sr v0 0) (ix v3))]) (rest := []) (host := "DripCups") dX5_agrees_27 (by decide) kX11_has rfl (okX11_has N v2 (S.1 (sr v0 0) (ix v3)) S x11 S12 h13) (by decide) hu rfl (Nat.le_of_ble_eq_true rfl) ?_
        refine r_aload_n (x := v0) dX5_agrees_30 rfl ?_
        obtain ⟨g14, h⟩ := gd_e h
        refine r_getfield (o := v0) (v := .int (S12.1 v0 2)) dX5_agrees_31 lX5_18 g14.1 g14.2 rfl ?_
        refine r_iload_n (x := v3) dX5_agrees_34 rfl ?_
        obtain ⟨x15, S16, h17, h⟩ := bI_e h
        refine r_cNI (y := mX11_has) (As := [.int (S12.1 v0 2), .int v3]) (rest := [.int x11]) (host := "DripCups") dX5_agrees_35 (by decide) kX11_has rfl (okX11_has N (S12.1 v0 2) v3 S12 x15 S16 h17) (by decide) hu rfl (Nat.le_of_ble_eq_true rfl) ?_
        refine r_icmp_eq (tgt := 43) dX5_agrees_38 (by decide) (fun c18 => ?_) (fun c18 => ?_)
        · rw [if_pos c18] at h
          obtain ⟨x19, hx19⟩ : ∃ y : Int32, y = (v3 + 1 : Int32) := ⟨_, rfl⟩
          replace h := lt_e hx19 h
          refine r_iinc (x := v3) (v := x19) (L' := [some (.ref v0), some (.int v1), some (.int v2), some (.int x19)]) dX5_agrees_43 rfl (by rw [hx19]; rfl) (Nat.le_of_ble_eq_true rfl) rfl rfl ?_
          refine r_goto (tgt := 2) dX5_agrees_46 (by decide) ?_
          exact ih _ _ _ _ _ h k0 k1
        · rw [if_neg c18] at h
          cases h
          exact k1 rfl
def fX5_agrees (N : Nat) (p : Nat) (p0 : Int32) (p1 : Int32) (S : PS) : Option (Int32 × PS) :=
  bT (fX5_agrees_2 N p p0 p1 N 0 S) fun q20 =>
  lt (q20.1 : Nat) fun t23 =>
  lt (q20.2.1 : Int32) fun x21 =>
  lt (q20.2.2 : PS) fun S22 =>
  (if t23 = 0 then
    some (1, S22)
  else 
    some (0, S22))
set_option maxHeartbeats 4000000 in
set_option maxRecDepth 100000 in
theorem okX5_agrees (N : Nat) (p : Nat) (p0 : Int32) (p1 : Int32) (S : PS) (r : Int32) (T : PS) (h : fX5_agrees N p p0 p1 S = some (r, T)) : CT mX5_agrees 1 0 [.ref p, .int p0, .int p1] S (qI r T) := by
  refine ct_of [some (.ref p), some (.int p0), some (.int p1), none] rfl (fun _ => rfl) (fun _ => Nat.le_of_ble_eq_true rfl) ?_
  unfold fX5_agrees at h
  refine r_iconst (v := 0) dX5_agrees_0 rfl ?_
  refine r_istore_n (L' := [some (.ref p), some (.int p0), some (.int p1), some (.int 0)]) dX5_agrees_1 (Nat.le_of_ble_eq_true rfl) rfl rfl ?_
  obtain ⟨⟨t23, x21, S22⟩, h24, h⟩ := bT_e h
  dsimp only at h
  replace h := pl_s (pl_s (pl_s (h)))
  refine okX5_agrees_2 N p p0 p1 (qI r T) 0 (Nat.zero_le _) _ _ _ _ _ _ h24 (fun et23 => ?_) (fun et23 => ?_)
  · rw [if_pos et23] at h
    refine r_iconst (v := 1) dX5_agrees_49 rfl ?_
    cases h
    exact r_zreturn dX5_agrees_50 rfl rfl (Nat.zero_le _) ⟨rfl, rfl⟩
  · rw [if_neg (by rw [et23]; decide)] at h
    refine r_iconst (v := 0) dX5_agrees_41 rfl ?_
    cases h
    exact r_zreturn dX5_agrees_42 rfl rfl (Nat.zero_le _) ⟨rfl, rfl⟩
def fX7_lookAtCup (N : Nat)  (S : PS) : Option (Int32 × PS) :=
  (if (S.1 2 5) = 2 then
    bI (fX10_isTooLong N  S) fun x2 S3 =>
    (if x2 = 0 then
      lt ((S3.2.2 1 1) : Nat) fun o6 =>
      gd (obj o6 1) <|
      (if (S3.1 o6 4) ≤ (S3.1 2 6) then
        bI (fX7_fail N 3 S3) fun x9 S10 =>
        some (x9, S10)
      else
        some ((S3.1 2 6), S3))
    else
      bI (fX7_fail N 2 S3) fun x12 S13 =>
      some (x12, S13))
  else
    bI (fX7_fail N 1 S) fun x15 S16 =>
    some (x15, S16))
set_option maxHeartbeats 4000000 in
set_option maxRecDepth 100000 in
theorem okX7_lookAtCup (N : Nat)  (S : PS) (r : Int32) (T : PS) (h : fX7_lookAtCup N  S = some (r, T)) : CT mX7_lookAtCup 1 0 [.ref 1] S (qI r T) := by
  refine ct_of [some (.ref 1)] rfl (fun _ => rfl) (fun _ => Nat.le_of_ble_eq_true rfl) ?_
  unfold fX7_lookAtCup at h
  refine r_aload_n (x := 1) dX7_lookAtCup_0 rfl ?_
  refine r_getfield (o := 1) (v := .ref 2) dX7_lookAtCup_1 lX7_12 ck1 nC1 rfl ?_
  refine r_getfield (o := 2) (v := .int (S.1 2 5)) dX7_lookAtCup_4 lX7_46 ck2 nC2 rfl ?_
  refine r_iconst (v := 2) dX7_lookAtCup_7 rfl ?_
  refine r_icmp_eq (tgt := 17) dX7_lookAtCup_8 (by decide) (fun c1 => ?_) (fun c1 => ?_)
  · rw [if_pos c1] at h
    refine r_aload_n (x := 1) dX7_lookAtCup_17 rfl ?_
    refine r_getfield (o := 1) (v := .ref 2) dX7_lookAtCup_18 lX7_12 ck1 nC1 rfl ?_
    obtain ⟨x2, S3, h4, h⟩ := bI_e h
    refine r_cVI (y := mX10_isTooLong) (As := []) (rest := []) dX7_lookAtCup_21 qX7_104 kX10_isTooLong rfl ob2 vc10 rfl (okX10_isTooLong N  S x2 S3 h4) (by decide) (Nat.zero_le _) rfl (Nat.le_of_ble_eq_true rfl) ?_
    refine r_if_eq (tgt := 33) dX7_lookAtCup_24 (by decide) (fun c5 => ?_) (fun c5 => ?_)
    · rw [if_pos c5] at h
      refine r_aload_n (x := 1) dX7_lookAtCup_33 rfl ?_
      refine r_getfield (o := 1) (v := .ref 2) dX7_lookAtCup_34 lX7_12 ck1 nC1 rfl ?_
      refine r_getfield (o := 2) (v := .int (S3.1 2 6)) dX7_lookAtCup_37 lX7_101 ck2 nC2 rfl ?_
      refine r_aload_n (x := 1) dX7_lookAtCup_40 rfl ?_
      refine r_getfield (o := 1) (v := .ref (S3.2.2 1 1)) dX7_lookAtCup_41 lX7_21 ck1 nC1 rfl ?_
      refine r_topr (fun o6 ho6 => ?_)
      replace h := lt_e ho6 h
      obtain ⟨g7, h⟩ := gd_e h
      refine r_getfield (o := o6) (v := .int (S3.1 o6 4)) dX7_lookAtCup_44 lX7_86 g7.1 g7.2 rfl ?_
      refine r_icmp_ge (tgt := 60) dX7_lookAtCup_47 (by decide) (fun c8 => ?_) (fun c8 => ?_)
      · rw [if_pos c8] at h
        refine r_aload_n (x := 1) dX7_lookAtCup_60 rfl ?_
        refine r_iconst (v := 3) dX7_lookAtCup_61 rfl ?_
        obtain ⟨x9, S10, h11, h⟩ := bI_e h
        refine r_cVI (y := mX7_fail) (As := [.int 3]) (rest := []) dX7_lookAtCup_62 qX7_72 kX7_fail rfl ob1 vc7 rfl (okX7_fail N 3 S3 x9 S10 h11) (by decide) (Nat.zero_le _) rfl (Nat.le_of_ble_eq_true rfl) ?_
        cases h
        exact r_ireturn dX7_lookAtCup_65 rfl (Nat.zero_le _) ⟨rfl, rfl⟩
      · rw [if_neg c8] at h
        refine r_aload_n (x := 1) dX7_lookAtCup_50 rfl ?_
        refine r_getfield (o := 1) (v := .ref 2) dX7_lookAtCup_51 lX7_12 ck1 nC1 rfl ?_
        refine r_getfield (o := 2) (v := .int (S3.1 2 6)) dX7_lookAtCup_54 lX7_101 ck2 nC2 rfl ?_
        refine r_goto (tgt := 65) dX7_lookAtCup_57 (by decide) ?_
        cases h
        exact r_ireturn dX7_lookAtCup_65 rfl (Nat.zero_le _) ⟨rfl, rfl⟩
    · rw [if_neg c5] at h
      refine r_aload_n (x := 1) dX7_lookAtCup_27 rfl ?_
      refine r_iconst (v := 2) dX7_lookAtCup_28 rfl ?_
      obtain ⟨x12, S13, h14, h⟩ := bI_e h
      refine r_cVI (y := mX7_fail) (As := [.int 2]) (rest := []) dX7_lookAtCup_29 qX7_72 kX7_fail rfl ob1 vc7 rfl (okX7_fail N 2 S3 x12 S13 h14) (by decide) (Nat.zero_le _) rfl (Nat.le_of_ble_eq_true rfl) ?_
      cases h
      exact r_ireturn dX7_lookAtCup_32 rfl (Nat.zero_le _) ⟨rfl, rfl⟩
  · rw [if_neg c1] at h
    refine r_aload_n (x := 1) dX7_lookAtCup_11 rfl ?_
    refine r_iconst (v := 1) dX7_lookAtCup_12 rfl ?_
    obtain ⟨x15, S16, h17, h⟩ := bI_e h
    refine r_cVI (y := mX7_fail) (As := [.int 1]) (rest := []) dX7_lookAtCup_13 qX7_72 kX7_fail rfl ob1 vc7 rfl (okX7_fail N 1 S x15 S16 h17) (by decide) (Nat.zero_le _) rfl (Nat.le_of_ble_eq_true rfl) ?_
    cases h
    exact r_ireturn dX7_lookAtCup_16 rfl (Nat.zero_le _) ⟨rfl, rfl⟩
def fX7_valueSign (N : Nat)  (S : PS) : Option (Int32 × PS) :=
  bI (fX10_isWord N 4 S) fun x1 S2 =>
  (if x1 = 0 then
    bI (fX10_isWord N 5 S2) fun x5 S6 =>
    (if x5 = 0 then
      bI (fX10_isWord N 6 S6) fun x9 S10 =>
      (if x9 = 0 then
        bI (fX10_isWord N 7 S10) fun x13 S14 =>
        (if x13 = 0 then
          bI (fX10_isWord N 0 S14) fun x17 S18 =>
          (if x17 = 0 then
            bI (fX10_isWord N 8 S18) fun x21 S22 =>
            lt ((if x21 = 0 then 0 else (-6)) : Int32) fun x25 =>
            some (x25, S22)
          else
            some ((-5), S18))
        else
          some ((-4), S14))
      else
        some ((-3), S10))
    else
      some ((-2), S6))
  else
    some ((-1), S2))
set_option maxHeartbeats 4000000 in
set_option maxRecDepth 100000 in
theorem okX7_valueSign (N : Nat)  (S : PS) (r : Int32) (T : PS) (h : fX7_valueSign N  S = some (r, T)) : CT mX7_valueSign 5 0 [.ref 1] S (qI r T) := by
  refine ct_of [some (.ref 1)] rfl (fun _ => rfl) (fun _ => Nat.le_of_ble_eq_true rfl) ?_
  unfold fX7_valueSign at h
  refine r_aload_n (x := 1) dX7_valueSign_0 rfl ?_
  refine r_getfield (o := 1) (v := .ref 2) dX7_valueSign_1 lX7_12 ck1 nC1 rfl ?_
  refine r_ldcS (n := 1001 + 4) (tx := "fill") dX7_valueSign_4 (by decide) ?_
  obtain ⟨x1, S2, h3, h⟩ := bI_e h
  refine r_cVI (y := mX10_isWord) (As := [.ref (1001 + 4)]) (rest := []) dX7_valueSign_6 qX7_51 kX10_isWord rfl ob2 vc10 rfl (okX10_isWord N 4 S x1 S2 h3) (by decide) (Nat.zero_le _) rfl (Nat.le_of_ble_eq_true rfl) ?_
  refine r_if_eq (tgt := 14) dX7_valueSign_9 (by decide) (fun c4 => ?_) (fun c4 => ?_)
  · rw [if_pos c4] at h
    refine r_aload_n (x := 1) dX7_valueSign_14 rfl ?_
    refine r_getfield (o := 1) (v := .ref 2) dX7_valueSign_15 lX7_12 ck1 nC1 rfl ?_
    refine r_ldcS (n := 1001 + 5) (tx := "holds") dX7_valueSign_18 (by decide) ?_
    obtain ⟨x5, S6, h7, h⟩ := bI_e h
    refine r_cVI (y := mX10_isWord) (As := [.ref (1001 + 5)]) (rest := []) dX7_valueSign_20 qX7_51 kX10_isWord rfl ob2 vc10 rfl (okX10_isWord N 5 S2 x5 S6 h7) (by decide) (Nat.zero_le _) rfl (Nat.le_of_ble_eq_true rfl) ?_
    refine r_if_eq (tgt := 29) dX7_valueSign_23 (by decide) (fun c8 => ?_) (fun c8 => ?_)
    · rw [if_pos c8] at h
      refine r_aload_n (x := 1) dX7_valueSign_29 rfl ?_
      refine r_getfield (o := 1) (v := .ref 2) dX7_valueSign_30 lX7_12 ck1 nC1 rfl ?_
      refine r_ldcS (n := 1001 + 6) (tx := "spring") dX7_valueSign_33 (by decide) ?_
      obtain ⟨x9, S10, h11, h⟩ := bI_e h
      refine r_cVI (y := mX10_isWord) (As := [.ref (1001 + 6)]) (rest := []) dX7_valueSign_35 qX7_51 kX10_isWord rfl ob2 vc10 rfl (okX10_isWord N 6 S6 x9 S10 h11) (by decide) (Nat.zero_le _) rfl (Nat.le_of_ble_eq_true rfl) ?_
      refine r_if_eq (tgt := 44) dX7_valueSign_38 (by decide) (fun c12 => ?_) (fun c12 => ?_)
      · rw [if_pos c12] at h
        refine r_aload_n (x := 1) dX7_valueSign_44 rfl ?_
        refine r_getfield (o := 1) (v := .ref 2) dX7_valueSign_45 lX7_12 ck1 nC1 rfl ?_
        refine r_ldcS (n := 1001 + 7) (tx := "tips") dX7_valueSign_48 (by decide) ?_
        obtain ⟨x13, S14, h15, h⟩ := bI_e h
        refine r_cVI (y := mX10_isWord) (As := [.ref (1001 + 7)]) (rest := []) dX7_valueSign_50 qX7_51 kX10_isWord rfl ob2 vc10 rfl (okX10_isWord N 7 S10 x13 S14 h15) (by decide) (Nat.zero_le _) rfl (Nat.le_of_ble_eq_true rfl) ?_
        refine r_if_eq (tgt := 59) dX7_valueSign_53 (by decide) (fun c16 => ?_) (fun c16 => ?_)
        · rw [if_pos c16] at h
          refine r_aload_n (x := 1) dX7_valueSign_59 rfl ?_
          refine r_getfield (o := 1) (v := .ref 2) dX7_valueSign_60 lX7_12 ck1 nC1 rfl ?_
          refine r_ldcS (n := 1001 + 0) (tx := "cup") dX7_valueSign_63 (by decide) ?_
          obtain ⟨x17, S18, h19, h⟩ := bI_e h
          refine r_cVI (y := mX10_isWord) (As := [.ref (1001 + 0)]) (rest := []) dX7_valueSign_65 qX7_51 kX10_isWord rfl ob2 vc10 rfl (okX10_isWord N 0 S14 x17 S18 h19) (by decide) (Nat.zero_le _) rfl (Nat.le_of_ble_eq_true rfl) ?_
          refine r_if_eq (tgt := 74) dX7_valueSign_68 (by decide) (fun c20 => ?_) (fun c20 => ?_)
          · rw [if_pos c20] at h
            refine r_aload_n (x := 1) dX7_valueSign_74 rfl ?_
            refine r_getfield (o := 1) (v := .ref 2) dX7_valueSign_75 lX7_12 ck1 nC1 rfl ?_
            refine r_ldcS (n := 1001 + 8) (tx := "hour") dX7_valueSign_78 (by decide) ?_
            obtain ⟨x21, S22, h23, h⟩ := bI_e h
            refine r_cVI (y := mX10_isWord) (As := [.ref (1001 + 8)]) (rest := []) dX7_valueSign_80 qX7_51 kX10_isWord rfl ob2 vc10 rfl (okX10_isWord N 8 S18 x21 S22 h23) (by decide) (Nat.zero_le _) rfl (Nat.le_of_ble_eq_true rfl) ?_
            obtain ⟨x25, hx25⟩ : ∃ y : Int32, y = ((if x21 = 0 then 0 else (-6)) : Int32) := ⟨_, rfl⟩
            replace h := lt_e hx25 h
            have keyx25 : WP [] mX7_valueSign 5 0 (qI r T) 92 [some (.ref 1)] (.int x25 :: []) S22 0 := by
              cases h
              exact r_ireturn dX7_valueSign_92 rfl (Nat.zero_le _) ⟨rfl, rfl⟩
            refine r_if_eq (tgt := 91) dX7_valueSign_83 (by decide) (fun c24 => ?_) (fun c24 => ?_)
            · refine r_iconst (v := 0) dX7_valueSign_91 rfl ?_
              exact r_tope (by rw [hx25, if_pos c24]) keyx25
            · refine r_bipush (v := (-6)) dX7_valueSign_86 rfl ?_
              refine r_goto (tgt := 92) dX7_valueSign_88 (by decide) ?_
              exact r_tope (by rw [hx25, if_neg c24]) keyx25
          · rw [if_neg c20] at h
            refine r_bipush (v := (-5)) dX7_valueSign_71 rfl ?_
            cases h
            exact r_ireturn dX7_valueSign_73 rfl (Nat.zero_le _) ⟨rfl, rfl⟩
        · rw [if_neg c16] at h
          refine r_bipush (v := (-4)) dX7_valueSign_56 rfl ?_
          cases h
          exact r_ireturn dX7_valueSign_58 rfl (Nat.zero_le _) ⟨rfl, rfl⟩
      · rw [if_neg c12] at h
        refine r_bipush (v := (-3)) dX7_valueSign_41 rfl ?_
        cases h
        exact r_ireturn dX7_valueSign_43 rfl (Nat.zero_le _) ⟨rfl, rfl⟩
    · rw [if_neg c8] at h
      refine r_bipush (v := (-2)) dX7_valueSign_26 rfl ?_
      cases h
      exact r_ireturn dX7_valueSign_28 rfl (Nat.zero_le _) ⟨rfl, rfl⟩
  · rw [if_neg c4] at h
    refine r_iconst (v := (-1)) dX7_valueSign_12 rfl ?_
    cases h
    exact r_ireturn dX7_valueSign_13 rfl (Nat.zero_le _) ⟨rfl, rfl⟩
def fX8_value_13 (N : Nat) (v0 : Nat) (v1 : Nat) (v2 : Int32) (v3 : Int32) : Nat → Int32 → Int32 → PS → Option (Int32 × Int32 × PS)
  | 0, _, _, _ => none
  | n + 1, v4, v5, S =>
    gd (obj v0 8) <|
    (if (S.1 v0 2) ≤ v5 then
      some (v4, v5, S)
    else
      gd (obj v0 8) <|
      gd (arr (sr v0 0) 1 700) <|
      gd (inr v5 700) <|
      lt ((S.1 (sr v0 0) (ix v5)) : Int32) fun x9 =>
      (if x9 ≤ (-7) then
        (if x9 = (-7) then
          (if v4 ≤ 0 then
            lt (v5 + 1 : Int32) fun x30 =>
            fX8_value_13 N v0 v1 v2 v3 n v4 x30 S
          else
            gd (obj v0 8) <|
            gd (obj v0 8) <|
            gd (arr (sr v0 1) 1 40) <|
            gd (inr (v4 - 1) 40) <|
            lt ((if (S.1 (sr v0 1) (ix (v4 - 1))) = 0 then 1 else 0) : Int32) fun x36 =>
            gd (arr (sr v0 1) 1 40) <|
            gd (inr (v4 - 1) 40) <|
            lt ((u2 S.1 (sr v0 1) (ix (v4 - 1)) x36, S.2) : PS) fun S39 =>
            lt (v5 + 1 : Int32) fun x40 =>
            fX8_value_13 N v0 v1 v2 v3 n v4 x40 S39)
        else
          (if v4 ≤ 1 then
            lt (v5 + 1 : Int32) fun x13 =>
            fX8_value_13 N v0 v1 v2 v3 n v4 x13 S
          else
            lt (v4 + (-1) : Int32) fun x14 =>
            gd (obj v0 8) <|
            gd (obj v0 8) <|
            gd (arr (sr v0 1) 1 40) <|
            gd (inr (x14 - 1) 40) <|
            gd (obj v0 8) <|
            gd (arr (sr v0 1) 1 40) <|
            gd (inr x14 40) <|
            bI (fX8_joined N x9 (S.1 (sr v0 1) (ix (x14 - 1))) (S.1 (sr v0 1) (ix x14)) S) fun x22 S23 =>
            gd (arr (sr v0 1) 1 40) <|
            gd (inr (x14 - 1) 40) <|
            lt ((u2 S23.1 (sr v0 1) (ix (x14 - 1)) x22, S23.2) : PS) fun S27 =>
            lt (v5 + 1 : Int32) fun x28 =>
            fX8_value_13 N v0 v1 v2 v3 n x14 x28 S27))
      else
        gd (obj v0 8) <|
        gd (arr (sr v0 1) 1 40) <|
        (if 40 ≤ v4 then
          lt (v5 + 1 : Int32) fun x44 =>
          fX8_value_13 N v0 v1 v2 v3 n v4 x44 S
        else
          gd (obj v0 8) <|
          (if x9 < 0 then
            bI (fX8_valueOf N x9 v1 v2 v3 S) fun x47 S48 =>
            gd (arr (sr v0 1) 1 40) <|
            gd (inr v4 40) <|
            lt ((u2 S48.1 (sr v0 1) (ix v4) x47, S48.2) : PS) fun S52 =>
            lt (v4 + 1 : Int32) fun x53 =>
            lt (v5 + 1 : Int32) fun x54 =>
            fX8_value_13 N v0 v1 v2 v3 n x53 x54 S52
          else
            gd (arr (sr v0 1) 1 40) <|
            gd (inr v4 40) <|
            lt ((u2 S.1 (sr v0 1) (ix v4) x9, S.2) : PS) fun S57 =>
            lt (v4 + 1 : Int32) fun x58 =>
            lt (v5 + 1 : Int32) fun x59 =>
            fX8_value_13 N v0 v1 v2 v3 n x58 x59 S57))))
set_option maxHeartbeats 4000000 in
set_option maxRecDepth 100000 in
theorem okX8_value_13 (N : Nat) (v0 : Nat) (v1 : Nat) (v2 : Int32) (v3 : Int32) (Q : OQ) (u : Nat) (hu : u ≤ 0) : ∀ (n : Nat) (v4 : Int32) (v5 : Int32) (S : PS) (y4 : Int32) (y5 : Int32) (T : PS), fX8_value_13 N v0 v1 v2 v3 n v4 v5 S = some (y4, y5, T) → WP [] mX8_value 1 0 Q 165 [some (.ref v0), some (.ref v1), some (.int v2), some (.int v3), some (.int y4), some (.int y5), none] [] T u → WP [] mX8_value 1 0 Q 13 [some (.ref v0), some (.ref v1), some (.int v2), some (.int v3), some (.int v4), some (.int v5), none] [] S u := by
  intro n
  induction n with
  | zero => intro v4 v5 S y4 y5 T h; rw [fX8_value_13] at h; cases h
  | succ n ih =>
    intro v4 v5 S y4 y5 T h k0
    rw [fX8_value_13] at h
    refine r_iload (x := v5) dX8_value_13 rfl ?_
    refine r_aload_n (x := v0) dX8_value_15 rfl ?_
    obtain ⟨g4, h⟩ := gd_e h
    refine r_getfield (o := v0) (v := .int (S.1 v0 2)) dX8_value_16 lX8_18 g4.1 g4.2 rfl ?_
    refine r_icmp_ge (tgt := 165) dX8_value_19 (by decide) (fun c5 => ?_) (fun c5 => ?_)
    · rw [if_pos c5] at h
      cases h
      exact k0
    · rw [if_neg c5] at h
      refine r_aload_n (x := v0) dX8_value_22 rfl ?_
      obtain ⟨g6, h⟩ := gd_e h
      refine r_getfield (o := v0) (v := .ref (sr v0 0)) dX8_value_23 lX8_9 g6.1 g6.2 rfl ?_
      refine r_iload (x := v5) dX8_value_26 rfl ?_
      obtain ⟨g7, h⟩ := gd_e h
      obtain ⟨g8, h⟩ := gd_e h
      refine r_iaload (a := (sr v0 0)) dX8_value_28 g7.1 g7.2 (inr_IX g8) ?_
      refine r_topi (fun x9 hx9 => ?_)
      replace h := lt_e hx9 h
      refine r_istore (L' := [some (.ref v0), some (.ref v1), some (.int v2), some (.int v3), some (.int v4), some (.int v5), some (.int x9)]) dX8_value_29 (Nat.le_of_ble_eq_true rfl) rfl rfl ?_
      refine r_iload (x := x9) dX8_value_31 rfl ?_
      refine r_bipush (v := (-7)) dX8_value_33 rfl ?_
      refine r_icmp_le (tgt := 79) dX8_value_35 (by decide) (fun c10 => ?_) (fun c10 => ?_)
      · rw [if_pos c10] at h
        refine r_iload (x := x9) dX8_value_79 rfl ?_
        refine r_bipush (v := (-7)) dX8_value_81 rfl ?_
        refine r_icmp_ne (tgt := 120) dX8_value_83 (by decide) (fun c11 => ?_) (fun c11 => ?_)
        · rw [if_neg c11] at h
          refine r_iload (x := v4) dX8_value_120 rfl ?_
          refine r_iconst (v := 1) dX8_value_122 rfl ?_
          refine r_icmp_le (tgt := 159) dX8_value_123 (by decide) (fun c12 => ?_) (fun c12 => ?_)
          · rw [if_pos c12] at h
            obtain ⟨x13, hx13⟩ : ∃ y : Int32, y = (v5 + 1 : Int32) := ⟨_, rfl⟩
            replace h := lt_e hx13 h
            refine r_iinc (x := v5) (v := x13) (L' := [some (.ref v0), some (.ref v1), some (.int v2), some (.int v3), some (.int v4), some (.int x13), some (.int x9)]) dX8_value_159 rfl (by rw [hx13]; rfl) (Nat.le_of_ble_eq_true rfl) rfl rfl ?_
            refine r_goto (tgt := 13) dX8_value_162 (by decide) ?_
            refine r_drop [true, true, true, true, true, true, false] rfl ?_
            exact ih _ _ _ _ _ _ h k0
          · rw [if_neg c12] at h
            obtain ⟨x14, hx14⟩ : ∃ y : Int32, y = (v4 + (-1) : Int32) := ⟨_, rfl⟩
            replace h := lt_e hx14 h
            refine r_iinc (x := v4) (v := x14) (L' := [some (.ref v0), some (.ref v1), some (.int v2), some (.int v3), some (.int x14), some (.int v5), some (.int x9)]) dX8_value_126 rfl (by rw [hx14]; rfl) (Nat.le_of_ble_eq_true rfl) rfl rfl ?_
            refine r_aload_n (x := v0) dX8_value_129 rfl ?_
            obtain ⟨g15, h⟩ := gd_e h
            refine r_getfield (o := v0) (v := .ref (sr v0 1)) dX8_value_130 lX8_15 g15.1 g15.2 rfl ?_
            refine r_iload (x := x14) dX8_value_133 rfl ?_
            refine r_iconst (v := 1) dX8_value_135 rfl ?_
            refine r_isub dX8_value_136 ?_
            refine r_iload (x := x9) dX8_value_137 rfl ?_
            refine r_aload_n (x := v0) dX8_value_139 rfl ?_
            obtain ⟨g16, h⟩ := gd_e h
            refine r_getfield (o := v0) (v := .ref (sr v0 1)) dX8_value_140 lX8_15 g16.1 g16.2 rfl ?_
            refine r_iload (x := x14) dX8_value_143 rfl ?_
            refine r_iconst (v := 1) dX8_value_145 rfl ?_
            refine r_isub dX8_value_146 ?_
            obtain ⟨g17, h⟩ := gd_e h
            obtain ⟨g18, h⟩ := gd_e h
            refine r_iaload (a := (sr v0 1)) dX8_value_147 g17.1 g17.2 (inr_IX g18) ?_
            refine r_aload_n (x := v0) dX8_value_148 rfl ?_
            obtain ⟨g19, h⟩ := gd_e h
            refine r_getfield (o := v0) (v := .ref (sr v0 1)) dX8_value_149 lX8_15 g19.1 g19.2 rfl ?_
            refine r_iload (x := x14) dX8_value_152 rfl ?_
            obtain ⟨g20, h⟩ := gd_e h
            obtain ⟨g21, h⟩ := gd_e h
            refine r_iaload (a := (sr v0 1)) dX8_value_154 g20.1 g20.2 (inr_IX g21) ?_
            obtain ⟨x22, S23, h24, h⟩ := bI_e h
            refine r_cSI (y := mX8_joined) (As := [.int x9, .int (S.1 (sr v0 1) (ix (x14 - 1))), .int (S.1 (sr v0 1) (ix x14))]) (rest := [.int (x14 - 1), .ref (sr v0 1)]) dX8_value_155 qX8_30 kX8_joined rfl (okX8_joined N x9 (S.1 (sr v0 1) (ix (x14 - 1))) (S.1 (sr v0 1) (ix x14)) S x22 S23 h24) (by decide) hu rfl (Nat.le_of_ble_eq_true rfl) ?_
            obtain ⟨g25, h⟩ := gd_e h
            obtain ⟨g26, h⟩ := gd_e h
            refine r_iastore (a := (sr v0 1)) dX8_value_158 g25.1 g25.2 (inr_IX g26) ?_
            refine r_topS (fun S27 hS27 => ?_)
            replace h := lt_e hS27 h
            obtain ⟨x28, hx28⟩ : ∃ y : Int32, y = (v5 + 1 : Int32) := ⟨_, rfl⟩
            replace h := lt_e hx28 h
            refine r_iinc (x := v5) (v := x28) (L' := [some (.ref v0), some (.ref v1), some (.int v2), some (.int v3), some (.int x14), some (.int x28), some (.int x9)]) dX8_value_159 rfl (by rw [hx28]; rfl) (Nat.le_of_ble_eq_true rfl) rfl rfl ?_
            refine r_goto (tgt := 13) dX8_value_162 (by decide) ?_
            refine r_drop [true, true, true, true, true, true, false] rfl ?_
            exact ih _ _ _ _ _ _ h k0
        · rw [if_pos c11] at h
          refine r_iload (x := v4) dX8_value_86 rfl ?_
          refine r_if_le (tgt := 159) dX8_value_88 (by decide) (fun c29 => ?_) (fun c29 => ?_)
          · rw [if_pos c29] at h
            obtain ⟨x30, hx30⟩ : ∃ y : Int32, y = (v5 + 1 : Int32) := ⟨_, rfl⟩
            replace h := lt_e hx30 h
            refine r_iinc (x := v5) (v := x30) (L' := [some (.ref v0), some (.ref v1), some (.int v2), some (.int v3), some (.int v4), some (.int x30), some (.int x9)]) dX8_value_159 rfl (by rw [hx30]; rfl) (Nat.le_of_ble_eq_true rfl) rfl rfl ?_
            refine r_goto (tgt := 13) dX8_value_162 (by decide) ?_
            refine r_drop [true, true, true, true, true, true, false] rfl ?_
            exact ih _ _ _ _ _ _ h k0
          · rw [if_neg c29] at h
            refine r_aload_n (x := v0) dX8_value_91 rfl ?_
            obtain ⟨g31, h⟩ := gd_e h
            refine r_getfield (o := v0) (v := .ref (sr v0 1)) dX8_value_92 lX8_15 g31.1 g31.2 rfl ?_
            refine r_iload (x := v4) dX8_value_95 rfl ?_
            refine r_iconst (v := 1) dX8_value_97 rfl ?_
            refine r_isub dX8_value_98 ?_
            refine r_aload_n (x := v0) dX8_value_99 rfl ?_
            obtain ⟨g32, h⟩ := gd_e h
            refine r_getfield (o := v0) (v := .ref (sr v0 1)) dX8_value_100 lX8_15 g32.1 g32.2 rfl ?_
            refine r_iload (x := v4) dX8_value_103 rfl ?_
            refine r_iconst (v := 1) dX8_value_105 rfl ?_
            refine r_isub dX8_value_106 ?_
            obtain ⟨g33, h⟩ := gd_e h
            obtain ⟨g34, h⟩ := gd_e h
            refine r_iaload (a := (sr v0 1)) dX8_value_107 g33.1 g33.2 (inr_IX g34) ?_
            obtain ⟨x36, hx36⟩ : ∃ y : Int32, y = ((if (S.1 (sr v0 1) (ix (v4 - 1))) = 0 then 1 else 0) : Int32) := ⟨_, rfl⟩
            replace h := lt_e hx36 h
            have keyx36 : WP [] mX8_value 1 0 Q 116 [some (.ref v0), some (.ref v1), some (.int v2), some (.int v3), some (.int v4), some (.int v5), some (.int x9)] (.int x36 :: [.int (v4 - 1), .ref (sr v0 1)]) S u := by
              obtain ⟨g37, h⟩ := gd_e h
              obtain ⟨g38, h⟩ := gd_e h
              refine r_iastore (a := (sr v0 1)) dX8_value_116 g37.1 g37.2 (inr_IX g38) ?_
              refine r_topS (fun S39 hS39 => ?_)
              replace h := lt_e hS39 h
              refine r_goto (tgt := 159) dX8_value_117 (by decide) ?_
              obtain ⟨x40, hx40⟩ : ∃ y : Int32, y = (v5 + 1 : Int32) := ⟨_, rfl⟩
              replace h := lt_e hx40 h
              refine r_iinc (x := v5) (v := x40) (L' := [some (.ref v0), some (.ref v1), some (.int v2), some (.int v3), some (.int v4), some (.int x40), some (.int x9)]) dX8_value_159 rfl (by rw [hx40]; rfl) (Nat.le_of_ble_eq_true rfl) rfl rfl ?_
              refine r_goto (tgt := 13) dX8_value_162 (by decide) ?_
              refine r_drop [true, true, true, true, true, true, false] rfl ?_
              exact ih _ _ _ _ _ _ h k0
            refine r_if_ne (tgt := 115) dX8_value_108 (by decide) (fun c35 => ?_) (fun c35 => ?_)
            · refine r_iconst (v := 0) dX8_value_115 rfl ?_
              exact r_tope (by rw [hx36, if_neg c35]) keyx36
            · refine r_iconst (v := 1) dX8_value_111 rfl ?_
              refine r_goto (tgt := 116) dX8_value_112 (by decide) ?_
              exact r_tope (by rw [hx36, if_pos c35]) keyx36
      · rw [if_neg c10] at h
        refine r_iload (x := v4) dX8_value_38 rfl ?_
        refine r_aload_n (x := v0) dX8_value_40 rfl ?_
        obtain ⟨g41, h⟩ := gd_e h
        refine r_getfield (o := v0) (v := .ref (sr v0 1)) dX8_value_41 lX8_15 g41.1 g41.2 rfl ?_
        obtain ⟨g42, h⟩ := gd_e h
        refine r_alen (v := 40) dX8_value_44 g42.1 (by decide) g42.2 rfl ?_
        refine r_icmp_ge (tgt := 159) dX8_value_45 (by decide) (fun c43 => ?_) (fun c43 => ?_)
        · rw [if_pos c43] at h
          obtain ⟨x44, hx44⟩ : ∃ y : Int32, y = (v5 + 1 : Int32) := ⟨_, rfl⟩
          replace h := lt_e hx44 h
          refine r_iinc (x := v5) (v := x44) (L' := [some (.ref v0), some (.ref v1), some (.int v2), some (.int v3), some (.int v4), some (.int x44), some (.int x9)]) dX8_value_159 rfl (by rw [hx44]; rfl) (Nat.le_of_ble_eq_true rfl) rfl rfl ?_
          refine r_goto (tgt := 13) dX8_value_162 (by decide) ?_
          refine r_drop [true, true, true, true, true, true, false] rfl ?_
          exact ih _ _ _ _ _ _ h k0
        · rw [if_neg c43] at h
          refine r_aload_n (x := v0) dX8_value_48 rfl ?_
          obtain ⟨g45, h⟩ := gd_e h
          refine r_getfield (o := v0) (v := .ref (sr v0 1)) dX8_value_49 lX8_15 g45.1 g45.2 rfl ?_
          refine r_iload (x := v4) dX8_value_52 rfl ?_
          refine r_iload (x := x9) dX8_value_54 rfl ?_
          refine r_if_lt (tgt := 64) dX8_value_56 (by decide) (fun c46 => ?_) (fun c46 => ?_)
          · rw [if_pos c46] at h
            refine r_iload (x := x9) dX8_value_64 rfl ?_
            refine r_aload_n (x := v1) dX8_value_66 rfl ?_
            refine r_iload_n (x := v2) dX8_value_67 rfl ?_
            refine r_iload_n (x := v3) dX8_value_68 rfl ?_
            obtain ⟨x47, S48, h49, h⟩ := bI_e h
            refine r_cSI (y := mX8_valueOf) (As := [.int x9, .ref v1, .int v2, .int v3]) (rest := [.int v4, .ref (sr v0 1)]) dX8_value_69 qX8_26 kX8_valueOf rfl (okX8_valueOf N x9 v1 v2 v3 S x47 S48 h49) (by decide) hu rfl (Nat.le_of_ble_eq_true rfl) ?_
            obtain ⟨g50, h⟩ := gd_e h
            obtain ⟨g51, h⟩ := gd_e h
            refine r_iastore (a := (sr v0 1)) dX8_value_72 g50.1 g50.2 (inr_IX g51) ?_
            refine r_topS (fun S52 hS52 => ?_)
            replace h := lt_e hS52 h
            obtain ⟨x53, hx53⟩ : ∃ y : Int32, y = (v4 + 1 : Int32) := ⟨_, rfl⟩
            replace h := lt_e hx53 h
            refine r_iinc (x := v4) (v := x53) (L' := [some (.ref v0), some (.ref v1), some (.int v2), some (.int v3), some (.int x53), some (.int v5), some (.int x9)]) dX8_value_73 rfl (by rw [hx53]; rfl) (Nat.le_of_ble_eq_true rfl) rfl rfl ?_
            refine r_goto (tgt := 159) dX8_value_76 (by decide) ?_
            obtain ⟨x54, hx54⟩ : ∃ y : Int32, y = (v5 + 1 : Int32) := ⟨_, rfl⟩
            replace h := lt_e hx54 h
            refine r_iinc (x := v5) (v := x54) (L' := [some (.ref v0), some (.ref v1), some (.int v2), some (.int v3), some (.int x53), some (.int x54), some (.int x9)]) dX8_value_159 rfl (by rw [hx54]; rfl) (Nat.le_of_ble_eq_true rfl) rfl rfl ?_
            refine r_goto (tgt := 13) dX8_value_162 (by decide) ?_
            refine r_drop [true, true, true, true, true, true, false] rfl ?_
            exact ih _ _ _ _ _ _ h k0
          · rw [if_neg c46] at h
            refine r_iload (x := x9) dX8_value_59 rfl ?_
            refine r_goto (tgt := 72) dX8_value_61 (by decide) ?_
            obtain ⟨g55, h⟩ := gd_e h
            obtain ⟨g56, h⟩ := gd_e h
            refine r_iastore (a := (sr v0 1)) dX8_value_72 g55.1 g55.2 (inr_IX g56) ?_
            refine r_topS (fun S57 hS57 => ?_)
            replace h := lt_e hS57 h
            obtain ⟨x58, hx58⟩ : ∃ y : Int32, y = (v4 + 1 : Int32) := ⟨_, rfl⟩
            replace h := lt_e hx58 h
            refine r_iinc (x := v4) (v := x58) (L' := [some (.ref v0), some (.ref v1), some (.int v2), some (.int v3), some (.int x58), some (.int v5), some (.int x9)]) dX8_value_73 rfl (by rw [hx58]; rfl) (Nat.le_of_ble_eq_true rfl) rfl rfl ?_
            refine r_goto (tgt := 159) dX8_value_76 (by decide) ?_
            obtain ⟨x59, hx59⟩ : ∃ y : Int32, y = (v5 + 1 : Int32) := ⟨_, rfl⟩
            replace h := lt_e hx59 h
            refine r_iinc (x := v5) (v := x59) (L' := [some (.ref v0), some (.ref v1), some (.int v2), some (.int v3), some (.int x58), some (.int x59), some (.int x9)]) dX8_value_159 rfl (by rw [hx59]; rfl) (Nat.le_of_ble_eq_true rfl) rfl rfl ?_
            refine r_goto (tgt := 13) dX8_value_162 (by decide) ?_
            refine r_drop [true, true, true, true, true, true, false] rfl ?_
            exact ih _ _ _ _ _ _ h k0
def fX8_value (N : Nat) (p : Nat) (p0 : Nat) (p1 : Int32) (p2 : Int32) (S : PS) : Option (Int32 × PS) :=
  gd (obj p 8) <|
  gd (arr (sr p 1) 1 40) <|
  lt ((u2 S.1 (sr p 1) 0 0, S.2) : PS) fun S3 =>
  bT (fX8_value_13 N p p0 p1 p2 N 0 0 S3) fun q60 =>
  lt (q60.1 : Int32) fun x61 =>
  lt (q60.2.1 : Int32) fun x62 =>
  lt (q60.2.2 : PS) fun S63 =>
  gd (obj p 8) <|
  gd (arr (sr p 1) 1 40) <|
  some ((S63.1 (sr p 1) 0), S63)
set_option maxHeartbeats 4000000 in
set_option maxRecDepth 100000 in
theorem okX8_value (N : Nat) (p : Nat) (p0 : Nat) (p1 : Int32) (p2 : Int32) (S : PS) (r : Int32) (T : PS) (h : fX8_value N p p0 p1 p2 S = some (r, T)) : CT mX8_value 1 0 [.ref p, .ref p0, .int p1, .int p2] S (qI r T) := by
  refine ct_of [some (.ref p), some (.ref p0), some (.int p1), some (.int p2), none, none, none] rfl (fun _ => rfl) (fun _ => Nat.le_of_ble_eq_true rfl) ?_
  unfold fX8_value at h
  refine r_iconst (v := 0) dX8_value_0 rfl ?_
  refine r_istore (L' := [some (.ref p), some (.ref p0), some (.int p1), some (.int p2), some (.int 0), none, none]) dX8_value_1 (Nat.le_of_ble_eq_true rfl) rfl rfl ?_
  refine r_aload_n (x := p) dX8_value_3 rfl ?_
  obtain ⟨g1, h⟩ := gd_e h
  refine r_getfield (o := p) (v := .ref (sr p 1)) dX8_value_4 lX8_15 g1.1 g1.2 rfl ?_
  refine r_iconst (v := 0) dX8_value_7 rfl ?_
  refine r_iconst (v := 0) dX8_value_8 rfl ?_
  obtain ⟨g2, h⟩ := gd_e h
  refine r_iastore (a := (sr p 1)) (k9 := 0) dX8_value_9 g2.1 g2.2 ⟨by decide, by decide⟩ ?_
  refine r_topS (fun S3 hS3 => ?_)
  replace h := lt_e hS3 h
  refine r_iconst (v := 0) dX8_value_10 rfl ?_
  refine r_istore (L' := [some (.ref p), some (.ref p0), some (.int p1), some (.int p2), some (.int 0), some (.int 0), none]) dX8_value_11 (Nat.le_of_ble_eq_true rfl) rfl rfl ?_
  obtain ⟨⟨x61, x62, S63⟩, h65, h⟩ := bT_e h
  dsimp only at h
  replace h := pl_s (pl_s (pl_s (h)))
  refine okX8_value_13 N p p0 p1 p2 (qI r T) 0 (Nat.zero_le _) _ _ _ _ _ _ _ h65 ?_
  refine r_aload_n (x := p) dX8_value_165 rfl ?_
  obtain ⟨g66, h⟩ := gd_e h
  refine r_getfield (o := p) (v := .ref (sr p 1)) dX8_value_166 lX8_15 g66.1 g66.2 rfl ?_
  refine r_iconst (v := 0) dX8_value_169 rfl ?_
  obtain ⟨g67, h⟩ := gd_e h
  refine r_iaload (a := (sr p 1)) (k9 := 0) dX8_value_170 g67.1 g67.2 ⟨by decide, by decide⟩ ?_
  cases h
  exact r_ireturn dX8_value_171 rfl (Nat.zero_le _) ⟨rfl, rfl⟩
def fX9_keepFound (N : Nat) (p0 : Int32) (p1 : Int32) (S : PS) : Option PS :=
  (if (S.1 7 2) = 0 then
    lt ((if p1 = (-1) then 9 else p1) : Int32) fun x7 =>
    lt ((u2 S.1 7 3 ((p0 * 10) + x7), S.2) : PS) fun S8 =>
    lt ((u2 S8.1 7 2 ((S8.1 7 2) + 1), S8.2) : PS) fun S9 =>
    bV (fX9_keepSets N  S9) fun S11 =>
    some S11
  else
    lt ((u2 S.1 7 2 ((S.1 7 2) + 1), S.2) : PS) fun S2 =>
    bV (fX9_keepSets N  S2) fun S4 =>
    some S4)
set_option maxHeartbeats 4000000 in
set_option maxRecDepth 100000 in
theorem okX9_keepFound (N : Nat) (p0 : Int32) (p1 : Int32) (S : PS) (T : PS) (h : fX9_keepFound N p0 p1 S = some T) : CT mX9_keepFound 1 0 [.ref 7, .int p0, .int p1] S (qV T) := by
  refine ct_of [some (.ref 7), some (.int p0), some (.int p1)] rfl (fun _ => rfl) (fun _ => Nat.le_of_ble_eq_true rfl) ?_
  unfold fX9_keepFound at h
  refine r_aload_n (x := 7) dX9_keepFound_0 rfl ?_
  refine r_getfield (o := 7) (v := .int (S.1 7 2)) dX9_keepFound_1 lX9_19 ck7 nC7 rfl ?_
  refine r_if_ne (tgt := 27) dX9_keepFound_4 (by decide) (fun c1 => ?_) (fun c1 => ?_)
  · rw [if_neg c1] at h
    refine r_aload_n (x := 7) dX9_keepFound_27 rfl ?_
    refine r_dup_ref dX9_keepFound_28 ?_
    refine r_getfield (o := 7) (v := .int (S.1 7 2)) dX9_keepFound_29 lX9_19 ck7 nC7 rfl ?_
    refine r_iconst (v := 1) dX9_keepFound_32 rfl ?_
    refine r_iadd dX9_keepFound_33 ?_
    refine r_putI dX9_keepFound_34 lX9_19 ck7 nC7 ?_
    refine r_topS (fun S2 hS2 => ?_)
    replace h := lt_e hS2 h
    refine r_aload_n (x := 7) dX9_keepFound_37 rfl ?_
    obtain ⟨S4, h5, h⟩ := bV_e h
    refine r_cVV (y := mX9_keepSets) (As := []) (rest := []) dX9_keepFound_38 qX9_74 kX9_keepSets rfl ob7 vc9 rfl (okX9_keepSets N  S2 S4 h5) (by decide) (Nat.zero_le _) rfl (Nat.le_of_ble_eq_true rfl) ?_
    cases h
    exact r_return dX9_keepFound_41 rfl (Nat.zero_le _) ⟨rfl, rfl⟩
  · rw [if_pos c1] at h
    refine r_aload_n (x := 7) dX9_keepFound_7 rfl ?_
    refine r_iload_n (x := p0) dX9_keepFound_8 rfl ?_
    refine r_bipush (v := 10) dX9_keepFound_9 rfl ?_
    refine r_imul dX9_keepFound_11 ?_
    refine r_iload_n (x := p1) dX9_keepFound_12 rfl ?_
    refine r_iconst (v := (-1)) dX9_keepFound_13 rfl ?_
    obtain ⟨x7, hx7⟩ : ∃ y : Int32, y = ((if p1 = (-1) then 9 else p1) : Int32) := ⟨_, rfl⟩
    replace h := lt_e hx7 h
    have keyx7 : WP [] mX9_keepFound 1 0 (qV T) 23 [some (.ref 7), some (.int p0), some (.int p1)] (.int x7 :: [.int (p0 * 10), .ref 7]) S 0 := by
      refine r_iadd dX9_keepFound_23 ?_
      refine r_putI dX9_keepFound_24 lX9_23 ck7 nC7 ?_
      refine r_topS (fun S8 hS8 => ?_)
      replace h := lt_e hS8 h
      refine r_aload_n (x := 7) dX9_keepFound_27 rfl ?_
      refine r_dup_ref dX9_keepFound_28 ?_
      refine r_getfield (o := 7) (v := .int (S8.1 7 2)) dX9_keepFound_29 lX9_19 ck7 nC7 rfl ?_
      refine r_iconst (v := 1) dX9_keepFound_32 rfl ?_
      refine r_iadd dX9_keepFound_33 ?_
      refine r_putI dX9_keepFound_34 lX9_19 ck7 nC7 ?_
      refine r_topS (fun S9 hS9 => ?_)
      replace h := lt_e hS9 h
      refine r_aload_n (x := 7) dX9_keepFound_37 rfl ?_
      obtain ⟨S11, h12, h⟩ := bV_e h
      refine r_cVV (y := mX9_keepSets) (As := []) (rest := []) dX9_keepFound_38 qX9_74 kX9_keepSets rfl ob7 vc9 rfl (okX9_keepSets N  S9 S11 h12) (by decide) (Nat.zero_le _) rfl (Nat.le_of_ble_eq_true rfl) ?_
      cases h
      exact r_return dX9_keepFound_41 rfl (Nat.zero_le _) ⟨rfl, rfl⟩
    refine r_icmp_ne (tgt := 22) dX9_keepFound_14 (by decide) (fun c6 => ?_) (fun c6 => ?_)
    · refine r_iload_n (x := p1) dX9_keepFound_22 rfl ?_
      exact r_tope (by rw [hx7, if_neg c6]) keyx7
    · refine r_bipush (v := 9) dX9_keepFound_17 rfl ?_
      refine r_goto (tgt := 23) dX9_keepFound_19 (by decide) ?_
      exact r_tope (by rw [hx7, if_pos c6]) keyx7
def fX9_unlikeIn_4 (N : Nat) (v1 : Int32) : Nat → Int32 → Int32 → PS → Option (Int32 × Int32 × PS)
  | 0, _, _, _ => none
  | n + 1, v2, v3, S =>
    (if 8 ≤ v3 then
      some (v2, v3, S)
    else
      lt ((((v1 - 1) * 8) + v3) : Int32) fun x2 =>
      (if x2 < 0 then
        lt (v3 + 1 : Int32) fun x4 =>
        fX9_unlikeIn_4 N v1 n v2 x4 S
      else
        (if 320 ≤ x2 then
          lt (v3 + 1 : Int32) fun x6 =>
          fX9_unlikeIn_4 N v1 n v2 x6 S
        else
          gd (inr x2 320) <|
          bI (fJ13_bitCount_95d88 N (S.2.1 33 (ix x2)) S) fun x8 S9 =>
          lt ((v2 + x8) : Int32) fun x11 =>
          lt (v3 + 1 : Int32) fun x12 =>
          fX9_unlikeIn_4 N v1 n x11 x12 S9)))
set_option maxHeartbeats 4000000 in
set_option maxRecDepth 100000 in
theorem okX9_unlikeIn_4 (N : Nat) (v1 : Int32) (Q : OQ) (u : Nat) (hu : u ≤ 0) : ∀ (n : Nat) (v2 : Int32) (v3 : Int32) (S : PS) (y2 : Int32) (y3 : Int32) (T : PS), fX9_unlikeIn_4 N v1 n v2 v3 S = some (y2, y3, T) → WP [] mX9_unlikeIn 1 0 Q 54 [some (.ref 7), some (.int v1), some (.int y2), some (.int y3), none] [] T u → WP [] mX9_unlikeIn 1 0 Q 4 [some (.ref 7), some (.int v1), some (.int v2), some (.int v3), none] [] S u := by
  intro n
  induction n with
  | zero => intro v2 v3 S y2 y3 T h; rw [fX9_unlikeIn_4] at h; cases h
  | succ n ih =>
    intro v2 v3 S y2 y3 T h k0
    rw [fX9_unlikeIn_4] at h
    refine r_iload_n (x := v3) dX9_unlikeIn_4 rfl ?_
    refine r_bipush (v := 8) dX9_unlikeIn_5 rfl ?_
    refine r_icmp_ge (tgt := 54) dX9_unlikeIn_7 (by decide) (fun c1 => ?_) (fun c1 => ?_)
    · rw [if_pos c1] at h
      cases h
      exact k0
    · rw [if_neg c1] at h
      refine r_iload_n (x := v1) dX9_unlikeIn_10 rfl ?_
      refine r_iconst (v := 1) dX9_unlikeIn_11 rfl ?_
      refine r_isub dX9_unlikeIn_12 ?_
      refine r_bipush (v := 8) dX9_unlikeIn_13 rfl ?_
      refine r_imul dX9_unlikeIn_15 ?_
      refine r_iload_n (x := v3) dX9_unlikeIn_16 rfl ?_
      refine r_iadd dX9_unlikeIn_17 ?_
      refine r_topi (fun x2 hx2 => ?_)
      replace h := lt_e hx2 h
      refine r_istore (L' := [some (.ref 7), some (.int v1), some (.int v2), some (.int v3), some (.int x2)]) dX9_unlikeIn_18 (Nat.le_of_ble_eq_true rfl) rfl rfl ?_
      refine r_iload (x := x2) dX9_unlikeIn_20 rfl ?_
      refine r_if_lt (tgt := 48) dX9_unlikeIn_22 (by decide) (fun c3 => ?_) (fun c3 => ?_)
      · rw [if_pos c3] at h
        obtain ⟨x4, hx4⟩ : ∃ y : Int32, y = (v3 + 1 : Int32) := ⟨_, rfl⟩
        replace h := lt_e hx4 h
        refine r_iinc (x := v3) (v := x4) (L' := [some (.ref 7), some (.int v1), some (.int v2), some (.int x4), some (.int x2)]) dX9_unlikeIn_48 rfl (by rw [hx4]; rfl) (Nat.le_of_ble_eq_true rfl) rfl rfl ?_
        refine r_goto (tgt := 4) dX9_unlikeIn_51 (by decide) ?_
        refine r_drop [true, true, true, true, false] rfl ?_
        exact ih _ _ _ _ _ _ h k0
      · rw [if_neg c3] at h
        refine r_iload (x := x2) dX9_unlikeIn_25 rfl ?_
        refine r_aload_n (x := 7) dX9_unlikeIn_27 rfl ?_
        refine r_getfield (o := 7) (v := .ref 33) dX9_unlikeIn_28 lX9_15 ck7 nC7 rfl ?_
        refine r_alen (v := 320) dX9_unlikeIn_31 ck33 (by decide) nC33 rfl ?_
        refine r_icmp_ge (tgt := 48) dX9_unlikeIn_32 (by decide) (fun c5 => ?_) (fun c5 => ?_)
        · rw [if_pos c5] at h
          obtain ⟨x6, hx6⟩ : ∃ y : Int32, y = (v3 + 1 : Int32) := ⟨_, rfl⟩
          replace h := lt_e hx6 h
          refine r_iinc (x := v3) (v := x6) (L' := [some (.ref 7), some (.int v1), some (.int v2), some (.int x6), some (.int x2)]) dX9_unlikeIn_48 rfl (by rw [hx6]; rfl) (Nat.le_of_ble_eq_true rfl) rfl rfl ?_
          refine r_goto (tgt := 4) dX9_unlikeIn_51 (by decide) ?_
          refine r_drop [true, true, true, true, false] rfl ?_
          exact ih _ _ _ _ _ _ h k0
        · rw [if_neg c5] at h
          refine r_iload_n (x := v2) dX9_unlikeIn_35 rfl ?_
          refine r_aload_n (x := 7) dX9_unlikeIn_36 rfl ?_
          refine r_getfield (o := 7) (v := .ref 33) dX9_unlikeIn_37 lX9_15 ck7 nC7 rfl ?_
          refine r_iload (x := x2) dX9_unlikeIn_40 rfl ?_
          obtain ⟨g7, h⟩ := gd_e h
          refine r_laload (a := 33) dX9_unlikeIn_42 ck33 nC33 (inr_IX g7) ?_
          obtain ⟨x8, S9, h10, h⟩ := bI_e h
          refine r_cSI (y := mJ13_bitCount_95d88) (As := [.long (S.2.1 33 (ix x2))]) (rest := [.int v2]) dX9_unlikeIn_43 qX9_88 kJ13_bitCount_95d88 rfl (okJ13_bitCount_95d88 N (S.2.1 33 (ix x2)) S x8 S9 h10) (by decide) hu rfl (Nat.le_of_ble_eq_true rfl) ?_
          refine r_iadd dX9_unlikeIn_46 ?_
          refine r_topi (fun x11 hx11 => ?_)
          replace h := lt_e hx11 h
          refine r_istore_n (L' := [some (.ref 7), some (.int v1), some (.int x11), some (.int v3), some (.int x2)]) dX9_unlikeIn_47 (Nat.le_of_ble_eq_true rfl) rfl rfl ?_
          obtain ⟨x12, hx12⟩ : ∃ y : Int32, y = (v3 + 1 : Int32) := ⟨_, rfl⟩
          replace h := lt_e hx12 h
          refine r_iinc (x := v3) (v := x12) (L' := [some (.ref 7), some (.int v1), some (.int x11), some (.int x12), some (.int x2)]) dX9_unlikeIn_48 rfl (by rw [hx12]; rfl) (Nat.le_of_ble_eq_true rfl) rfl rfl ?_
          refine r_goto (tgt := 4) dX9_unlikeIn_51 (by decide) ?_
          refine r_drop [true, true, true, true, false] rfl ?_
          exact ih _ _ _ _ _ _ h k0
def fX9_unlikeIn (N : Nat) (p0 : Int32) (S : PS) : Option (Int32 × PS) :=
  bT (fX9_unlikeIn_4 N p0 N 0 0 S) fun q13 =>
  lt (q13.1 : Int32) fun x14 =>
  lt (q13.2.1 : Int32) fun x15 =>
  lt (q13.2.2 : PS) fun S16 =>
  some (x14, S16)
set_option maxHeartbeats 4000000 in
set_option maxRecDepth 100000 in
theorem okX9_unlikeIn (N : Nat) (p0 : Int32) (S : PS) (r : Int32) (T : PS) (h : fX9_unlikeIn N p0 S = some (r, T)) : CT mX9_unlikeIn 1 0 [.ref 7, .int p0] S (qI r T) := by
  refine ct_of [some (.ref 7), some (.int p0), none, none, none] rfl (fun _ => rfl) (fun _ => Nat.le_of_ble_eq_true rfl) ?_
  unfold fX9_unlikeIn at h
  refine r_iconst (v := 0) dX9_unlikeIn_0 rfl ?_
  refine r_istore_n (L' := [some (.ref 7), some (.int p0), some (.int 0), none, none]) dX9_unlikeIn_1 (Nat.le_of_ble_eq_true rfl) rfl rfl ?_
  refine r_iconst (v := 0) dX9_unlikeIn_2 rfl ?_
  refine r_istore_n (L' := [some (.ref 7), some (.int p0), some (.int 0), some (.int 0), none]) dX9_unlikeIn_3 (Nat.le_of_ble_eq_true rfl) rfl rfl ?_
  obtain ⟨⟨x14, x15, S16⟩, h18, h⟩ := bT_e h
  dsimp only at h
  replace h := pl_s (pl_s (pl_s (h)))
  refine okX9_unlikeIn_4 N p0 (qI r T) 0 (Nat.zero_le _) _ _ _ _ _ _ _ h18 ?_
  refine r_iload_n (x := x14) dX9_unlikeIn_54 rfl ?_
  cases h
  exact r_ireturn dX9_unlikeIn_55 rfl (Nat.zero_le _) ⟨rfl, rfl⟩
def fX10_take_8 (N : Nat)  : Nat → PS → Option (PS)
  | 0, _ => none
  | n + 1, S =>
    (if (S.1 2 2) ≤ (S.1 2 3) then
      some S
    else
      gd (inr (S.1 2 3) 700) <|
      bI (fX10_isBlank N (S.1 26 (ix (S.1 2 3))) S) fun x4 S5 =>
      (if x4 = 0 then
        some S5
      else
        lt ((u2 S5.1 2 3 ((S5.1 2 3) + 1), S5.2) : PS) fun S8 =>
        fX10_take_8 N  n  S8))
set_option maxHeartbeats 4000000 in
set_option maxRecDepth 100000 in
theorem okX10_take_8 (N : Nat)  (Q : OQ) (u : Nat) (hu : u ≤ 0) : ∀ (n : Nat)  (S : PS)  (T : PS), fX10_take_8 N  n  S = some T → WP [] mX10_take 1 0 Q 47 [some (.ref 2)] [] T u → WP [] mX10_take 1 0 Q 8 [some (.ref 2)] [] S u := by
  intro n
  induction n with
  | zero => intro S T h; rw [fX10_take_8] at h; cases h
  | succ n ih =>
    intro S T h k0
    rw [fX10_take_8] at h
    refine r_aload_n (x := 2) dX10_take_8 rfl ?_
    refine r_getfield (o := 2) (v := .int (S.1 2 3)) dX10_take_9 lX10_22 ck2 nC2 rfl ?_
    refine r_aload_n (x := 2) dX10_take_12 rfl ?_
    refine r_getfield (o := 2) (v := .int (S.1 2 2)) dX10_take_13 lX10_19 ck2 nC2 rfl ?_
    refine r_icmp_ge (tgt := 47) dX10_take_16 (by decide) (fun c2 => ?_) (fun c2 => ?_)
    · rw [if_pos c2] at h
      cases h
      exact k0
    · rw [if_neg c2] at h
      refine r_aload_n (x := 2) dX10_take_19 rfl ?_
      refine r_getfield (o := 2) (v := .ref 26) dX10_take_20 lX10_9 ck2 nC2 rfl ?_
      refine r_aload_n (x := 2) dX10_take_23 rfl ?_
      refine r_getfield (o := 2) (v := .int (S.1 2 3)) dX10_take_24 lX10_22 ck2 nC2 rfl ?_
      obtain ⟨g3, h⟩ := gd_e h
      refine r_baload (a := 26) dX10_take_27 ck26 nC26 (inr_IX g3) ?_
      obtain ⟨x4, S5, h6, h⟩ := bI_e h
      refine r_cSI (y := mX10_isBlank) (As := [.int (S.1 26 (ix (S.1 2 3)))]) (rest := []) dX10_take_28 qX10_46 kX10_isBlank rfl (okX10_isBlank N (S.1 26 (ix (S.1 2 3))) S x4 S5 h6) (by decide) hu rfl (Nat.le_of_ble_eq_true rfl) ?_
      refine r_if_eq (tgt := 47) dX10_take_31 (by decide) (fun c7 => ?_) (fun c7 => ?_)
      · rw [if_pos c7] at h
        cases h
        exact k0
      · rw [if_neg c7] at h
        refine r_aload_n (x := 2) dX10_take_34 rfl ?_
        refine r_dup_ref dX10_take_35 ?_
        refine r_getfield (o := 2) (v := .int (S5.1 2 3)) dX10_take_36 lX10_22 ck2 nC2 rfl ?_
        refine r_iconst (v := 1) dX10_take_39 rfl ?_
        refine r_iadd dX10_take_40 ?_
        refine r_putI dX10_take_41 lX10_22 ck2 nC2 ?_
        refine r_topS (fun S8 hS8 => ?_)
        replace h := lt_e hS8 h
        refine r_goto (tgt := 8) dX10_take_44 (by decide) ?_
        exact ih _ _ h k0
def fX10_take_158 (N : Nat)  : Nat → PS → Option (PS)
  | 0, _ => none
  | n + 1, S =>
    (if (S.1 2 2) ≤ (S.1 2 4) then
      some S
    else
      gd (inr (S.1 2 4) 700) <|
      bI (fX10_isDigit N (S.1 26 (ix (S.1 2 4))) S) fun x31 S32 =>
      (if x31 = 0 then
        some S32
      else
        (if 4 ≤ ((S32.1 2 4) - (S32.1 2 3)) then
          lt ((u2 S32.1 2 6 (S32.1 2 6), S32.2) : PS) fun S36 =>
          lt ((u2 S36.1 2 4 ((S36.1 2 4) + 1), S36.2) : PS) fun S37 =>
          fX10_take_158 N  n  S37
        else
          gd (inr (S32.1 2 4) 700) <|
          lt ((u2 S32.1 2 6 ((((S32.1 2 6) * 10) + (S32.1 26 (ix (S32.1 2 4)))) - 48), S32.2) : PS) fun S39 =>
          lt ((u2 S39.1 2 4 ((S39.1 2 4) + 1), S39.2) : PS) fun S40 =>
          fX10_take_158 N  n  S40)))
set_option maxHeartbeats 4000000 in
set_option maxRecDepth 100000 in
theorem okX10_take_158 (N : Nat)  (Q : OQ) (u : Nat) (hu : u ≤ 0) : ∀ (n : Nat)  (S : PS)  (T : PS), fX10_take_158 N  n  S = some T → WP [] mX10_take 1 0 Q 256 [some (.ref 2)] [] T u → WP [] mX10_take 1 0 Q 158 [some (.ref 2)] [] S u := by
  intro n
  induction n with
  | zero => intro S T h; rw [fX10_take_158] at h; cases h
  | succ n ih =>
    intro S T h k0
    rw [fX10_take_158] at h
    refine r_aload_n (x := 2) dX10_take_158 rfl ?_
    refine r_getfield (o := 2) (v := .int (S.1 2 4)) dX10_take_159 lX10_25 ck2 nC2 rfl ?_
    refine r_aload_n (x := 2) dX10_take_162 rfl ?_
    refine r_getfield (o := 2) (v := .int (S.1 2 2)) dX10_take_163 lX10_19 ck2 nC2 rfl ?_
    refine r_icmp_ge (tgt := 256) dX10_take_166 (by decide) (fun c29 => ?_) (fun c29 => ?_)
    · rw [if_pos c29] at h
      cases h
      exact k0
    · rw [if_neg c29] at h
      refine r_aload_n (x := 2) dX10_take_169 rfl ?_
      refine r_getfield (o := 2) (v := .ref 26) dX10_take_170 lX10_9 ck2 nC2 rfl ?_
      refine r_aload_n (x := 2) dX10_take_173 rfl ?_
      refine r_getfield (o := 2) (v := .int (S.1 2 4)) dX10_take_174 lX10_25 ck2 nC2 rfl ?_
      obtain ⟨g30, h⟩ := gd_e h
      refine r_baload (a := 26) dX10_take_177 ck26 nC26 (inr_IX g30) ?_
      obtain ⟨x31, S32, h33, h⟩ := bI_e h
      refine r_cSI (y := mX10_isDigit) (As := [.int (S.1 26 (ix (S.1 2 4)))]) (rest := []) dX10_take_178 qX10_53 kX10_isDigit rfl (okX10_isDigit N (S.1 26 (ix (S.1 2 4))) S x31 S32 h33) (by decide) hu rfl (Nat.le_of_ble_eq_true rfl) ?_
      refine r_if_eq (tgt := 256) dX10_take_181 (by decide) (fun c34 => ?_) (fun c34 => ?_)
      · rw [if_pos c34] at h
        cases h
        exact k0
      · rw [if_neg c34] at h
        refine r_aload_n (x := 2) dX10_take_184 rfl ?_
        refine r_aload_n (x := 2) dX10_take_185 rfl ?_
        refine r_getfield (o := 2) (v := .int (S32.1 2 4)) dX10_take_186 lX10_25 ck2 nC2 rfl ?_
        refine r_aload_n (x := 2) dX10_take_189 rfl ?_
        refine r_getfield (o := 2) (v := .int (S32.1 2 3)) dX10_take_190 lX10_22 ck2 nC2 rfl ?_
        refine r_isub dX10_take_193 ?_
        refine r_iconst (v := 4) dX10_take_194 rfl ?_
        refine r_icmp_ge (tgt := 221) dX10_take_195 (by decide) (fun c35 => ?_) (fun c35 => ?_)
        · rw [if_pos c35] at h
          refine r_aload_n (x := 2) dX10_take_221 rfl ?_
          refine r_getfield (o := 2) (v := .int (S32.1 2 6)) dX10_take_222 lX10_31 ck2 nC2 rfl ?_
          refine r_putI dX10_take_225 lX10_31 ck2 nC2 ?_
          refine r_topS (fun S36 hS36 => ?_)
          replace h := lt_e hS36 h
          refine r_aload_n (x := 2) dX10_take_228 rfl ?_
          refine r_dup_ref dX10_take_229 ?_
          refine r_getfield (o := 2) (v := .int (S36.1 2 4)) dX10_take_230 lX10_25 ck2 nC2 rfl ?_
          refine r_iconst (v := 1) dX10_take_233 rfl ?_
          refine r_iadd dX10_take_234 ?_
          refine r_putI dX10_take_235 lX10_25 ck2 nC2 ?_
          refine r_topS (fun S37 hS37 => ?_)
          replace h := lt_e hS37 h
          refine r_goto (tgt := 158) dX10_take_238 (by decide) ?_
          exact ih _ _ h k0
        · rw [if_neg c35] at h
          refine r_aload_n (x := 2) dX10_take_198 rfl ?_
          refine r_getfield (o := 2) (v := .int (S32.1 2 6)) dX10_take_199 lX10_31 ck2 nC2 rfl ?_
          refine r_bipush (v := 10) dX10_take_202 rfl ?_
          refine r_imul dX10_take_204 ?_
          refine r_aload_n (x := 2) dX10_take_205 rfl ?_
          refine r_getfield (o := 2) (v := .ref 26) dX10_take_206 lX10_9 ck2 nC2 rfl ?_
          refine r_aload_n (x := 2) dX10_take_209 rfl ?_
          refine r_getfield (o := 2) (v := .int (S32.1 2 4)) dX10_take_210 lX10_25 ck2 nC2 rfl ?_
          obtain ⟨g38, h⟩ := gd_e h
          refine r_baload (a := 26) dX10_take_213 ck26 nC26 (inr_IX g38) ?_
          refine r_iadd dX10_take_214 ?_
          refine r_bipush (v := 48) dX10_take_215 rfl ?_
          refine r_isub dX10_take_217 ?_
          refine r_goto (tgt := 225) dX10_take_218 (by decide) ?_
          refine r_putI dX10_take_225 lX10_31 ck2 nC2 ?_
          refine r_topS (fun S39 hS39 => ?_)
          replace h := lt_e hS39 h
          refine r_aload_n (x := 2) dX10_take_228 rfl ?_
          refine r_dup_ref dX10_take_229 ?_
          refine r_getfield (o := 2) (v := .int (S39.1 2 4)) dX10_take_230 lX10_25 ck2 nC2 rfl ?_
          refine r_iconst (v := 1) dX10_take_233 rfl ?_
          refine r_iadd dX10_take_234 ?_
          refine r_putI dX10_take_235 lX10_25 ck2 nC2 ?_
          refine r_topS (fun S40 hS40 => ?_)
          replace h := lt_e hS40 h
          refine r_goto (tgt := 158) dX10_take_238 (by decide) ?_
          exact ih _ _ h k0
def fX10_take_94 (N : Nat)  : Nat → PS → Option (PS)
  | 0, _ => none
  | n + 1, S =>
    (if (S.1 2 2) ≤ (S.1 2 4) then
      some S
    else
      gd (inr (S.1 2 4) 700) <|
      bI (fX10_isLetter N (S.1 26 (ix (S.1 2 4))) S) fun x48 S49 =>
      (if x48 = 0 then
        some S49
      else
        lt ((u2 S49.1 2 4 ((S49.1 2 4) + 1), S49.2) : PS) fun S52 =>
        fX10_take_94 N  n  S52))
set_option maxHeartbeats 4000000 in
set_option maxRecDepth 100000 in
theorem okX10_take_94 (N : Nat)  (Q : OQ) (u : Nat) (hu : u ≤ 0) : ∀ (n : Nat)  (S : PS)  (T : PS), fX10_take_94 N  n  S = some T → WP [] mX10_take 1 0 Q 256 [some (.ref 2)] [] T u → WP [] mX10_take 1 0 Q 94 [some (.ref 2)] [] S u := by
  intro n
  induction n with
  | zero => intro S T h; rw [fX10_take_94] at h; cases h
  | succ n ih =>
    intro S T h k0
    rw [fX10_take_94] at h
    refine r_aload_n (x := 2) dX10_take_94 rfl ?_
    refine r_getfield (o := 2) (v := .int (S.1 2 4)) dX10_take_95 lX10_25 ck2 nC2 rfl ?_
    refine r_aload_n (x := 2) dX10_take_98 rfl ?_
    refine r_getfield (o := 2) (v := .int (S.1 2 2)) dX10_take_99 lX10_19 ck2 nC2 rfl ?_
    refine r_icmp_ge (tgt := 256) dX10_take_102 (by decide) (fun c46 => ?_) (fun c46 => ?_)
    · rw [if_pos c46] at h
      cases h
      exact k0
    · rw [if_neg c46] at h
      refine r_aload_n (x := 2) dX10_take_105 rfl ?_
      refine r_getfield (o := 2) (v := .ref 26) dX10_take_106 lX10_9 ck2 nC2 rfl ?_
      refine r_aload_n (x := 2) dX10_take_109 rfl ?_
      refine r_getfield (o := 2) (v := .int (S.1 2 4)) dX10_take_110 lX10_25 ck2 nC2 rfl ?_
      obtain ⟨g47, h⟩ := gd_e h
      refine r_baload (a := 26) dX10_take_113 ck26 nC26 (inr_IX g47) ?_
      obtain ⟨x48, S49, h50, h⟩ := bI_e h
      refine r_cSI (y := mX10_isLetter) (As := [.int (S.1 26 (ix (S.1 2 4)))]) (rest := []) dX10_take_114 qX10_50 kX10_isLetter rfl (okX10_isLetter N (S.1 26 (ix (S.1 2 4))) S x48 S49 h50) (by decide) hu rfl (Nat.le_of_ble_eq_true rfl) ?_
      refine r_if_eq (tgt := 256) dX10_take_117 (by decide) (fun c51 => ?_) (fun c51 => ?_)
      · rw [if_pos c51] at h
        cases h
        exact k0
      · rw [if_neg c51] at h
        refine r_aload_n (x := 2) dX10_take_120 rfl ?_
        refine r_dup_ref dX10_take_121 ?_
        refine r_getfield (o := 2) (v := .int (S49.1 2 4)) dX10_take_122 lX10_25 ck2 nC2 rfl ?_
        refine r_iconst (v := 1) dX10_take_125 rfl ?_
        refine r_iadd dX10_take_126 ?_
        refine r_putI dX10_take_127 lX10_25 ck2 nC2 ?_
        refine r_topS (fun S52 hS52 => ?_)
        replace h := lt_e hS52 h
        refine r_goto (tgt := 94) dX10_take_130 (by decide) ?_
        exact ih _ _ h k0
def fX10_take (N : Nat)  (S : PS) : Option PS :=
  lt ((u2 S.1 2 3 (S.1 2 4), S.2) : PS) fun S1 =>
  bT (fX10_take_8 N  N  S1) fun S10 =>
  lt ((u2 S10.1 2 4 (S10.1 2 3), S10.2) : PS) fun S13 =>
  (if (S13.1 2 3) < (S13.1 2 2) then
    gd (inr (S13.1 2 3) 700) <|
    bI (fX10_isLetter N (S13.1 26 (ix (S13.1 2 3))) S13) fun x16 S17 =>
    (if x16 = 0 then
      gd (inr (S17.1 2 3) 700) <|
      bI (fX10_isDigit N (S17.1 26 (ix (S17.1 2 3))) S17) fun x21 S22 =>
      (if x21 = 0 then
        lt ((u2 S22.1 2 5 3, S22.2) : PS) fun S25 =>
        lt ((u2 S25.1 2 4 ((S25.1 2 4) + 1), S25.2) : PS) fun S26 =>
        some S26
      else
        lt ((u2 S22.1 2 5 2, S22.2) : PS) fun S27 =>
        lt ((u2 S27.1 2 6 0, S27.2) : PS) fun S28 =>
        bT (fX10_take_158 N  N  S28) fun S42 =>
        some S42)
    else
      lt ((u2 S17.1 2 5 1, S17.2) : PS) fun S45 =>
      bT (fX10_take_94 N  N  S45) fun S54 =>
      some S54)
  else
    lt ((u2 S13.1 2 5 0, S13.2) : PS) fun S57 =>
    some S57)
set_option maxHeartbeats 4000000 in
set_option maxRecDepth 100000 in
theorem okX10_take (N : Nat)  (S : PS) (T : PS) (h : fX10_take N  S = some T) : CT mX10_take 1 0 [.ref 2] S (qV T) := by
  refine ct_of [some (.ref 2)] rfl (fun _ => rfl) (fun _ => Nat.le_of_ble_eq_true rfl) ?_
  unfold fX10_take at h
  refine r_aload_n (x := 2) dX10_take_0 rfl ?_
  refine r_aload_n (x := 2) dX10_take_1 rfl ?_
  refine r_getfield (o := 2) (v := .int (S.1 2 4)) dX10_take_2 lX10_25 ck2 nC2 rfl ?_
  refine r_putI dX10_take_5 lX10_22 ck2 nC2 ?_
  refine r_topS (fun S1 hS1 => ?_)
  replace h := lt_e hS1 h
  obtain ⟨S10, h12, h⟩ := bT_e h
  refine okX10_take_8 N  (qV T) 0 (Nat.zero_le _) _ _ _ h12 ?_
  refine r_aload_n (x := 2) dX10_take_47 rfl ?_
  refine r_aload_n (x := 2) dX10_take_48 rfl ?_
  refine r_getfield (o := 2) (v := .int (S10.1 2 3)) dX10_take_49 lX10_22 ck2 nC2 rfl ?_
  refine r_putI dX10_take_52 lX10_25 ck2 nC2 ?_
  refine r_topS (fun S13 hS13 => ?_)
  replace h := lt_e hS13 h
  refine r_aload_n (x := 2) dX10_take_55 rfl ?_
  refine r_getfield (o := 2) (v := .int (S13.1 2 3)) dX10_take_56 lX10_22 ck2 nC2 rfl ?_
  refine r_aload_n (x := 2) dX10_take_59 rfl ?_
  refine r_getfield (o := 2) (v := .int (S13.1 2 2)) dX10_take_60 lX10_19 ck2 nC2 rfl ?_
  refine r_icmp_lt (tgt := 74) dX10_take_63 (by decide) (fun c14 => ?_) (fun c14 => ?_)
  · rw [if_pos c14] at h
    refine r_aload_n (x := 2) dX10_take_74 rfl ?_
    refine r_getfield (o := 2) (v := .ref 26) dX10_take_75 lX10_9 ck2 nC2 rfl ?_
    refine r_aload_n (x := 2) dX10_take_78 rfl ?_
    refine r_getfield (o := 2) (v := .int (S13.1 2 3)) dX10_take_79 lX10_22 ck2 nC2 rfl ?_
    obtain ⟨g15, h⟩ := gd_e h
    refine r_baload (a := 26) dX10_take_82 ck26 nC26 (inr_IX g15) ?_
    obtain ⟨x16, S17, h18, h⟩ := bI_e h
    refine r_cSI (y := mX10_isLetter) (As := [.int (S13.1 26 (ix (S13.1 2 3)))]) (rest := []) dX10_take_83 qX10_50 kX10_isLetter rfl (okX10_isLetter N (S13.1 26 (ix (S13.1 2 3))) S13 x16 S17 h18) (by decide) (Nat.zero_le _) rfl (Nat.le_of_ble_eq_true rfl) ?_
    refine r_if_eq (tgt := 133) dX10_take_86 (by decide) (fun c19 => ?_) (fun c19 => ?_)
    · rw [if_pos c19] at h
      refine r_aload_n (x := 2) dX10_take_133 rfl ?_
      refine r_getfield (o := 2) (v := .ref 26) dX10_take_134 lX10_9 ck2 nC2 rfl ?_
      refine r_aload_n (x := 2) dX10_take_137 rfl ?_
      refine r_getfield (o := 2) (v := .int (S17.1 2 3)) dX10_take_138 lX10_22 ck2 nC2 rfl ?_
      obtain ⟨g20, h⟩ := gd_e h
      refine r_baload (a := 26) dX10_take_141 ck26 nC26 (inr_IX g20) ?_
      obtain ⟨x21, S22, h23, h⟩ := bI_e h
      refine r_cSI (y := mX10_isDigit) (As := [.int (S17.1 26 (ix (S17.1 2 3)))]) (rest := []) dX10_take_142 qX10_53 kX10_isDigit rfl (okX10_isDigit N (S17.1 26 (ix (S17.1 2 3))) S17 x21 S22 h23) (by decide) (Nat.zero_le _) rfl (Nat.le_of_ble_eq_true rfl) ?_
      refine r_if_eq (tgt := 241) dX10_take_145 (by decide) (fun c24 => ?_) (fun c24 => ?_)
      · rw [if_pos c24] at h
        refine r_aload_n (x := 2) dX10_take_241 rfl ?_
        refine r_iconst (v := 3) dX10_take_242 rfl ?_
        refine r_putI dX10_take_243 lX10_28 ck2 nC2 ?_
        refine r_topS (fun S25 hS25 => ?_)
        replace h := lt_e hS25 h
        refine r_aload_n (x := 2) dX10_take_246 rfl ?_
        refine r_dup_ref dX10_take_247 ?_
        refine r_getfield (o := 2) (v := .int (S25.1 2 4)) dX10_take_248 lX10_25 ck2 nC2 rfl ?_
        refine r_iconst (v := 1) dX10_take_251 rfl ?_
        refine r_iadd dX10_take_252 ?_
        refine r_putI dX10_take_253 lX10_25 ck2 nC2 ?_
        refine r_topS (fun S26 hS26 => ?_)
        replace h := lt_e hS26 h
        cases h
        exact r_return dX10_take_256 rfl (Nat.zero_le _) ⟨rfl, rfl⟩
      · rw [if_neg c24] at h
        refine r_aload_n (x := 2) dX10_take_148 rfl ?_
        refine r_iconst (v := 2) dX10_take_149 rfl ?_
        refine r_putI dX10_take_150 lX10_28 ck2 nC2 ?_
        refine r_topS (fun S27 hS27 => ?_)
        replace h := lt_e hS27 h
        refine r_aload_n (x := 2) dX10_take_153 rfl ?_
        refine r_iconst (v := 0) dX10_take_154 rfl ?_
        refine r_putI dX10_take_155 lX10_31 ck2 nC2 ?_
        refine r_topS (fun S28 hS28 => ?_)
        replace h := lt_e hS28 h
        obtain ⟨S42, h44, h⟩ := bT_e h
        refine okX10_take_158 N  (qV T) 0 (Nat.zero_le _) _ _ _ h44 ?_
        cases h
        exact r_return dX10_take_256 rfl (Nat.zero_le _) ⟨rfl, rfl⟩
    · rw [if_neg c19] at h
      refine r_aload_n (x := 2) dX10_take_89 rfl ?_
      refine r_iconst (v := 1) dX10_take_90 rfl ?_
      refine r_putI dX10_take_91 lX10_28 ck2 nC2 ?_
      refine r_topS (fun S45 hS45 => ?_)
      replace h := lt_e hS45 h
      obtain ⟨S54, h56, h⟩ := bT_e h
      refine okX10_take_94 N  (qV T) 0 (Nat.zero_le _) _ _ _ h56 ?_
      cases h
      exact r_return dX10_take_256 rfl (Nat.zero_le _) ⟨rfl, rfl⟩
  · rw [if_neg c14] at h
    refine r_aload_n (x := 2) dX10_take_66 rfl ?_
    refine r_iconst (v := 0) dX10_take_67 rfl ?_
    refine r_putI dX10_take_68 lX10_28 ck2 nC2 ?_
    refine r_topS (fun S57 hS57 => ?_)
    replace h := lt_e hS57 h
    refine r_goto (tgt := 256) dX10_take_71 (by decide) ?_
    cases h
    exact r_return dX10_take_256 rfl (Nat.zero_le _) ⟨rfl, rfl⟩
def fX11_count (N : Nat) (p0 : Int32) (S : PS) : Option ((Int32 ⊕ String) × PS) :=
  bU (fX11_needWhat N p0 12 S) fun S2 =>
  (if p0 = 0 then
    lt ((S2.2.2 5 3) : Nat) fun o5 =>
    gd (obj o5 1) <|
    some (.inl (S2.1 o5 4), S2)
  else if p0 = 1 then
    some (.inl (S2.1 18 6), S2)
  else if p0 = 2 then
    some (.inl (S2.1 18 7), S2)
  else if p0 = 3 then
    bI (fX2_fillOfAll N 18 S2) fun x10 S11 =>
    some (.inl x10, S11)
  else if p0 = 4 then
    bI (fX2_tipsOfAll N 18 S2) fun x14 S15 =>
    some (.inl x14, S15)
  else if p0 = 5 then
    lt ((S2.2.2 5 3) : Nat) fun o18 =>
    gd (obj o18 1) <|
    bI (fX2_roots N 18 (S2.1 o18 4) S2) fun x20 S21 =>
    some (.inl x20, S21)
  else if p0 = 6 then
    bI (fX11_alikeCouples N  S2) fun x24 S25 =>
    some (.inl x24, S25)
  else if p0 = 7 then
    some (.inl (S2.1 8 1), S2)
  else if p0 = 8 then
    some (.inl (S2.1 10 3), S2)
  else if p0 = 9 then
    some (.inl (S2.1 2 1), S2)
  else if p0 = 10 then
    some (.inl (S2.1 23 0), S2)
  else if p0 = 11 then
    some (.inl (S2.1 23 1), S2)
  else 
    some (.inl (S2.1 23 2), S2))
set_option maxHeartbeats 4000000 in
set_option maxRecDepth 100000 in
theorem okX11_count (N : Nat) (p0 : Int32) (S : PS) (r : Int32 ⊕ String) (T : PS) (h : fX11_count N p0 S = some (r, T)) : CT mX11_count 7 8 [.ref 0, .int p0] S (qE r T) := by
  refine ct_of [some (.ref 0), some (.int p0)] rfl (fun _ => rfl) (fun _ => Nat.le_of_ble_eq_true rfl) ?_
  unfold fX11_count at h
  refine r_iload_n (x := p0) dX11_count_0 rfl ?_
  refine r_bipush (v := 12) dX11_count_1 rfl ?_
  obtain ⟨x1, S2, h3, hx1, kx1⟩ := bU_e h
  refine r_cSU (y := mX11_needWhat) (As := [.int p0, .int 12]) (rest := []) dX11_count_3 qX11_109 kX11_needWhat rfl (okX11_needWhat N p0 12 S x1 S2 h3) (by decide) (by decide) rfl (Nat.le_of_ble_eq_true rfl) (fun ex1 => ?_) (fun Ex1 ex1 => ?_)
  · replace h := hx1 ex1
    refine r_iload_n (x := p0) dX11_count_6 rfl ?_
    by_cases c4 : p0 = 0
    · rw [if_pos c4] at h
      refine r_tableIn (tgt := 68) dX11_count_7 (by rw [c4]; decide) (by rw [c4]; decide) (by rw [c4]; rfl) (by decide) ?_
      refine r_aload_n (x := 0) dX11_count_68 rfl ?_
      refine r_getfield (o := 0) (v := .ref 5) dX11_count_69 lX11_29 ck0 nC0 rfl ?_
      refine r_getfield (o := 5) (v := .ref (S2.2.2 5 3)) dX11_count_72 lX11_92 ck5 nC5 rfl ?_
      refine r_topr (fun o5 ho5 => ?_)
      replace h := lt_e ho5 h
      obtain ⟨g6, h⟩ := gd_e h
      refine r_getfield (o := o5) (v := .int (S2.1 o5 4)) dX11_count_75 lX11_113 g6.1 g6.2 rfl ?_
      cases h
      exact r_ireturn dX11_count_78 rfl (by decide) ⟨rfl, rfl⟩
    rw [if_neg c4] at h
    by_cases c7 : p0 = 1
    · rw [if_pos c7] at h
      refine r_tableIn (tgt := 79) dX11_count_7 (by rw [c7]; decide) (by rw [c7]; decide) (by rw [c7]; rfl) (by decide) ?_
      refine r_aload_n (x := 0) dX11_count_79 rfl ?_
      refine r_getfield (o := 0) (v := .ref 3) dX11_count_80 lX11_19 ck0 nC0 rfl ?_
      refine r_getfield (o := 3) (v := .ref 18) dX11_count_83 lX11_116 ck3 nC3 rfl ?_
      refine r_getfield (o := 18) (v := .int (S2.1 18 6)) dX11_count_86 lX11_118 ck18 nC18 rfl ?_
      cases h
      exact r_ireturn dX11_count_89 rfl (by decide) ⟨rfl, rfl⟩
    rw [if_neg c7] at h
    by_cases c8 : p0 = 2
    · rw [if_pos c8] at h
      refine r_tableIn (tgt := 90) dX11_count_7 (by rw [c8]; decide) (by rw [c8]; decide) (by rw [c8]; rfl) (by decide) ?_
      refine r_aload_n (x := 0) dX11_count_90 rfl ?_
      refine r_getfield (o := 0) (v := .ref 3) dX11_count_91 lX11_19 ck0 nC0 rfl ?_
      refine r_getfield (o := 3) (v := .ref 18) dX11_count_94 lX11_116 ck3 nC3 rfl ?_
      refine r_getfield (o := 18) (v := .int (S2.1 18 7)) dX11_count_97 lX11_123 ck18 nC18 rfl ?_
      cases h
      exact r_ireturn dX11_count_100 rfl (by decide) ⟨rfl, rfl⟩
    rw [if_neg c8] at h
    by_cases c9 : p0 = 3
    · rw [if_pos c9] at h
      refine r_tableIn (tgt := 101) dX11_count_7 (by rw [c9]; decide) (by rw [c9]; decide) (by rw [c9]; rfl) (by decide) ?_
      refine r_aload_n (x := 0) dX11_count_101 rfl ?_
      refine r_getfield (o := 0) (v := .ref 3) dX11_count_102 lX11_19 ck0 nC0 rfl ?_
      refine r_getfield (o := 3) (v := .ref 18) dX11_count_105 lX11_116 ck3 nC3 rfl ?_
      obtain ⟨x10, S11, h12, h⟩ := bI_e h
      refine r_cVI (y := mX2_fillOfAll) (As := []) (rest := []) dX11_count_108 qX11_126 kX2_fillOfAll rfl ob18 vc2 rfl (okX2_fillOfAll N 18 S2 x10 S11 h12) (by decide) (by decide) rfl (Nat.le_of_ble_eq_true rfl) ?_
      cases h
      exact r_ireturn dX11_count_111 rfl (by decide) ⟨rfl, rfl⟩
    rw [if_neg c9] at h
    by_cases c13 : p0 = 4
    · rw [if_pos c13] at h
      refine r_tableIn (tgt := 112) dX11_count_7 (by rw [c13]; decide) (by rw [c13]; decide) (by rw [c13]; rfl) (by decide) ?_
      refine r_aload_n (x := 0) dX11_count_112 rfl ?_
      refine r_getfield (o := 0) (v := .ref 3) dX11_count_113 lX11_19 ck0 nC0 rfl ?_
      refine r_getfield (o := 3) (v := .ref 18) dX11_count_116 lX11_116 ck3 nC3 rfl ?_
      obtain ⟨x14, S15, h16, h⟩ := bI_e h
      refine r_cVI (y := mX2_tipsOfAll) (As := []) (rest := []) dX11_count_119 qX11_130 kX2_tipsOfAll rfl ob18 vc2 rfl (okX2_tipsOfAll N 18 S2 x14 S15 h16) (by decide) (by decide) rfl (Nat.le_of_ble_eq_true rfl) ?_
      cases h
      exact r_ireturn dX11_count_122 rfl (by decide) ⟨rfl, rfl⟩
    rw [if_neg c13] at h
    by_cases c17 : p0 = 5
    · rw [if_pos c17] at h
      refine r_tableIn (tgt := 123) dX11_count_7 (by rw [c17]; decide) (by rw [c17]; decide) (by rw [c17]; rfl) (by decide) ?_
      refine r_aload_n (x := 0) dX11_count_123 rfl ?_
      refine r_getfield (o := 0) (v := .ref 3) dX11_count_124 lX11_19 ck0 nC0 rfl ?_
      refine r_getfield (o := 3) (v := .ref 18) dX11_count_127 lX11_116 ck3 nC3 rfl ?_
      refine r_aload_n (x := 0) dX11_count_130 rfl ?_
      refine r_getfield (o := 0) (v := .ref 5) dX11_count_131 lX11_29 ck0 nC0 rfl ?_
      refine r_getfield (o := 5) (v := .ref (S2.2.2 5 3)) dX11_count_134 lX11_92 ck5 nC5 rfl ?_
      refine r_topr (fun o18 ho18 => ?_)
      replace h := lt_e ho18 h
      obtain ⟨g19, h⟩ := gd_e h
      refine r_getfield (o := o18) (v := .int (S2.1 o18 4)) dX11_count_137 lX11_113 g19.1 g19.2 rfl ?_
      obtain ⟨x20, S21, h22, h⟩ := bI_e h
      refine r_cVI (y := mX2_roots) (As := [.int (S2.1 o18 4)]) (rest := []) dX11_count_140 qX11_133 kX2_roots rfl ob18 vc2 rfl (okX2_roots N 18 (S2.1 o18 4) S2 x20 S21 h22) (by decide) (by decide) rfl (Nat.le_of_ble_eq_true rfl) ?_
      cases h
      exact r_ireturn dX11_count_143 rfl (by decide) ⟨rfl, rfl⟩
    rw [if_neg c17] at h
    by_cases c23 : p0 = 6
    · rw [if_pos c23] at h
      refine r_tableIn (tgt := 144) dX11_count_7 (by rw [c23]; decide) (by rw [c23]; decide) (by rw [c23]; rfl) (by decide) ?_
      refine r_aload_n (x := 0) dX11_count_144 rfl ?_
      obtain ⟨x24, S25, h26, h⟩ := bI_e h
      refine r_cVI (y := mX11_alikeCouples) (As := []) (rest := []) dX11_count_145 qX11_136 kX11_alikeCouples rfl ob0 vc11 rfl (okX11_alikeCouples N  S2 x24 S25 h26) (by decide) (by decide) rfl (Nat.le_of_ble_eq_true rfl) ?_
      cases h
      exact r_ireturn dX11_count_148 rfl (by decide) ⟨rfl, rfl⟩
    rw [if_neg c23] at h
    by_cases c27 : p0 = 7
    · rw [if_pos c27] at h
      refine r_tableIn (tgt := 149) dX11_count_7 (by rw [c27]; decide) (by rw [c27]; decide) (by rw [c27]; rfl) (by decide) ?_
      refine r_aload_n (x := 0) dX11_count_149 rfl ?_
      refine r_getfield (o := 0) (v := .ref 3) dX11_count_150 lX11_19 ck0 nC0 rfl ?_
      refine r_getfield (o := 3) (v := .ref 8) dX11_count_153 lX11_139 ck3 nC3 rfl ?_
      refine r_getfield (o := 8) (v := .int (S2.1 8 1)) dX11_count_156 lX11_143 ck8 nC8 rfl ?_
      cases h
      exact r_ireturn dX11_count_159 rfl (by decide) ⟨rfl, rfl⟩
    rw [if_neg c27] at h
    by_cases c28 : p0 = 8
    · rw [if_pos c28] at h
      refine r_tableIn (tgt := 160) dX11_count_7 (by rw [c28]; decide) (by rw [c28]; decide) (by rw [c28]; rfl) (by decide) ?_
      refine r_aload_n (x := 0) dX11_count_160 rfl ?_
      refine r_getfield (o := 0) (v := .ref 3) dX11_count_161 lX11_19 ck0 nC0 rfl ?_
      refine r_getfield (o := 3) (v := .ref 10) dX11_count_164 lX11_147 ck3 nC3 rfl ?_
      refine r_getfield (o := 10) (v := .int (S2.1 10 3)) dX11_count_167 lX11_151 ck10 nC10 rfl ?_
      cases h
      exact r_ireturn dX11_count_170 rfl (by decide) ⟨rfl, rfl⟩
    rw [if_neg c28] at h
    by_cases c29 : p0 = 9
    · rw [if_pos c29] at h
      refine r_tableIn (tgt := 171) dX11_count_7 (by rw [c29]; decide) (by rw [c29]; decide) (by rw [c29]; rfl) (by decide) ?_
      refine r_aload_n (x := 0) dX11_count_171 rfl ?_
      refine r_getfield (o := 0) (v := .ref 1) dX11_count_172 lX11_10 ck0 nC0 rfl ?_
      refine r_getfield (o := 1) (v := .ref 2) dX11_count_175 lX11_68 ck1 nC1 rfl ?_
      refine r_getfield (o := 2) (v := .int (S2.1 2 1)) dX11_count_178 lX11_72 ck2 nC2 rfl ?_
      cases h
      exact r_ireturn dX11_count_181 rfl (by decide) ⟨rfl, rfl⟩
    rw [if_neg c29] at h
    by_cases c30 : p0 = 10
    · rw [if_pos c30] at h
      refine r_tableIn (tgt := 182) dX11_count_7 (by rw [c30]; decide) (by rw [c30]; decide) (by rw [c30]; rfl) (by decide) ?_
      refine r_aload_n (x := 0) dX11_count_182 rfl ?_
      refine r_getfield (o := 0) (v := .ref 23) dX11_count_183 lX11_47 ck0 nC0 rfl ?_
      refine r_iconst (v := 0) dX11_count_186 rfl ?_
      refine r_iaload (a := 23) (k9 := 0) dX11_count_187 ck23 nC23 ⟨by decide, by decide⟩ ?_
      cases h
      exact r_ireturn dX11_count_188 rfl (by decide) ⟨rfl, rfl⟩
    rw [if_neg c30] at h
    by_cases c31 : p0 = 11
    · rw [if_pos c31] at h
      refine r_tableIn (tgt := 189) dX11_count_7 (by rw [c31]; decide) (by rw [c31]; decide) (by rw [c31]; rfl) (by decide) ?_
      refine r_aload_n (x := 0) dX11_count_189 rfl ?_
      refine r_getfield (o := 0) (v := .ref 23) dX11_count_190 lX11_47 ck0 nC0 rfl ?_
      refine r_iconst (v := 1) dX11_count_193 rfl ?_
      refine r_iaload (a := 23) (k9 := 1) dX11_count_194 ck23 nC23 ⟨by decide, by decide⟩ ?_
      cases h
      exact r_ireturn dX11_count_195 rfl (by decide) ⟨rfl, rfl⟩
    rw [if_neg c31] at h
    refine r_tableOut (tgt := 196) dX11_count_7 (by have nc4 := lv_neT c4 (a := 0) rfl; have nc7 := lv_neT c7 (a := 1) rfl; have nc8 := lv_neT c8 (a := 2) rfl; have nc9 := lv_neT c9 (a := 3) rfl; have nc13 := lv_neT c13 (a := 4) rfl; have nc17 := lv_neT c17 (a := 5) rfl; have nc23 := lv_neT c23 (a := 6) rfl; have nc27 := lv_neT c27 (a := 7) rfl; have nc28 := lv_neT c28 (a := 8) rfl; have nc29 := lv_neT c29 (a := 9) rfl; have nc30 := lv_neT c30 (a := 10) rfl; have nc31 := lv_neT c31 (a := 11) rfl; omega) (by decide) ?_
    refine r_aload_n (x := 0) dX11_count_196 rfl ?_
    refine r_getfield (o := 0) (v := .ref 23) dX11_count_197 lX11_47 ck0 nC0 rfl ?_
    refine r_iconst (v := 2) dX11_count_200 rfl ?_
    refine r_iaload (a := 23) (k9 := 2) dX11_count_201 ck23 nC23 ⟨by decide, by decide⟩ ?_
    cases h
    exact r_ireturn dX11_count_202 rfl (by decide) ⟨rfl, rfl⟩
  · cases kx1 Ex1 ex1
    exact ⟨rfl, rfl⟩
def fX11_cup (N : Nat) (p0 : Int32) (p1 : Int32) (S : PS) : Option ((Int32 ⊕ String) × PS) :=
  bU (fX11_needCup N p0 S) fun S2 =>
  bU (fX11_needWhat N p1 8 S2) fun S5 =>
  (if p1 = 0 then
    gd (inr p0 9) <|
    some (.inl (S5.1 50 (ix p0)), S5)
  else if p1 = 1 then
    gd (inr p0 9) <|
    some (.inl (S5.1 51 (ix p0)), S5)
  else if p1 = 2 then
    lt ((S5.2.2 5 3) : Nat) fun o12 =>
    gd (obj o12 1) <|
    gd (arr (sr o12 0) 1 9) <|
    gd (inr p0 9) <|
    some (.inl (S5.1 (sr o12 0) (ix p0)), S5)
  else if p1 = 3 then
    bI (fX2_intoOfDrop N 18 p0 0 S5) fun x17 S18 =>
    some (.inl x17, S18)
  else if p1 = 4 then
    bI (fX2_intoOfDrop N 18 p0 1 S5) fun x21 S22 =>
    some (.inl x21, S22)
  else if p1 = 5 then
    gd (inr p0 9) <|
    some (.inl (S5.1 54 (ix p0)), S5)
  else if p1 = 6 then
    bI (fX2_isPlugged N 18 p0 S5) fun x27 S28 =>
    lt ((if x27 = 0 then 0 else 1) : Int32) fun x31 =>
    some (.inl x31, S28)
  else if p1 = 7 then
    bI (fX2_deepest N 18 p0 S5) fun x33 S34 =>
    some (.inl x33, S34)
  else 
    gd (inr p0 9) <|
    gd (inr p0 9) <|
    some (.inl ((S5.1 50 (ix p0)) - (S5.1 51 (ix p0))), S5))
set_option maxHeartbeats 4000000 in
set_option maxRecDepth 100000 in
theorem okX11_cup (N : Nat) (p0 : Int32) (p1 : Int32) (S : PS) (r : Int32 ⊕ String) (T : PS) (h : fX11_cup N p0 p1 S = some (r, T)) : CT mX11_cup 7 8 [.ref 0, .int p0, .int p1] S (qE r T) := by
  refine ct_of [some (.ref 0), some (.int p0), some (.int p1), none] rfl (fun _ => rfl) (fun _ => Nat.le_of_ble_eq_true rfl) ?_
  unfold fX11_cup at h
  refine r_aload_n (x := 0) dX11_cup_0 rfl ?_
  refine r_iload_n (x := p0) dX11_cup_1 rfl ?_
  obtain ⟨x1, S2, h3, hx1, kx1⟩ := bU_e h
  refine r_cVU (y := mX11_needCup) (As := [.int p0]) (rest := []) dX11_cup_2 qX11_156 kX11_needCup rfl ob0 vc11 rfl (okX11_needCup N p0 S x1 S2 h3) (by decide) (by decide) rfl (Nat.le_of_ble_eq_true rfl) (fun ex1 => ?_) (fun Ex1 ex1 => ?_)
  · replace h := hx1 ex1
    refine r_iload_n (x := p1) dX11_cup_5 rfl ?_
    refine r_bipush (v := 8) dX11_cup_6 rfl ?_
    obtain ⟨x4, S5, h6, hx4, kx4⟩ := bU_e h
    refine r_cSU (y := mX11_needWhat) (As := [.int p1, .int 8]) (rest := []) dX11_cup_8 qX11_109 kX11_needWhat rfl (okX11_needWhat N p1 8 S2 x4 S5 h6) (by decide) (by decide) rfl (Nat.le_of_ble_eq_true rfl) (fun ex4 => ?_) (fun Ex4 ex4 => ?_)
    · replace h := hx4 ex4
      refine r_aload_n (x := 0) dX11_cup_11 rfl ?_
      refine r_getfield (o := 0) (v := .ref 3) dX11_cup_12 lX11_19 ck0 nC0 rfl ?_
      refine r_getfield (o := 3) (v := .ref 18) dX11_cup_15 lX11_116 ck3 nC3 rfl ?_
      refine r_astore_n (L' := [some (.ref 0), some (.int p0), some (.int p1), some (.ref 18)]) dX11_cup_18 (Nat.le_of_ble_eq_true rfl) rfl rfl ?_
      refine r_iload_n (x := p1) dX11_cup_19 rfl ?_
      by_cases c7 : p1 = 0
      · rw [if_pos c7] at h
        refine r_tableIn (tgt := 68) dX11_cup_20 (by rw [c7]; decide) (by rw [c7]; decide) (by rw [c7]; rfl) (by decide) ?_
        refine r_aload_n (x := 18) dX11_cup_68 rfl ?_
        refine r_getfield (o := 18) (v := .ref 50) dX11_cup_69 lX11_159 ck18 nC18 rfl ?_
        refine r_iload_n (x := p0) dX11_cup_72 rfl ?_
        obtain ⟨g8, h⟩ := gd_e h
        refine r_iaload (a := 50) dX11_cup_73 ck50 nC50 (inr_IX g8) ?_
        cases h
        exact r_ireturn dX11_cup_74 rfl (by decide) ⟨rfl, rfl⟩
      rw [if_neg c7] at h
      by_cases c9 : p1 = 1
      · rw [if_pos c9] at h
        refine r_tableIn (tgt := 75) dX11_cup_20 (by rw [c9]; decide) (by rw [c9]; decide) (by rw [c9]; rfl) (by decide) ?_
        refine r_aload_n (x := 18) dX11_cup_75 rfl ?_
        refine r_getfield (o := 18) (v := .ref 51) dX11_cup_76 lX11_162 ck18 nC18 rfl ?_
        refine r_iload_n (x := p0) dX11_cup_79 rfl ?_
        obtain ⟨g10, h⟩ := gd_e h
        refine r_iaload (a := 51) dX11_cup_80 ck51 nC51 (inr_IX g10) ?_
        cases h
        exact r_ireturn dX11_cup_81 rfl (by decide) ⟨rfl, rfl⟩
      rw [if_neg c9] at h
      by_cases c11 : p1 = 2
      · rw [if_pos c11] at h
        refine r_tableIn (tgt := 82) dX11_cup_20 (by rw [c11]; decide) (by rw [c11]; decide) (by rw [c11]; rfl) (by decide) ?_
        refine r_aload_n (x := 0) dX11_cup_82 rfl ?_
        refine r_getfield (o := 0) (v := .ref 5) dX11_cup_83 lX11_29 ck0 nC0 rfl ?_
        refine r_getfield (o := 5) (v := .ref (S5.2.2 5 3)) dX11_cup_86 lX11_92 ck5 nC5 rfl ?_
        refine r_topr (fun o12 ho12 => ?_)
        replace h := lt_e ho12 h
        obtain ⟨g13, h⟩ := gd_e h
        refine r_getfield (o := o12) (v := .ref (sr o12 0)) dX11_cup_89 lX11_165 g13.1 g13.2 rfl ?_
        refine r_iload_n (x := p0) dX11_cup_92 rfl ?_
        obtain ⟨g14, h⟩ := gd_e h
        obtain ⟨g15, h⟩ := gd_e h
        refine r_iaload (a := (sr o12 0)) dX11_cup_93 g14.1 g14.2 (inr_IX g15) ?_
        cases h
        exact r_ireturn dX11_cup_94 rfl (by decide) ⟨rfl, rfl⟩
      rw [if_neg c11] at h
      by_cases c16 : p1 = 3
      · rw [if_pos c16] at h
        refine r_tableIn (tgt := 95) dX11_cup_20 (by rw [c16]; decide) (by rw [c16]; decide) (by rw [c16]; rfl) (by decide) ?_
        refine r_aload_n (x := 18) dX11_cup_95 rfl ?_
        refine r_iload_n (x := p0) dX11_cup_96 rfl ?_
        refine r_iconst (v := 0) dX11_cup_97 rfl ?_
        obtain ⟨x17, S18, h19, h⟩ := bI_e h
        refine r_cVI (y := mX2_intoOfDrop) (As := [.int p0, .int 0]) (rest := []) dX11_cup_98 qX11_168 kX2_intoOfDrop rfl ob18 vc2 rfl (okX2_intoOfDrop N 18 p0 0 S5 x17 S18 h19) (by decide) (by decide) rfl (Nat.le_of_ble_eq_true rfl) ?_
        cases h
        exact r_ireturn dX11_cup_101 rfl (by decide) ⟨rfl, rfl⟩
      rw [if_neg c16] at h
      by_cases c20 : p1 = 4
      · rw [if_pos c20] at h
        refine r_tableIn (tgt := 102) dX11_cup_20 (by rw [c20]; decide) (by rw [c20]; decide) (by rw [c20]; rfl) (by decide) ?_
        refine r_aload_n (x := 18) dX11_cup_102 rfl ?_
        refine r_iload_n (x := p0) dX11_cup_103 rfl ?_
        refine r_iconst (v := 1) dX11_cup_104 rfl ?_
        obtain ⟨x21, S22, h23, h⟩ := bI_e h
        refine r_cVI (y := mX2_intoOfDrop) (As := [.int p0, .int 1]) (rest := []) dX11_cup_105 qX11_168 kX2_intoOfDrop rfl ob18 vc2 rfl (okX2_intoOfDrop N 18 p0 1 S5 x21 S22 h23) (by decide) (by decide) rfl (Nat.le_of_ble_eq_true rfl) ?_
        cases h
        exact r_ireturn dX11_cup_108 rfl (by decide) ⟨rfl, rfl⟩
      rw [if_neg c20] at h
      by_cases c24 : p1 = 5
      · rw [if_pos c24] at h
        refine r_tableIn (tgt := 109) dX11_cup_20 (by rw [c24]; decide) (by rw [c24]; decide) (by rw [c24]; rfl) (by decide) ?_
        refine r_aload_n (x := 18) dX11_cup_109 rfl ?_
        refine r_getfield (o := 18) (v := .ref 54) dX11_cup_110 lX11_172 ck18 nC18 rfl ?_
        refine r_iload_n (x := p0) dX11_cup_113 rfl ?_
        obtain ⟨g25, h⟩ := gd_e h
        refine r_iaload (a := 54) dX11_cup_114 ck54 nC54 (inr_IX g25) ?_
        cases h
        exact r_ireturn dX11_cup_115 rfl (by decide) ⟨rfl, rfl⟩
      rw [if_neg c24] at h
      by_cases c26 : p1 = 6
      · rw [if_pos c26] at h
        refine r_tableIn (tgt := 116) dX11_cup_20 (by rw [c26]; decide) (by rw [c26]; decide) (by rw [c26]; rfl) (by decide) ?_
        refine r_aload_n (x := 18) dX11_cup_116 rfl ?_
        refine r_iload_n (x := p0) dX11_cup_117 rfl ?_
        obtain ⟨x27, S28, h29, h⟩ := bI_e h
        refine r_cVI (y := mX2_isPlugged) (As := [.int p0]) (rest := []) dX11_cup_118 qX11_175 kX2_isPlugged rfl ob18 vc2 rfl (okX2_isPlugged N 18 p0 S5 x27 S28 h29) (by decide) (by decide) rfl (Nat.le_of_ble_eq_true rfl) ?_
        obtain ⟨x31, hx31⟩ : ∃ y : Int32, y = ((if x27 = 0 then 0 else 1) : Int32) := ⟨_, rfl⟩
        replace h := lt_e hx31 h
        have keyx31 : WP [] mX11_cup 7 8 (qE r T) 129 [some (.ref 0), some (.int p0), some (.int p1), some (.ref 18)] (.int x31 :: []) S28 2 := by
          cases h
          exact r_ireturn dX11_cup_129 rfl (by decide) ⟨rfl, rfl⟩
        refine r_if_eq (tgt := 128) dX11_cup_121 (by decide) (fun c30 => ?_) (fun c30 => ?_)
        · refine r_iconst (v := 0) dX11_cup_128 rfl ?_
          exact r_tope (by rw [hx31, if_pos c30]) keyx31
        · refine r_iconst (v := 1) dX11_cup_124 rfl ?_
          refine r_goto (tgt := 129) dX11_cup_125 (by decide) ?_
          exact r_tope (by rw [hx31, if_neg c30]) keyx31
      rw [if_neg c26] at h
      by_cases c32 : p1 = 7
      · rw [if_pos c32] at h
        refine r_tableIn (tgt := 130) dX11_cup_20 (by rw [c32]; decide) (by rw [c32]; decide) (by rw [c32]; rfl) (by decide) ?_
        refine r_aload_n (x := 18) dX11_cup_130 rfl ?_
        refine r_iload_n (x := p0) dX11_cup_131 rfl ?_
        obtain ⟨x33, S34, h35, h⟩ := bI_e h
        refine r_cVI (y := mX2_deepest) (As := [.int p0]) (rest := []) dX11_cup_132 qX11_179 kX2_deepest rfl ob18 vc2 rfl (okX2_deepest N 18 p0 S5 x33 S34 h35) (by decide) (by decide) rfl (Nat.le_of_ble_eq_true rfl) ?_
        cases h
        exact r_ireturn dX11_cup_135 rfl (by decide) ⟨rfl, rfl⟩
      rw [if_neg c32] at h
      refine r_tableOut (tgt := 136) dX11_cup_20 (by have nc7 := lv_neT c7 (a := 0) rfl; have nc9 := lv_neT c9 (a := 1) rfl; have nc11 := lv_neT c11 (a := 2) rfl; have nc16 := lv_neT c16 (a := 3) rfl; have nc20 := lv_neT c20 (a := 4) rfl; have nc24 := lv_neT c24 (a := 5) rfl; have nc26 := lv_neT c26 (a := 6) rfl; have nc32 := lv_neT c32 (a := 7) rfl; omega) (by decide) ?_
      refine r_aload_n (x := 18) dX11_cup_136 rfl ?_
      refine r_getfield (o := 18) (v := .ref 50) dX11_cup_137 lX11_159 ck18 nC18 rfl ?_
      refine r_iload_n (x := p0) dX11_cup_140 rfl ?_
      obtain ⟨g36, h⟩ := gd_e h
      refine r_iaload (a := 50) dX11_cup_141 ck50 nC50 (inr_IX g36) ?_
      refine r_aload_n (x := 18) dX11_cup_142 rfl ?_
      refine r_getfield (o := 18) (v := .ref 51) dX11_cup_143 lX11_162 ck18 nC18 rfl ?_
      refine r_iload_n (x := p0) dX11_cup_146 rfl ?_
      obtain ⟨g37, h⟩ := gd_e h
      refine r_iaload (a := 51) dX11_cup_147 ck51 nC51 (inr_IX g37) ?_
      refine r_isub dX11_cup_148 ?_
      cases h
      exact r_ireturn dX11_cup_149 rfl (by decide) ⟨rfl, rfl⟩
    · cases kx4 Ex4 ex4
      exact ⟨rfl, rfl⟩
  · cases kx1 Ex1 ex1
    exact ⟨rfl, rfl⟩
def fX11_lead (N : Nat) (p0 : Int32) (p1 : Int32) (S : PS) : Option ((Int32 ⊕ String) × PS) :=
  bU (fX11_needCup N p0 S) fun S2 =>
  (if p1 = (-1) then
    bI (fX2_leadsJust N 18 p0 p1 S2) fun x5 S6 =>
    (if x5 = 0 then
      (if p1 = (-1) then
        bV (fX0_keep N 8 18 S6) fun S14 =>
        bV (fX2_setInto N 18 p0 p1 S14) fun S17 =>
        some (.inl 1, S17)
      else
        (if p0 < p1 then
          bV (fX0_keep N 8 18 S6) fun S21 =>
          bV (fX2_setInto N 18 p0 p1 S21) fun S24 =>
          some (.inl 1, S24)
        else
          bI (fX11_refuseAct N  S6) fun x26 S27 =>
          some (.inl 0, S27)))
    else
      bI (fX11_refuseAct N  S6) fun x9 S10 =>
      some (.inl 0, S10))
  else
    bU (fX11_needCup N p1 S2) fun S30 =>
    bI (fX2_leadsJust N 18 p0 p1 S30) fun x32 S33 =>
    (if x32 = 0 then
      (if p1 = (-1) then
        bV (fX0_keep N 8 18 S33) fun S41 =>
        bV (fX2_setInto N 18 p0 p1 S41) fun S44 =>
        some (.inl 1, S44)
      else
        (if p0 < p1 then
          bV (fX0_keep N 8 18 S33) fun S48 =>
          bV (fX2_setInto N 18 p0 p1 S48) fun S51 =>
          some (.inl 1, S51)
        else
          bI (fX11_refuseAct N  S33) fun x53 S54 =>
          some (.inl 0, S54)))
    else
      bI (fX11_refuseAct N  S33) fun x36 S37 =>
      some (.inl 0, S37)))
set_option maxHeartbeats 4000000 in
set_option maxRecDepth 100000 in
theorem okX11_lead (N : Nat) (p0 : Int32) (p1 : Int32) (S : PS) (r : Int32 ⊕ String) (T : PS) (h : fX11_lead N p0 p1 S = some (r, T)) : CT mX11_lead 7 8 [.ref 0, .int p0, .int p1] S (qE r T) := by
  refine ct_of [some (.ref 0), some (.int p0), some (.int p1)] rfl (fun _ => rfl) (fun _ => Nat.le_of_ble_eq_true rfl) ?_
  unfold fX11_lead at h
  refine r_aload_n (x := 0) dX11_lead_0 rfl ?_
  refine r_iload_n (x := p0) dX11_lead_1 rfl ?_
  obtain ⟨x1, S2, h3, hx1, kx1⟩ := bU_e h
  refine r_cVU (y := mX11_needCup) (As := [.int p0]) (rest := []) dX11_lead_2 qX11_156 kX11_needCup rfl ob0 vc11 rfl (okX11_needCup N p0 S x1 S2 h3) (by decide) (by decide) rfl (Nat.le_of_ble_eq_true rfl) (fun ex1 => ?_) (fun Ex1 ex1 => ?_)
  · replace h := hx1 ex1
    refine r_iload_n (x := p1) dX11_lead_5 rfl ?_
    refine r_iconst (v := (-1)) dX11_lead_6 rfl ?_
    refine r_icmp_eq (tgt := 15) dX11_lead_7 (by decide) (fun c4 => ?_) (fun c4 => ?_)
    · rw [if_pos c4] at h
      refine r_aload_n (x := 0) dX11_lead_15 rfl ?_
      refine r_getfield (o := 0) (v := .ref 3) dX11_lead_16 lX11_19 ck0 nC0 rfl ?_
      refine r_getfield (o := 3) (v := .ref 18) dX11_lead_19 lX11_116 ck3 nC3 rfl ?_
      refine r_iload_n (x := p0) dX11_lead_22 rfl ?_
      refine r_iload_n (x := p1) dX11_lead_23 rfl ?_
      obtain ⟨x5, S6, h7, h⟩ := bI_e h
      refine r_cVI (y := mX2_leadsJust) (As := [.int p0, .int p1]) (rest := []) dX11_lead_24 qX11_194 kX2_leadsJust rfl ob18 vc2 rfl (okX2_leadsJust N 18 p0 p1 S2 x5 S6 h7) (by decide) (by decide) rfl (Nat.le_of_ble_eq_true rfl) ?_
      refine r_if_ne (tgt := 40) dX11_lead_27 (by decide) (fun c8 => ?_) (fun c8 => ?_)
      · rw [if_neg c8] at h
        refine r_aload_n (x := 0) dX11_lead_40 rfl ?_
        obtain ⟨x9, S10, h11, h⟩ := bI_e h
        refine r_cVI (y := mX11_refuseAct) (As := []) (rest := []) dX11_lead_41 qX11_182 kX11_refuseAct rfl ob0 vc11 rfl (okX11_refuseAct N  S6 x9 S10 h11) (by decide) (by decide) rfl (Nat.le_of_ble_eq_true rfl) ?_
        refine r_pop_int dX11_lead_44 ?_
        refine r_iconst (v := 0) dX11_lead_45 rfl ?_
        cases h
        exact r_zreturn dX11_lead_46 rfl rfl (by decide) ⟨rfl, rfl⟩
      · rw [if_pos c8] at h
        refine r_iload_n (x := p1) dX11_lead_30 rfl ?_
        refine r_iconst (v := (-1)) dX11_lead_31 rfl ?_
        refine r_icmp_eq (tgt := 47) dX11_lead_32 (by decide) (fun c12 => ?_) (fun c12 => ?_)
        · rw [if_pos c12] at h
          refine r_aload_n (x := 0) dX11_lead_47 rfl ?_
          refine r_getfield (o := 0) (v := .ref 3) dX11_lead_48 lX11_19 ck0 nC0 rfl ?_
          refine r_getfield (o := 3) (v := .ref 8) dX11_lead_51 lX11_139 ck3 nC3 rfl ?_
          refine r_aload_n (x := 0) dX11_lead_54 rfl ?_
          refine r_getfield (o := 0) (v := .ref 3) dX11_lead_55 lX11_19 ck0 nC0 rfl ?_
          refine r_getfield (o := 3) (v := .ref 18) dX11_lead_58 lX11_116 ck3 nC3 rfl ?_
          obtain ⟨S14, h15, h⟩ := bV_e h
          refine r_cVV (y := mX0_keep) (As := [.ref 18]) (rest := []) dX11_lead_61 qX11_185 kX0_keep rfl ob8 vc0 rfl (okX0_keep N 8 18 S6 S14 h15) (by decide) (by decide) rfl (Nat.le_of_ble_eq_true rfl) ?_
          refine r_aload_n (x := 0) dX11_lead_64 rfl ?_
          refine r_getfield (o := 0) (v := .ref 3) dX11_lead_65 lX11_19 ck0 nC0 rfl ?_
          refine r_getfield (o := 3) (v := .ref 18) dX11_lead_68 lX11_116 ck3 nC3 rfl ?_
          refine r_iload_n (x := p0) dX11_lead_71 rfl ?_
          refine r_iload_n (x := p1) dX11_lead_72 rfl ?_
          obtain ⟨S17, h18, h⟩ := bV_e h
          refine r_cVV (y := mX2_setInto) (As := [.int p0, .int p1]) (rest := []) dX11_lead_73 qX11_198 kX2_setInto rfl ob18 vc2 rfl (okX2_setInto N 18 p0 p1 S14 S17 h18) (by decide) (by decide) rfl (Nat.le_of_ble_eq_true rfl) ?_
          refine r_iconst (v := 1) dX11_lead_76 rfl ?_
          cases h
          exact r_zreturn dX11_lead_77 rfl rfl (by decide) ⟨rfl, rfl⟩
        · rw [if_neg c12] at h
          refine r_iload_n (x := p1) dX11_lead_35 rfl ?_
          refine r_iload_n (x := p0) dX11_lead_36 rfl ?_
          refine r_icmp_gt (tgt := 47) dX11_lead_37 (by decide) (fun c19 => ?_) (fun c19 => ?_)
          · rw [if_pos c19] at h
            refine r_aload_n (x := 0) dX11_lead_47 rfl ?_
            refine r_getfield (o := 0) (v := .ref 3) dX11_lead_48 lX11_19 ck0 nC0 rfl ?_
            refine r_getfield (o := 3) (v := .ref 8) dX11_lead_51 lX11_139 ck3 nC3 rfl ?_
            refine r_aload_n (x := 0) dX11_lead_54 rfl ?_
            refine r_getfield (o := 0) (v := .ref 3) dX11_lead_55 lX11_19 ck0 nC0 rfl ?_
            refine r_getfield (o := 3) (v := .ref 18) dX11_lead_58 lX11_116 ck3 nC3 rfl ?_
            obtain ⟨S21, h22, h⟩ := bV_e h
            refine r_cVV (y := mX0_keep) (As := [.ref 18]) (rest := []) dX11_lead_61 qX11_185 kX0_keep rfl ob8 vc0 rfl (okX0_keep N 8 18 S6 S21 h22) (by decide) (by decide) rfl (Nat.le_of_ble_eq_true rfl) ?_
            refine r_aload_n (x := 0) dX11_lead_64 rfl ?_
            refine r_getfield (o := 0) (v := .ref 3) dX11_lead_65 lX11_19 ck0 nC0 rfl ?_
            refine r_getfield (o := 3) (v := .ref 18) dX11_lead_68 lX11_116 ck3 nC3 rfl ?_
            refine r_iload_n (x := p0) dX11_lead_71 rfl ?_
            refine r_iload_n (x := p1) dX11_lead_72 rfl ?_
            obtain ⟨S24, h25, h⟩ := bV_e h
            refine r_cVV (y := mX2_setInto) (As := [.int p0, .int p1]) (rest := []) dX11_lead_73 qX11_198 kX2_setInto rfl ob18 vc2 rfl (okX2_setInto N 18 p0 p1 S21 S24 h25) (by decide) (by decide) rfl (Nat.le_of_ble_eq_true rfl) ?_
            refine r_iconst (v := 1) dX11_lead_76 rfl ?_
            cases h
            exact r_zreturn dX11_lead_77 rfl rfl (by decide) ⟨rfl, rfl⟩
          · rw [if_neg c19] at h
            refine r_aload_n (x := 0) dX11_lead_40 rfl ?_
            obtain ⟨x26, S27, h28, h⟩ := bI_e h
            refine r_cVI (y := mX11_refuseAct) (As := []) (rest := []) dX11_lead_41 qX11_182 kX11_refuseAct rfl ob0 vc11 rfl (okX11_refuseAct N  S6 x26 S27 h28) (by decide) (by decide) rfl (Nat.le_of_ble_eq_true rfl) ?_
            refine r_pop_int dX11_lead_44 ?_
            refine r_iconst (v := 0) dX11_lead_45 rfl ?_
            cases h
            exact r_zreturn dX11_lead_46 rfl rfl (by decide) ⟨rfl, rfl⟩
    · rw [if_neg c4] at h
      refine r_aload_n (x := 0) dX11_lead_10 rfl ?_
      refine r_iload_n (x := p1) dX11_lead_11 rfl ?_
      obtain ⟨x29, S30, h31, hx29, kx29⟩ := bU_e h
      refine r_cVU (y := mX11_needCup) (As := [.int p1]) (rest := []) dX11_lead_12 qX11_156 kX11_needCup rfl ob0 vc11 rfl (okX11_needCup N p1 S2 x29 S30 h31) (by decide) (by decide) rfl (Nat.le_of_ble_eq_true rfl) (fun ex29 => ?_) (fun Ex29 ex29 => ?_)
      · replace h := hx29 ex29
        refine r_aload_n (x := 0) dX11_lead_15 rfl ?_
        refine r_getfield (o := 0) (v := .ref 3) dX11_lead_16 lX11_19 ck0 nC0 rfl ?_
        refine r_getfield (o := 3) (v := .ref 18) dX11_lead_19 lX11_116 ck3 nC3 rfl ?_
        refine r_iload_n (x := p0) dX11_lead_22 rfl ?_
        refine r_iload_n (x := p1) dX11_lead_23 rfl ?_
        obtain ⟨x32, S33, h34, h⟩ := bI_e h
        refine r_cVI (y := mX2_leadsJust) (As := [.int p0, .int p1]) (rest := []) dX11_lead_24 qX11_194 kX2_leadsJust rfl ob18 vc2 rfl (okX2_leadsJust N 18 p0 p1 S30 x32 S33 h34) (by decide) (by decide) rfl (Nat.le_of_ble_eq_true rfl) ?_
        refine r_if_ne (tgt := 40) dX11_lead_27 (by decide) (fun c35 => ?_) (fun c35 => ?_)
        · rw [if_neg c35] at h
          refine r_aload_n (x := 0) dX11_lead_40 rfl ?_
          obtain ⟨x36, S37, h38, h⟩ := bI_e h
          refine r_cVI (y := mX11_refuseAct) (As := []) (rest := []) dX11_lead_41 qX11_182 kX11_refuseAct rfl ob0 vc11 rfl (okX11_refuseAct N  S33 x36 S37 h38) (by decide) (by decide) rfl (Nat.le_of_ble_eq_true rfl) ?_
          refine r_pop_int dX11_lead_44 ?_
          refine r_iconst (v := 0) dX11_lead_45 rfl ?_
          cases h
          exact r_zreturn dX11_lead_46 rfl rfl (by decide) ⟨rfl, rfl⟩
        · rw [if_pos c35] at h
          refine r_iload_n (x := p1) dX11_lead_30 rfl ?_
          refine r_iconst (v := (-1)) dX11_lead_31 rfl ?_
          refine r_icmp_eq (tgt := 47) dX11_lead_32 (by decide) (fun c39 => ?_) (fun c39 => ?_)
          · rw [if_pos c39] at h
            refine r_aload_n (x := 0) dX11_lead_47 rfl ?_
            refine r_getfield (o := 0) (v := .ref 3) dX11_lead_48 lX11_19 ck0 nC0 rfl ?_
            refine r_getfield (o := 3) (v := .ref 8) dX11_lead_51 lX11_139 ck3 nC3 rfl ?_
            refine r_aload_n (x := 0) dX11_lead_54 rfl ?_
            refine r_getfield (o := 0) (v := .ref 3) dX11_lead_55 lX11_19 ck0 nC0 rfl ?_
            refine r_getfield (o := 3) (v := .ref 18) dX11_lead_58 lX11_116 ck3 nC3 rfl ?_
            obtain ⟨S41, h42, h⟩ := bV_e h
            refine r_cVV (y := mX0_keep) (As := [.ref 18]) (rest := []) dX11_lead_61 qX11_185 kX0_keep rfl ob8 vc0 rfl (okX0_keep N 8 18 S33 S41 h42) (by decide) (by decide) rfl (Nat.le_of_ble_eq_true rfl) ?_
            refine r_aload_n (x := 0) dX11_lead_64 rfl ?_
            refine r_getfield (o := 0) (v := .ref 3) dX11_lead_65 lX11_19 ck0 nC0 rfl ?_
            refine r_getfield (o := 3) (v := .ref 18) dX11_lead_68 lX11_116 ck3 nC3 rfl ?_
            refine r_iload_n (x := p0) dX11_lead_71 rfl ?_
            refine r_iload_n (x := p1) dX11_lead_72 rfl ?_
            obtain ⟨S44, h45, h⟩ := bV_e h
            refine r_cVV (y := mX2_setInto) (As := [.int p0, .int p1]) (rest := []) dX11_lead_73 qX11_198 kX2_setInto rfl ob18 vc2 rfl (okX2_setInto N 18 p0 p1 S41 S44 h45) (by decide) (by decide) rfl (Nat.le_of_ble_eq_true rfl) ?_
            refine r_iconst (v := 1) dX11_lead_76 rfl ?_
            cases h
            exact r_zreturn dX11_lead_77 rfl rfl (by decide) ⟨rfl, rfl⟩
          · rw [if_neg c39] at h
            refine r_iload_n (x := p1) dX11_lead_35 rfl ?_
            refine r_iload_n (x := p0) dX11_lead_36 rfl ?_
            refine r_icmp_gt (tgt := 47) dX11_lead_37 (by decide) (fun c46 => ?_) (fun c46 => ?_)
            · rw [if_pos c46] at h
              refine r_aload_n (x := 0) dX11_lead_47 rfl ?_
              refine r_getfield (o := 0) (v := .ref 3) dX11_lead_48 lX11_19 ck0 nC0 rfl ?_
              refine r_getfield (o := 3) (v := .ref 8) dX11_lead_51 lX11_139 ck3 nC3 rfl ?_
              refine r_aload_n (x := 0) dX11_lead_54 rfl ?_
              refine r_getfield (o := 0) (v := .ref 3) dX11_lead_55 lX11_19 ck0 nC0 rfl ?_
              refine r_getfield (o := 3) (v := .ref 18) dX11_lead_58 lX11_116 ck3 nC3 rfl ?_
              obtain ⟨S48, h49, h⟩ := bV_e h
              refine r_cVV (y := mX0_keep) (As := [.ref 18]) (rest := []) dX11_lead_61 qX11_185 kX0_keep rfl ob8 vc0 rfl (okX0_keep N 8 18 S33 S48 h49) (by decide) (by decide) rfl (Nat.le_of_ble_eq_true rfl) ?_
              refine r_aload_n (x := 0) dX11_lead_64 rfl ?_
              refine r_getfield (o := 0) (v := .ref 3) dX11_lead_65 lX11_19 ck0 nC0 rfl ?_
              refine r_getfield (o := 3) (v := .ref 18) dX11_lead_68 lX11_116 ck3 nC3 rfl ?_
              refine r_iload_n (x := p0) dX11_lead_71 rfl ?_
              refine r_iload_n (x := p1) dX11_lead_72 rfl ?_
              obtain ⟨S51, h52, h⟩ := bV_e h
              refine r_cVV (y := mX2_setInto) (As := [.int p0, .int p1]) (rest := []) dX11_lead_73 qX11_198 kX2_setInto rfl ob18 vc2 rfl (okX2_setInto N 18 p0 p1 S48 S51 h52) (by decide) (by decide) rfl (Nat.le_of_ble_eq_true rfl) ?_
              refine r_iconst (v := 1) dX11_lead_76 rfl ?_
              cases h
              exact r_zreturn dX11_lead_77 rfl rfl (by decide) ⟨rfl, rfl⟩
            · rw [if_neg c46] at h
              refine r_aload_n (x := 0) dX11_lead_40 rfl ?_
              obtain ⟨x53, S54, h55, h⟩ := bI_e h
              refine r_cVI (y := mX11_refuseAct) (As := []) (rest := []) dX11_lead_41 qX11_182 kX11_refuseAct rfl ob0 vc11 rfl (okX11_refuseAct N  S33 x53 S54 h55) (by decide) (by decide) rfl (Nat.le_of_ble_eq_true rfl) ?_
              refine r_pop_int dX11_lead_44 ?_
              refine r_iconst (v := 0) dX11_lead_45 rfl ?_
              cases h
              exact r_zreturn dX11_lead_46 rfl rfl (by decide) ⟨rfl, rfl⟩
      · cases kx29 Ex29 ex29
        exact ⟨rfl, rfl⟩
  · cases kx1 Ex1 ex1
    exact ⟨rfl, rfl⟩
def fX11_plug (N : Nat) (p0 : Int32) (p1 : Int32) (S : PS) : Option ((Int32 ⊕ String) × PS) :=
  bU (fX11_needCup N p0 S) fun S2 =>
  bI (fX2_isPlugged N 18 p0 S2) fun x4 S5 =>
  (if x4 = p1 then
    bI (fX11_refuseAct N  S5) fun x14 S15 =>
    some (.inl 0, S15)
  else
    bV (fX0_keep N 8 18 S5) fun S9 =>
    bV (fX2_setPlugged N 18 p0 p1 S9) fun S12 =>
    some (.inl 1, S12))
set_option maxHeartbeats 4000000 in
set_option maxRecDepth 100000 in
theorem okX11_plug (N : Nat) (p0 : Int32) (p1 : Int32) (S : PS) (r : Int32 ⊕ String) (T : PS) (h : fX11_plug N p0 p1 S = some (r, T)) : CT mX11_plug 7 8 [.ref 0, .int p0, .int p1] S (qE r T) := by
  refine ct_of [some (.ref 0), some (.int p0), some (.int p1)] rfl (fun _ => rfl) (fun _ => Nat.le_of_ble_eq_true rfl) ?_
  unfold fX11_plug at h
  refine r_aload_n (x := 0) dX11_plug_0 rfl ?_
  refine r_iload_n (x := p0) dX11_plug_1 rfl ?_
  obtain ⟨x1, S2, h3, hx1, kx1⟩ := bU_e h
  refine r_cVU (y := mX11_needCup) (As := [.int p0]) (rest := []) dX11_plug_2 qX11_156 kX11_needCup rfl ob0 vc11 rfl (okX11_needCup N p0 S x1 S2 h3) (by decide) (by decide) rfl (Nat.le_of_ble_eq_true rfl) (fun ex1 => ?_) (fun Ex1 ex1 => ?_)
  · replace h := hx1 ex1
    refine r_aload_n (x := 0) dX11_plug_5 rfl ?_
    refine r_getfield (o := 0) (v := .ref 3) dX11_plug_6 lX11_19 ck0 nC0 rfl ?_
    refine r_getfield (o := 3) (v := .ref 18) dX11_plug_9 lX11_116 ck3 nC3 rfl ?_
    refine r_iload_n (x := p0) dX11_plug_12 rfl ?_
    obtain ⟨x4, S5, h6, h⟩ := bI_e h
    refine r_cVI (y := mX2_isPlugged) (As := [.int p0]) (rest := []) dX11_plug_13 qX11_175 kX2_isPlugged rfl ob18 vc2 rfl (okX2_isPlugged N 18 p0 S2 x4 S5 h6) (by decide) (by decide) rfl (Nat.le_of_ble_eq_true rfl) ?_
    refine r_iload_n (x := p1) dX11_plug_16 rfl ?_
    refine r_icmp_ne (tgt := 27) dX11_plug_17 (by decide) (fun c7 => ?_) (fun c7 => ?_)
    · rw [if_neg c7] at h
      refine r_aload_n (x := 0) dX11_plug_27 rfl ?_
      refine r_getfield (o := 0) (v := .ref 3) dX11_plug_28 lX11_19 ck0 nC0 rfl ?_
      refine r_getfield (o := 3) (v := .ref 8) dX11_plug_31 lX11_139 ck3 nC3 rfl ?_
      refine r_aload_n (x := 0) dX11_plug_34 rfl ?_
      refine r_getfield (o := 0) (v := .ref 3) dX11_plug_35 lX11_19 ck0 nC0 rfl ?_
      refine r_getfield (o := 3) (v := .ref 18) dX11_plug_38 lX11_116 ck3 nC3 rfl ?_
      obtain ⟨S9, h10, h⟩ := bV_e h
      refine r_cVV (y := mX0_keep) (As := [.ref 18]) (rest := []) dX11_plug_41 qX11_185 kX0_keep rfl ob8 vc0 rfl (okX0_keep N 8 18 S5 S9 h10) (by decide) (by decide) rfl (Nat.le_of_ble_eq_true rfl) ?_
      refine r_aload_n (x := 0) dX11_plug_44 rfl ?_
      refine r_getfield (o := 0) (v := .ref 3) dX11_plug_45 lX11_19 ck0 nC0 rfl ?_
      refine r_getfield (o := 3) (v := .ref 18) dX11_plug_48 lX11_116 ck3 nC3 rfl ?_
      refine r_iload_n (x := p0) dX11_plug_51 rfl ?_
      refine r_iload_n (x := p1) dX11_plug_52 rfl ?_
      obtain ⟨S12, h13, h⟩ := bV_e h
      refine r_cVV (y := mX2_setPlugged) (As := [.int p0, .int p1]) (rest := []) dX11_plug_53 qX11_201 kX2_setPlugged rfl ob18 vc2 rfl (okX2_setPlugged N 18 p0 p1 S9 S12 h13) (by decide) (by decide) rfl (Nat.le_of_ble_eq_true rfl) ?_
      refine r_iconst (v := 1) dX11_plug_56 rfl ?_
      cases h
      exact r_zreturn dX11_plug_57 rfl rfl (by decide) ⟨rfl, rfl⟩
    · rw [if_pos c7] at h
      refine r_aload_n (x := 0) dX11_plug_20 rfl ?_
      obtain ⟨x14, S15, h16, h⟩ := bI_e h
      refine r_cVI (y := mX11_refuseAct) (As := []) (rest := []) dX11_plug_21 qX11_182 kX11_refuseAct rfl ob0 vc11 rfl (okX11_refuseAct N  S5 x14 S15 h16) (by decide) (by decide) rfl (Nat.le_of_ble_eq_true rfl) ?_
      refine r_pop_int dX11_plug_24 ?_
      refine r_iconst (v := 0) dX11_plug_25 rfl ?_
      cases h
      exact r_zreturn dX11_plug_26 rfl rfl (by decide) ⟨rfl, rfl⟩
  · cases kx1 Ex1 ex1
    exact ⟨rfl, rfl⟩
def fX11_crack (N : Nat) (p0 : Int32) (p1 : Int32) (S : PS) : Option ((Int32 ⊕ String) × PS) :=
  bU (fX11_needCup N p0 S) fun S2 =>
  gd (inr p0 9) <|
  lt ((S2.1 50 (ix p0)) : Int32) fun x5 =>
  (if p1 < 1 then
    bI (fX11_refuseAct N  S2) fun x7 S8 =>
    some (.inl x7, S8)
  else
    (if 30 < p1 then
      bI (fX11_refuseAct N  S2) fun x11 S12 =>
      some (.inl x11, S12)
    else
      (if p1 = x5 then
        bI (fX11_refuseAct N  S2) fun x21 S22 =>
        some (.inl x21, S22)
      else
        bV (fX0_keep N 8 18 S2) fun S16 =>
        bV (fX2_setHolds N 18 p0 p1 S16) fun S19 =>
        some (.inl x5, S19))))
set_option maxHeartbeats 4000000 in
set_option maxRecDepth 100000 in
theorem okX11_crack (N : Nat) (p0 : Int32) (p1 : Int32) (S : PS) (r : Int32 ⊕ String) (T : PS) (h : fX11_crack N p0 p1 S = some (r, T)) : CT mX11_crack 7 8 [.ref 0, .int p0, .int p1] S (qE r T) := by
  refine ct_of [some (.ref 0), some (.int p0), some (.int p1), none] rfl (fun _ => rfl) (fun _ => Nat.le_of_ble_eq_true rfl) ?_
  unfold fX11_crack at h
  refine r_aload_n (x := 0) dX11_crack_0 rfl ?_
  refine r_iload_n (x := p0) dX11_crack_1 rfl ?_
  obtain ⟨x1, S2, h3, hx1, kx1⟩ := bU_e h
  refine r_cVU (y := mX11_needCup) (As := [.int p0]) (rest := []) dX11_crack_2 qX11_156 kX11_needCup rfl ob0 vc11 rfl (okX11_needCup N p0 S x1 S2 h3) (by decide) (by decide) rfl (Nat.le_of_ble_eq_true rfl) (fun ex1 => ?_) (fun Ex1 ex1 => ?_)
  · replace h := hx1 ex1
    refine r_aload_n (x := 0) dX11_crack_5 rfl ?_
    refine r_getfield (o := 0) (v := .ref 3) dX11_crack_6 lX11_19 ck0 nC0 rfl ?_
    refine r_getfield (o := 3) (v := .ref 18) dX11_crack_9 lX11_116 ck3 nC3 rfl ?_
    refine r_getfield (o := 18) (v := .ref 50) dX11_crack_12 lX11_159 ck18 nC18 rfl ?_
    refine r_iload_n (x := p0) dX11_crack_15 rfl ?_
    obtain ⟨g4, h⟩ := gd_e h
    refine r_iaload (a := 50) dX11_crack_16 ck50 nC50 (inr_IX g4) ?_
    refine r_topi (fun x5 hx5 => ?_)
    replace h := lt_e hx5 h
    refine r_istore_n (L' := [some (.ref 0), some (.int p0), some (.int p1), some (.int x5)]) dX11_crack_17 (Nat.le_of_ble_eq_true rfl) rfl rfl ?_
    refine r_iload_n (x := p1) dX11_crack_18 rfl ?_
    refine r_iconst (v := 1) dX11_crack_19 rfl ?_
    refine r_icmp_lt (tgt := 34) dX11_crack_20 (by decide) (fun c6 => ?_) (fun c6 => ?_)
    · rw [if_pos c6] at h
      refine r_aload_n (x := 0) dX11_crack_34 rfl ?_
      obtain ⟨x7, S8, h9, h⟩ := bI_e h
      refine r_cVI (y := mX11_refuseAct) (As := []) (rest := []) dX11_crack_35 qX11_182 kX11_refuseAct rfl ob0 vc11 rfl (okX11_refuseAct N  S2 x7 S8 h9) (by decide) (by decide) rfl (Nat.le_of_ble_eq_true rfl) ?_
      cases h
      exact r_ireturn dX11_crack_38 rfl (by decide) ⟨rfl, rfl⟩
    · rw [if_neg c6] at h
      refine r_iload_n (x := p1) dX11_crack_23 rfl ?_
      refine r_bipush (v := 30) dX11_crack_24 rfl ?_
      refine r_icmp_gt (tgt := 34) dX11_crack_26 (by decide) (fun c10 => ?_) (fun c10 => ?_)
      · rw [if_pos c10] at h
        refine r_aload_n (x := 0) dX11_crack_34 rfl ?_
        obtain ⟨x11, S12, h13, h⟩ := bI_e h
        refine r_cVI (y := mX11_refuseAct) (As := []) (rest := []) dX11_crack_35 qX11_182 kX11_refuseAct rfl ob0 vc11 rfl (okX11_refuseAct N  S2 x11 S12 h13) (by decide) (by decide) rfl (Nat.le_of_ble_eq_true rfl) ?_
        cases h
        exact r_ireturn dX11_crack_38 rfl (by decide) ⟨rfl, rfl⟩
      · rw [if_neg c10] at h
        refine r_iload_n (x := p1) dX11_crack_29 rfl ?_
        refine r_iload_n (x := x5) dX11_crack_30 rfl ?_
        refine r_icmp_ne (tgt := 39) dX11_crack_31 (by decide) (fun c14 => ?_) (fun c14 => ?_)
        · rw [if_neg c14] at h
          refine r_aload_n (x := 0) dX11_crack_39 rfl ?_
          refine r_getfield (o := 0) (v := .ref 3) dX11_crack_40 lX11_19 ck0 nC0 rfl ?_
          refine r_getfield (o := 3) (v := .ref 8) dX11_crack_43 lX11_139 ck3 nC3 rfl ?_
          refine r_aload_n (x := 0) dX11_crack_46 rfl ?_
          refine r_getfield (o := 0) (v := .ref 3) dX11_crack_47 lX11_19 ck0 nC0 rfl ?_
          refine r_getfield (o := 3) (v := .ref 18) dX11_crack_50 lX11_116 ck3 nC3 rfl ?_
          obtain ⟨S16, h17, h⟩ := bV_e h
          refine r_cVV (y := mX0_keep) (As := [.ref 18]) (rest := []) dX11_crack_53 qX11_185 kX0_keep rfl ob8 vc0 rfl (okX0_keep N 8 18 S2 S16 h17) (by decide) (by decide) rfl (Nat.le_of_ble_eq_true rfl) ?_
          refine r_aload_n (x := 0) dX11_crack_56 rfl ?_
          refine r_getfield (o := 0) (v := .ref 3) dX11_crack_57 lX11_19 ck0 nC0 rfl ?_
          refine r_getfield (o := 3) (v := .ref 18) dX11_crack_60 lX11_116 ck3 nC3 rfl ?_
          refine r_iload_n (x := p0) dX11_crack_63 rfl ?_
          refine r_iload_n (x := p1) dX11_crack_64 rfl ?_
          obtain ⟨S19, h20, h⟩ := bV_e h
          refine r_cVV (y := mX2_setHolds) (As := [.int p0, .int p1]) (rest := []) dX11_crack_65 qX11_211 kX2_setHolds rfl ob18 vc2 rfl (okX2_setHolds N 18 p0 p1 S16 S19 h20) (by decide) (by decide) rfl (Nat.le_of_ble_eq_true rfl) ?_
          refine r_iload_n (x := x5) dX11_crack_68 rfl ?_
          cases h
          exact r_ireturn dX11_crack_69 rfl (by decide) ⟨rfl, rfl⟩
        · rw [if_pos c14] at h
          refine r_aload_n (x := 0) dX11_crack_34 rfl ?_
          obtain ⟨x21, S22, h23, h⟩ := bI_e h
          refine r_cVI (y := mX11_refuseAct) (As := []) (rest := []) dX11_crack_35 qX11_182 kX11_refuseAct rfl ob0 vc11 rfl (okX11_refuseAct N  S2 x21 S22 h23) (by decide) (by decide) rfl (Nat.le_of_ble_eq_true rfl) ?_
          cases h
          exact r_ireturn dX11_crack_38 rfl (by decide) ⟨rfl, rfl⟩
  · cases kx1 Ex1 ex1
    exact ⟨rfl, rfl⟩
def fX11_undo (N : Nat)  (S : PS) : Option (Int32 × PS) :=
  (if (S.1 8 1) = 0 then
    some ((-1), S)
  else
    bV (fX0_takeBack N 8 18 S) fun S3 =>
    some ((S3.1 8 1), S3))
set_option maxHeartbeats 4000000 in
set_option maxRecDepth 100000 in
theorem okX11_undo (N : Nat)  (S : PS) (r : Int32) (T : PS) (h : fX11_undo N  S = some (r, T)) : CT mX11_undo 5 0 [.ref 0] S (qI r T) := by
  refine ct_of [some (.ref 0)] rfl (fun _ => rfl) (fun _ => Nat.le_of_ble_eq_true rfl) ?_
  unfold fX11_undo at h
  refine r_aload_n (x := 0) dX11_undo_0 rfl ?_
  refine r_getfield (o := 0) (v := .ref 3) dX11_undo_1 lX11_19 ck0 nC0 rfl ?_
  refine r_getfield (o := 3) (v := .ref 8) dX11_undo_4 lX11_139 ck3 nC3 rfl ?_
  refine r_getfield (o := 8) (v := .int (S.1 8 1)) dX11_undo_7 lX11_143 ck8 nC8 rfl ?_
  refine r_if_ne (tgt := 15) dX11_undo_10 (by decide) (fun c1 => ?_) (fun c1 => ?_)
  · rw [if_neg c1] at h
    refine r_aload_n (x := 0) dX11_undo_15 rfl ?_
    refine r_getfield (o := 0) (v := .ref 3) dX11_undo_16 lX11_19 ck0 nC0 rfl ?_
    refine r_getfield (o := 3) (v := .ref 8) dX11_undo_19 lX11_139 ck3 nC3 rfl ?_
    refine r_aload_n (x := 0) dX11_undo_22 rfl ?_
    refine r_getfield (o := 0) (v := .ref 3) dX11_undo_23 lX11_19 ck0 nC0 rfl ?_
    refine r_getfield (o := 3) (v := .ref 18) dX11_undo_26 lX11_116 ck3 nC3 rfl ?_
    obtain ⟨S3, h4, h⟩ := bV_e h
    refine r_cVV (y := mX0_takeBack) (As := [.ref 18]) (rest := []) dX11_undo_29 qX11_214 kX0_takeBack rfl ob8 vc0 rfl (okX0_takeBack N 8 18 S S3 h4) (by decide) (Nat.zero_le _) rfl (Nat.le_of_ble_eq_true rfl) ?_
    refine r_aload_n (x := 0) dX11_undo_32 rfl ?_
    refine r_getfield (o := 0) (v := .ref 3) dX11_undo_33 lX11_19 ck0 nC0 rfl ?_
    refine r_getfield (o := 3) (v := .ref 8) dX11_undo_36 lX11_139 ck3 nC3 rfl ?_
    refine r_getfield (o := 8) (v := .int (S3.1 8 1)) dX11_undo_39 lX11_143 ck8 nC8 rfl ?_
    cases h
    exact r_ireturn dX11_undo_42 rfl (Nat.zero_le _) ⟨rfl, rfl⟩
  · rw [if_pos c1] at h
    refine r_iconst (v := (-1)) dX11_undo_13 rfl ?_
    cases h
    exact r_ireturn dX11_undo_14 rfl (Nat.zero_le _) ⟨rfl, rfl⟩
def fX11_fallen (N : Nat) (p0 : Int32) (p1 : Int32) (S : PS) : Option ((Int32 ⊕ String) × PS) :=
  bU (fX11_needCup N p0 S) fun S2 =>
  bU (fX11_needRange N p1 0 1000000 S2) fun S5 =>
  lt ((S5.2.2 5 3) : Nat) fun o7 =>
  bV (fX4_reckon N o7 18 p1 S5) fun S9 =>
  gd (inr p0 9) <|
  some (.inl (S9.1 30 (ix p0)), S9)
set_option maxHeartbeats 4000000 in
set_option maxRecDepth 100000 in
theorem okX11_fallen (N : Nat) (p0 : Int32) (p1 : Int32) (S : PS) (r : Int32 ⊕ String) (T : PS) (h : fX11_fallen N p0 p1 S = some (r, T)) : CT mX11_fallen 7 8 [.ref 0, .int p0, .int p1] S (qE r T) := by
  refine ct_of [some (.ref 0), some (.int p0), some (.int p1)] rfl (fun _ => rfl) (fun _ => Nat.le_of_ble_eq_true rfl) ?_
  unfold fX11_fallen at h
  refine r_aload_n (x := 0) dX11_fallen_0 rfl ?_
  refine r_iload_n (x := p0) dX11_fallen_1 rfl ?_
  obtain ⟨x1, S2, h3, hx1, kx1⟩ := bU_e h
  refine r_cVU (y := mX11_needCup) (As := [.int p0]) (rest := []) dX11_fallen_2 qX11_156 kX11_needCup rfl ob0 vc11 rfl (okX11_needCup N p0 S x1 S2 h3) (by decide) (by decide) rfl (Nat.le_of_ble_eq_true rfl) (fun ex1 => ?_) (fun Ex1 ex1 => ?_)
  · replace h := hx1 ex1
    refine r_iload_n (x := p1) dX11_fallen_5 rfl ?_
    refine r_iconst (v := 0) dX11_fallen_6 rfl ?_
    refine r_ldc (v := 1000000) dX11_fallen_7 kX11_236 ?_
    obtain ⟨x4, S5, h6, hx4, kx4⟩ := bU_e h
    refine r_cSU (y := mX11_needRange) (As := [.int p1, .int 0, .int 1000000]) (rest := []) dX11_fallen_9 qX11_81 kX11_needRange rfl (okX11_needRange N p1 0 1000000 S2 x4 S5 h6) (by decide) (by decide) rfl (Nat.le_of_ble_eq_true rfl) (fun ex4 => ?_) (fun Ex4 ex4 => ?_)
    · replace h := hx4 ex4
      refine r_aload_n (x := 0) dX11_fallen_12 rfl ?_
      refine r_getfield (o := 0) (v := .ref 6) dX11_fallen_13 lX11_36 ck0 nC0 rfl ?_
      refine r_aload_n (x := 0) dX11_fallen_16 rfl ?_
      refine r_getfield (o := 0) (v := .ref 5) dX11_fallen_17 lX11_29 ck0 nC0 rfl ?_
      refine r_getfield (o := 5) (v := .ref (S5.2.2 5 3)) dX11_fallen_20 lX11_92 ck5 nC5 rfl ?_
      refine r_topr (fun o7 ho7 => ?_)
      replace h := lt_e ho7 h
      refine r_aload_n (x := 0) dX11_fallen_23 rfl ?_
      refine r_getfield (o := 0) (v := .ref 3) dX11_fallen_24 lX11_19 ck0 nC0 rfl ?_
      refine r_getfield (o := 3) (v := .ref 18) dX11_fallen_27 lX11_116 ck3 nC3 rfl ?_
      refine r_iload_n (x := p1) dX11_fallen_30 rfl ?_
      obtain ⟨S9, h10, h⟩ := bV_e h
      refine r_cVV (y := mX4_reckon) (As := [.ref o7, .ref 18, .int p1]) (rest := []) dX11_fallen_31 qX11_237 kX4_reckon rfl ob6 vc4 rfl (okX4_reckon N o7 18 p1 S5 S9 h10) (by decide) (by decide) rfl (Nat.le_of_ble_eq_true rfl) ?_
      refine r_aload_n (x := 0) dX11_fallen_34 rfl ?_
      refine r_getfield (o := 0) (v := .ref 6) dX11_fallen_35 lX11_36 ck0 nC0 rfl ?_
      refine r_getfield (o := 6) (v := .ref 30) dX11_fallen_38 lX11_241 ck6 nC6 rfl ?_
      refine r_iload_n (x := p0) dX11_fallen_41 rfl ?_
      obtain ⟨g11, h⟩ := gd_e h
      refine r_iaload (a := 30) dX11_fallen_42 ck30 nC30 (inr_IX g11) ?_
      cases h
      exact r_ireturn dX11_fallen_43 rfl (by decide) ⟨rfl, rfl⟩
    · cases kx4 Ex4 ex4
      exact ⟨rfl, rfl⟩
  · cases kx1 Ex1 ex1
    exact ⟨rfl, rfl⟩
def fX11_nth_18 (N : Nat) (v1 : Int32) (v2 : Int32) : Nat → Int32 → Int32 → PS → Option (Int32 × Int32 × PS)
  | 0, _, _, _ => none
  | n + 1, v3, v4, S =>
    (if v4 ≤ 0 then
      some (v3, v4, S)
    else
      lt ((v3 + v4) : Int32) fun x8 =>
      (if 1000000 < x8 then
        lt ((v4 >>> ((1 : Int32) &&& 31)) : Int32) fun x10 =>
        fX11_nth_18 N v1 v2 n v3 x10 S
      else
        lt ((S.2.2 5 3) : Nat) fun o11 =>
        bV (fX4_reckon N o11 18 x8 S) fun S13 =>
        gd (inr v1 9) <|
        (if v2 ≤ (S13.1 30 (ix v1)) then
          lt ((v4 >>> ((1 : Int32) &&& 31)) : Int32) fun x17 =>
          fX11_nth_18 N v1 v2 n v3 x17 S13
        else
          lt ((v4 >>> ((1 : Int32) &&& 31)) : Int32) fun x18 =>
          fX11_nth_18 N v1 v2 n x8 x18 S13)))
set_option maxHeartbeats 4000000 in
set_option maxRecDepth 100000 in
theorem okX11_nth_18 (N : Nat) (v1 : Int32) (v2 : Int32) (Q : OQ) (u : Nat) (hu : u ≤ 8) : ∀ (n : Nat) (v3 : Int32) (v4 : Int32) (S : PS) (y3 : Int32) (y4 : Int32) (T : PS), fX11_nth_18 N v1 v2 n v3 v4 S = some (y3, y4, T) → WP [] mX11_nth 7 8 Q 84 [some (.ref 0), some (.int v1), some (.int v2), some (.int y3), some (.int y4), none] [] T u → WP [] mX11_nth 7 8 Q 18 [some (.ref 0), some (.int v1), some (.int v2), some (.int v3), some (.int v4), none] [] S u := by
  intro n
  induction n with
  | zero => intro v3 v4 S y3 y4 T h; rw [fX11_nth_18] at h; cases h
  | succ n ih =>
    intro v3 v4 S y3 y4 T h k0
    rw [fX11_nth_18] at h
    refine r_iload (x := v4) dX11_nth_18 rfl ?_
    refine r_if_le (tgt := 84) dX11_nth_20 (by decide) (fun c7 => ?_) (fun c7 => ?_)
    · rw [if_pos c7] at h
      cases h
      exact k0
    · rw [if_neg c7] at h
      refine r_iload_n (x := v3) dX11_nth_23 rfl ?_
      refine r_iload (x := v4) dX11_nth_24 rfl ?_
      refine r_iadd dX11_nth_26 ?_
      refine r_topi (fun x8 hx8 => ?_)
      replace h := lt_e hx8 h
      refine r_istore (L' := [some (.ref 0), some (.int v1), some (.int v2), some (.int v3), some (.int v4), some (.int x8)]) dX11_nth_27 (Nat.le_of_ble_eq_true rfl) rfl rfl ?_
      refine r_iload (x := x8) dX11_nth_29 rfl ?_
      refine r_ldc (v := 1000000) dX11_nth_31 kX11_236 ?_
      refine r_icmp_gt (tgt := 75) dX11_nth_33 (by decide) (fun c9 => ?_) (fun c9 => ?_)
      · rw [if_pos c9] at h
        refine r_iload (x := v4) dX11_nth_75 rfl ?_
        refine r_iconst (v := 1) dX11_nth_77 rfl ?_
        refine r_ishr dX11_nth_78 ?_
        refine r_topi (fun x10 hx10 => ?_)
        replace h := lt_e hx10 h
        refine r_istore (L' := [some (.ref 0), some (.int v1), some (.int v2), some (.int v3), some (.int x10), some (.int x8)]) dX11_nth_79 (Nat.le_of_ble_eq_true rfl) rfl rfl ?_
        refine r_goto (tgt := 18) dX11_nth_81 (by decide) ?_
        refine r_drop [true, true, true, true, true, false] rfl ?_
        exact ih _ _ _ _ _ _ h k0
      · rw [if_neg c9] at h
        refine r_aload_n (x := 0) dX11_nth_36 rfl ?_
        refine r_getfield (o := 0) (v := .ref 6) dX11_nth_37 lX11_36 ck0 nC0 rfl ?_
        refine r_aload_n (x := 0) dX11_nth_40 rfl ?_
        refine r_getfield (o := 0) (v := .ref 5) dX11_nth_41 lX11_29 ck0 nC0 rfl ?_
        refine r_getfield (o := 5) (v := .ref (S.2.2 5 3)) dX11_nth_44 lX11_92 ck5 nC5 rfl ?_
        refine r_topr (fun o11 ho11 => ?_)
        replace h := lt_e ho11 h
        refine r_aload_n (x := 0) dX11_nth_47 rfl ?_
        refine r_getfield (o := 0) (v := .ref 3) dX11_nth_48 lX11_19 ck0 nC0 rfl ?_
        refine r_getfield (o := 3) (v := .ref 18) dX11_nth_51 lX11_116 ck3 nC3 rfl ?_
        refine r_iload (x := x8) dX11_nth_54 rfl ?_
        obtain ⟨S13, h14, h⟩ := bV_e h
        refine r_cVV (y := mX4_reckon) (As := [.ref o11, .ref 18, .int x8]) (rest := []) dX11_nth_56 qX11_237 kX4_reckon rfl ob6 vc4 rfl (okX4_reckon N o11 18 x8 S S13 h14) (by decide) hu rfl (Nat.le_of_ble_eq_true rfl) ?_
        refine r_aload_n (x := 0) dX11_nth_59 rfl ?_
        refine r_getfield (o := 0) (v := .ref 6) dX11_nth_60 lX11_36 ck0 nC0 rfl ?_
        refine r_getfield (o := 6) (v := .ref 30) dX11_nth_63 lX11_241 ck6 nC6 rfl ?_
        refine r_iload_n (x := v1) dX11_nth_66 rfl ?_
        obtain ⟨g15, h⟩ := gd_e h
        refine r_iaload (a := 30) dX11_nth_67 ck30 nC30 (inr_IX g15) ?_
        refine r_iload_n (x := v2) dX11_nth_68 rfl ?_
        refine r_icmp_ge (tgt := 75) dX11_nth_69 (by decide) (fun c16 => ?_) (fun c16 => ?_)
        · rw [if_pos c16] at h
          refine r_iload (x := v4) dX11_nth_75 rfl ?_
          refine r_iconst (v := 1) dX11_nth_77 rfl ?_
          refine r_ishr dX11_nth_78 ?_
          refine r_topi (fun x17 hx17 => ?_)
          replace h := lt_e hx17 h
          refine r_istore (L' := [some (.ref 0), some (.int v1), some (.int v2), some (.int v3), some (.int x17), some (.int x8)]) dX11_nth_79 (Nat.le_of_ble_eq_true rfl) rfl rfl ?_
          refine r_goto (tgt := 18) dX11_nth_81 (by decide) ?_
          refine r_drop [true, true, true, true, true, false] rfl ?_
          exact ih _ _ _ _ _ _ h k0
        · rw [if_neg c16] at h
          refine r_iload (x := x8) dX11_nth_72 rfl ?_
          refine r_istore_n (L' := [some (.ref 0), some (.int v1), some (.int v2), some (.int x8), some (.int v4), some (.int x8)]) dX11_nth_74 (Nat.le_of_ble_eq_true rfl) rfl rfl ?_
          refine r_iload (x := v4) dX11_nth_75 rfl ?_
          refine r_iconst (v := 1) dX11_nth_77 rfl ?_
          refine r_ishr dX11_nth_78 ?_
          refine r_topi (fun x18 hx18 => ?_)
          replace h := lt_e hx18 h
          refine r_istore (L' := [some (.ref 0), some (.int v1), some (.int v2), some (.int x8), some (.int x18), some (.int x8)]) dX11_nth_79 (Nat.le_of_ble_eq_true rfl) rfl rfl ?_
          refine r_goto (tgt := 18) dX11_nth_81 (by decide) ?_
          refine r_drop [true, true, true, true, true, false] rfl ?_
          exact ih _ _ _ _ _ _ h k0
def fX11_nth (N : Nat) (p0 : Int32) (p1 : Int32) (S : PS) : Option ((Int32 ⊕ String) × PS) :=
  bU (fX11_needCup N p0 S) fun S2 =>
  bU (fX11_needRange N p1 1 100000000 S2) fun S5 =>
  bT (fX11_nth_18 N p0 p1 N 0 524288 S5) fun q19 =>
  lt (q19.1 : Int32) fun x20 =>
  lt (q19.2.1 : Int32) fun x21 =>
  lt (q19.2.2 : PS) fun S22 =>
  lt ((if 1000000 ≤ x20 then (-1) else (x20 + 1)) : Int32) fun x26 =>
  some (.inl x26, S22)
set_option maxHeartbeats 4000000 in
set_option maxRecDepth 100000 in
theorem okX11_nth (N : Nat) (p0 : Int32) (p1 : Int32) (S : PS) (r : Int32 ⊕ String) (T : PS) (h : fX11_nth N p0 p1 S = some (r, T)) : CT mX11_nth 7 8 [.ref 0, .int p0, .int p1] S (qE r T) := by
  refine ct_of [some (.ref 0), some (.int p0), some (.int p1), none, none, none] rfl (fun _ => rfl) (fun _ => Nat.le_of_ble_eq_true rfl) ?_
  unfold fX11_nth at h
  refine r_aload_n (x := 0) dX11_nth_0 rfl ?_
  refine r_iload_n (x := p0) dX11_nth_1 rfl ?_
  obtain ⟨x1, S2, h3, hx1, kx1⟩ := bU_e h
  refine r_cVU (y := mX11_needCup) (As := [.int p0]) (rest := []) dX11_nth_2 qX11_156 kX11_needCup rfl ob0 vc11 rfl (okX11_needCup N p0 S x1 S2 h3) (by decide) (by decide) rfl (Nat.le_of_ble_eq_true rfl) (fun ex1 => ?_) (fun Ex1 ex1 => ?_)
  · replace h := hx1 ex1
    refine r_iload_n (x := p1) dX11_nth_5 rfl ?_
    refine r_iconst (v := 1) dX11_nth_6 rfl ?_
    refine r_ldc (v := 100000000) dX11_nth_7 kX11_242 ?_
    obtain ⟨x4, S5, h6, hx4, kx4⟩ := bU_e h
    refine r_cSU (y := mX11_needRange) (As := [.int p1, .int 1, .int 100000000]) (rest := []) dX11_nth_9 qX11_81 kX11_needRange rfl (okX11_needRange N p1 1 100000000 S2 x4 S5 h6) (by decide) (by decide) rfl (Nat.le_of_ble_eq_true rfl) (fun ex4 => ?_) (fun Ex4 ex4 => ?_)
    · replace h := hx4 ex4
      refine r_iconst (v := 0) dX11_nth_12 rfl ?_
      refine r_istore_n (L' := [some (.ref 0), some (.int p0), some (.int p1), some (.int 0), none, none]) dX11_nth_13 (Nat.le_of_ble_eq_true rfl) rfl rfl ?_
      refine r_ldc (v := 524288) dX11_nth_14 kX11_243 ?_
      refine r_istore (L' := [some (.ref 0), some (.int p0), some (.int p1), some (.int 0), some (.int 524288), none]) dX11_nth_16 (Nat.le_of_ble_eq_true rfl) rfl rfl ?_
      obtain ⟨⟨x20, x21, S22⟩, h24, h⟩ := bT_e h
      dsimp only at h
      replace h := pl_s (pl_s (pl_s (h)))
      refine okX11_nth_18 N p0 p1 (qE r T) 2 (by decide) _ _ _ _ _ _ _ h24 ?_
      refine r_iload_n (x := x20) dX11_nth_84 rfl ?_
      refine r_ldc (v := 1000000) dX11_nth_85 kX11_236 ?_
      obtain ⟨x26, hx26⟩ : ∃ y : Int32, y = ((if 1000000 ≤ x20 then (-1) else (x20 + 1)) : Int32) := ⟨_, rfl⟩
      replace h := lt_e hx26 h
      have keyx26 : WP [] mX11_nth 7 8 (qE r T) 97 [some (.ref 0), some (.int p0), some (.int p1), some (.int x20), some (.int x21), none] (.int x26 :: []) S22 2 := by
        cases h
        exact r_ireturn dX11_nth_97 rfl (by decide) ⟨rfl, rfl⟩
      refine r_icmp_ge (tgt := 96) dX11_nth_87 (by decide) (fun c25 => ?_) (fun c25 => ?_)
      · refine r_iconst (v := (-1)) dX11_nth_96 rfl ?_
        exact r_tope (by rw [hx26, if_pos c25]) keyx26
      · refine r_iload_n (x := x20) dX11_nth_90 rfl ?_
        refine r_iconst (v := 1) dX11_nth_91 rfl ?_
        refine r_iadd dX11_nth_92 ?_
        refine r_goto (tgt := 97) dX11_nth_93 (by decide) ?_
        exact r_tope (by rw [hx26, if_neg c25]) keyx26
    · cases kx4 Ex4 ex4
      exact ⟨rfl, rfl⟩
  · cases kx1 Ex1 ex1
    exact ⟨rfl, rfl⟩
def fX11_meeting_29 (N : Nat) (v1 : Int32) : Nat → Int32 → PS → Option (Nat × Int32 × PS)
  | 0, _, _ => none
  | n + 1, v2, S =>
    (if 5000 < v2 then
      some (0, v2, S)
    else
      bV (fX4_keepTimes N  S) fun S10 =>
      lt ((S10.2.2 5 3) : Nat) fun o12 =>
      bV (fX4_reckon N o12 18 v2 S10) fun S14 =>
      bI (fX4_allTippedSince N v1 S14) fun x16 S17 =>
      (if x16 = 0 then
        lt (v2 + 1 : Int32) fun x20 =>
        fX11_meeting_29 N v1 n x20 S17
      else
        some (1, v2, S17)))
set_option maxHeartbeats 4000000 in
set_option maxRecDepth 100000 in
theorem okX11_meeting_29 (N : Nat) (v1 : Int32) (Q : OQ) (u : Nat) (hu : u ≤ 8) : ∀ (n : Nat) (v2 : Int32) (S : PS) (tg : Nat) (y2 : Int32) (T : PS), fX11_meeting_29 N v1 n v2 S = some (tg, y2, T) → (tg = 0 → WP [] mX11_meeting 7 8 Q 84 [some (.ref 0), some (.int v1), some (.int y2)] [] T u) → (tg = 1 → WP [] mX11_meeting 7 8 Q 76 [some (.ref 0), some (.int v1), some (.int y2)] [] T u) → WP [] mX11_meeting 7 8 Q 29 [some (.ref 0), some (.int v1), some (.int v2)] [] S u := by
  intro n
  induction n with
  | zero => intro v2 S tg y2 T h; rw [fX11_meeting_29] at h; cases h
  | succ n ih =>
    intro v2 S tg y2 T h k0 k1
    rw [fX11_meeting_29] at h
    refine r_iload_n (x := v2) dX11_meeting_29 rfl ?_
    refine r_sipush (v := 5000) dX11_meeting_30 rfl ?_
    refine r_icmp_gt (tgt := 84) dX11_meeting_33 (by decide) (fun c8 => ?_) (fun c8 => ?_)
    · rw [if_pos c8] at h
      cases h
      exact k0 rfl
    · rw [if_neg c8] at h
      refine r_aload_n (x := 0) dX11_meeting_36 rfl ?_
      refine r_getfield (o := 0) (v := .ref 6) dX11_meeting_37 lX11_36 ck0 nC0 rfl ?_
      obtain ⟨S10, h11, h⟩ := bV_e h
      refine r_cVV (y := mX4_keepTimes) (As := []) (rest := []) dX11_meeting_40 qX11_244 kX4_keepTimes rfl ob6 vc4 rfl (okX4_keepTimes N  S S10 h11) (by decide) hu rfl (Nat.le_of_ble_eq_true rfl) ?_
      refine r_aload_n (x := 0) dX11_meeting_43 rfl ?_
      refine r_getfield (o := 0) (v := .ref 6) dX11_meeting_44 lX11_36 ck0 nC0 rfl ?_
      refine r_aload_n (x := 0) dX11_meeting_47 rfl ?_
      refine r_getfield (o := 0) (v := .ref 5) dX11_meeting_48 lX11_29 ck0 nC0 rfl ?_
      refine r_getfield (o := 5) (v := .ref (S10.2.2 5 3)) dX11_meeting_51 lX11_92 ck5 nC5 rfl ?_
      refine r_topr (fun o12 ho12 => ?_)
      replace h := lt_e ho12 h
      refine r_aload_n (x := 0) dX11_meeting_54 rfl ?_
      refine r_getfield (o := 0) (v := .ref 3) dX11_meeting_55 lX11_19 ck0 nC0 rfl ?_
      refine r_getfield (o := 3) (v := .ref 18) dX11_meeting_58 lX11_116 ck3 nC3 rfl ?_
      refine r_iload_n (x := v2) dX11_meeting_61 rfl ?_
      obtain ⟨S14, h15, h⟩ := bV_e h
      refine r_cVV (y := mX4_reckon) (As := [.ref o12, .ref 18, .int v2]) (rest := []) dX11_meeting_62 qX11_237 kX4_reckon rfl ob6 vc4 rfl (okX4_reckon N o12 18 v2 S10 S14 h15) (by decide) hu rfl (Nat.le_of_ble_eq_true rfl) ?_
      refine r_aload_n (x := 0) dX11_meeting_65 rfl ?_
      refine r_getfield (o := 0) (v := .ref 6) dX11_meeting_66 lX11_36 ck0 nC0 rfl ?_
      refine r_iload_n (x := v1) dX11_meeting_69 rfl ?_
      obtain ⟨x16, S17, h18, h⟩ := bI_e h
      refine r_cVI (y := mX4_allTippedSince) (As := [.int v1]) (rest := []) dX11_meeting_70 qX11_247 kX4_allTippedSince rfl ob6 vc4 rfl (okX4_allTippedSince N v1 S14 x16 S17 h18) (by decide) hu rfl (Nat.le_of_ble_eq_true rfl) ?_
      refine r_if_eq (tgt := 78) dX11_meeting_73 (by decide) (fun c19 => ?_) (fun c19 => ?_)
      · rw [if_pos c19] at h
        obtain ⟨x20, hx20⟩ : ∃ y : Int32, y = (v2 + 1 : Int32) := ⟨_, rfl⟩
        replace h := lt_e hx20 h
        refine r_iinc (x := v2) (v := x20) (L' := [some (.ref 0), some (.int v1), some (.int x20)]) dX11_meeting_78 rfl (by rw [hx20]; rfl) (Nat.le_of_ble_eq_true rfl) rfl rfl ?_
        refine r_goto (tgt := 29) dX11_meeting_81 (by decide) ?_
        exact ih _ _ _ _ _ h k0 k1
      · rw [if_neg c19] at h
        cases h
        exact k1 rfl
def fX11_meeting (N : Nat) (p0 : Int32) (S : PS) : Option ((Int32 ⊕ String) × PS) :=
  bU (fX11_needCups N p0 S) fun S2 =>
  lt ((S2.2.2 5 3) : Nat) fun o4 =>
  bV (fX4_reckon N o4 18 0 S2) fun S6 =>
  bT (fX11_meeting_29 N p0 N 1 S6) fun q21 =>
  lt (q21.1 : Nat) fun t24 =>
  lt (q21.2.1 : Int32) fun x22 =>
  lt (q21.2.2 : PS) fun S23 =>
  (if t24 = 0 then
    some (.inl (-1), S23)
  else 
    some (.inl x22, S23))
set_option maxHeartbeats 4000000 in
set_option maxRecDepth 100000 in
theorem okX11_meeting (N : Nat) (p0 : Int32) (S : PS) (r : Int32 ⊕ String) (T : PS) (h : fX11_meeting N p0 S = some (r, T)) : CT mX11_meeting 7 8 [.ref 0, .int p0] S (qE r T) := by
  refine ct_of [some (.ref 0), some (.int p0), none] rfl (fun _ => rfl) (fun _ => Nat.le_of_ble_eq_true rfl) ?_
  unfold fX11_meeting at h
  refine r_aload_n (x := 0) dX11_meeting_0 rfl ?_
  refine r_iload_n (x := p0) dX11_meeting_1 rfl ?_
  obtain ⟨x1, S2, h3, hx1, kx1⟩ := bU_e h
  refine r_cVU (y := mX11_needCups) (As := [.int p0]) (rest := []) dX11_meeting_2 qX11_227 kX11_needCups rfl ob0 vc11 rfl (okX11_needCups N p0 S x1 S2 h3) (by decide) (by decide) rfl (Nat.le_of_ble_eq_true rfl) (fun ex1 => ?_) (fun Ex1 ex1 => ?_)
  · replace h := hx1 ex1
    refine r_aload_n (x := 0) dX11_meeting_5 rfl ?_
    refine r_getfield (o := 0) (v := .ref 6) dX11_meeting_6 lX11_36 ck0 nC0 rfl ?_
    refine r_aload_n (x := 0) dX11_meeting_9 rfl ?_
    refine r_getfield (o := 0) (v := .ref 5) dX11_meeting_10 lX11_29 ck0 nC0 rfl ?_
    refine r_getfield (o := 5) (v := .ref (S2.2.2 5 3)) dX11_meeting_13 lX11_92 ck5 nC5 rfl ?_
    refine r_topr (fun o4 ho4 => ?_)
    replace h := lt_e ho4 h
    refine r_aload_n (x := 0) dX11_meeting_16 rfl ?_
    refine r_getfield (o := 0) (v := .ref 3) dX11_meeting_17 lX11_19 ck0 nC0 rfl ?_
    refine r_getfield (o := 3) (v := .ref 18) dX11_meeting_20 lX11_116 ck3 nC3 rfl ?_
    refine r_iconst (v := 0) dX11_meeting_23 rfl ?_
    obtain ⟨S6, h7, h⟩ := bV_e h
    refine r_cVV (y := mX4_reckon) (As := [.ref o4, .ref 18, .int 0]) (rest := []) dX11_meeting_24 qX11_237 kX4_reckon rfl ob6 vc4 rfl (okX4_reckon N o4 18 0 S2 S6 h7) (by decide) (by decide) rfl (Nat.le_of_ble_eq_true rfl) ?_
    refine r_iconst (v := 1) dX11_meeting_27 rfl ?_
    refine r_istore_n (L' := [some (.ref 0), some (.int p0), some (.int 1)]) dX11_meeting_28 (Nat.le_of_ble_eq_true rfl) rfl rfl ?_
    obtain ⟨⟨t24, x22, S23⟩, h25, h⟩ := bT_e h
    dsimp only at h
    replace h := pl_s (pl_s (pl_s (h)))
    refine okX11_meeting_29 N p0 (qE r T) 1 (by decide) _ _ _ _ _ _ h25 (fun et24 => ?_) (fun et24 => ?_)
    · rw [if_pos et24] at h
      refine r_iconst (v := (-1)) dX11_meeting_84 rfl ?_
      cases h
      exact r_ireturn dX11_meeting_85 rfl (by decide) ⟨rfl, rfl⟩
    · rw [if_neg (by rw [et24]; decide)] at h
      refine r_iload_n (x := x22) dX11_meeting_76 rfl ?_
      cases h
      exact r_ireturn dX11_meeting_77 rfl (by decide) ⟨rfl, rfl⟩
  · cases kx1 Ex1 ex1
    exact ⟨rfl, rfl⟩
def fX11_flow (N : Nat) (p0 : Int32) (p1 : Int32) (S : PS) : Option ((Int32 ⊕ String) × PS) :=
  bU (fX11_needCup N p0 S) fun S2 =>
  bU (fX11_needRange N p1 0 1000000 S2) fun S5 =>
  lt ((S5.2.2 5 3) : Nat) fun o7 =>
  bV (fX4_reckon N o7 18 p1 S5) fun S9 =>
  gd (inr p0 9) <|
  some (.inl (S9.1 29 (ix p0)), S9)
set_option maxHeartbeats 4000000 in
set_option maxRecDepth 100000 in
theorem okX11_flow (N : Nat) (p0 : Int32) (p1 : Int32) (S : PS) (r : Int32 ⊕ String) (T : PS) (h : fX11_flow N p0 p1 S = some (r, T)) : CT mX11_flow 7 8 [.ref 0, .int p0, .int p1] S (qE r T) := by
  refine ct_of [some (.ref 0), some (.int p0), some (.int p1)] rfl (fun _ => rfl) (fun _ => Nat.le_of_ble_eq_true rfl) ?_
  unfold fX11_flow at h
  refine r_aload_n (x := 0) dX11_flow_0 rfl ?_
  refine r_iload_n (x := p0) dX11_flow_1 rfl ?_
  obtain ⟨x1, S2, h3, hx1, kx1⟩ := bU_e h
  refine r_cVU (y := mX11_needCup) (As := [.int p0]) (rest := []) dX11_flow_2 qX11_156 kX11_needCup rfl ob0 vc11 rfl (okX11_needCup N p0 S x1 S2 h3) (by decide) (by decide) rfl (Nat.le_of_ble_eq_true rfl) (fun ex1 => ?_) (fun Ex1 ex1 => ?_)
  · replace h := hx1 ex1
    refine r_iload_n (x := p1) dX11_flow_5 rfl ?_
    refine r_iconst (v := 0) dX11_flow_6 rfl ?_
    refine r_ldc (v := 1000000) dX11_flow_7 kX11_236 ?_
    obtain ⟨x4, S5, h6, hx4, kx4⟩ := bU_e h
    refine r_cSU (y := mX11_needRange) (As := [.int p1, .int 0, .int 1000000]) (rest := []) dX11_flow_9 qX11_81 kX11_needRange rfl (okX11_needRange N p1 0 1000000 S2 x4 S5 h6) (by decide) (by decide) rfl (Nat.le_of_ble_eq_true rfl) (fun ex4 => ?_) (fun Ex4 ex4 => ?_)
    · replace h := hx4 ex4
      refine r_aload_n (x := 0) dX11_flow_12 rfl ?_
      refine r_getfield (o := 0) (v := .ref 6) dX11_flow_13 lX11_36 ck0 nC0 rfl ?_
      refine r_aload_n (x := 0) dX11_flow_16 rfl ?_
      refine r_getfield (o := 0) (v := .ref 5) dX11_flow_17 lX11_29 ck0 nC0 rfl ?_
      refine r_getfield (o := 5) (v := .ref (S5.2.2 5 3)) dX11_flow_20 lX11_92 ck5 nC5 rfl ?_
      refine r_topr (fun o7 ho7 => ?_)
      replace h := lt_e ho7 h
      refine r_aload_n (x := 0) dX11_flow_23 rfl ?_
      refine r_getfield (o := 0) (v := .ref 3) dX11_flow_24 lX11_19 ck0 nC0 rfl ?_
      refine r_getfield (o := 3) (v := .ref 18) dX11_flow_27 lX11_116 ck3 nC3 rfl ?_
      refine r_iload_n (x := p1) dX11_flow_30 rfl ?_
      obtain ⟨S9, h10, h⟩ := bV_e h
      refine r_cVV (y := mX4_reckon) (As := [.ref o7, .ref 18, .int p1]) (rest := []) dX11_flow_31 qX11_237 kX4_reckon rfl ob6 vc4 rfl (okX4_reckon N o7 18 p1 S5 S9 h10) (by decide) (by decide) rfl (Nat.le_of_ble_eq_true rfl) ?_
      refine r_aload_n (x := 0) dX11_flow_34 rfl ?_
      refine r_getfield (o := 0) (v := .ref 6) dX11_flow_35 lX11_36 ck0 nC0 rfl ?_
      refine r_getfield (o := 6) (v := .ref 29) dX11_flow_38 lX11_250 ck6 nC6 rfl ?_
      refine r_iload_n (x := p0) dX11_flow_41 rfl ?_
      obtain ⟨g11, h⟩ := gd_e h
      refine r_iaload (a := 29) dX11_flow_42 ck29 nC29 (inr_IX g11) ?_
      cases h
      exact r_ireturn dX11_flow_43 rfl (by decide) ⟨rfl, rfl⟩
    · cases kx4 Ex4 ex4
      exact ⟨rfl, rfl⟩
  · cases kx1 Ex1 ex1
    exact ⟨rfl, rfl⟩
def fX11_tier (N : Nat) (p0 : Int32) (p1 : Int32) (S : PS) : Option ((Int32 ⊕ String) × PS) :=
  bU (fX11_needCup N p0 S) fun S2 =>
  bU (fX11_needWhat N p1 1 S2) fun S5 =>
  (if p1 = 0 then
    bI (fX2_allAbove N 18 p0 S5) fun x11 S12 =>
    some (.inl x11, S12)
  else
    bI (fX2_allBelow N 18 p0 S5) fun x8 S9 =>
    some (.inl x8, S9))
set_option maxHeartbeats 4000000 in
set_option maxRecDepth 100000 in
theorem okX11_tier (N : Nat) (p0 : Int32) (p1 : Int32) (S : PS) (r : Int32 ⊕ String) (T : PS) (h : fX11_tier N p0 p1 S = some (r, T)) : CT mX11_tier 7 8 [.ref 0, .int p0, .int p1] S (qE r T) := by
  refine ct_of [some (.ref 0), some (.int p0), some (.int p1)] rfl (fun _ => rfl) (fun _ => Nat.le_of_ble_eq_true rfl) ?_
  unfold fX11_tier at h
  refine r_aload_n (x := 0) dX11_tier_0 rfl ?_
  refine r_iload_n (x := p0) dX11_tier_1 rfl ?_
  obtain ⟨x1, S2, h3, hx1, kx1⟩ := bU_e h
  refine r_cVU (y := mX11_needCup) (As := [.int p0]) (rest := []) dX11_tier_2 qX11_156 kX11_needCup rfl ob0 vc11 rfl (okX11_needCup N p0 S x1 S2 h3) (by decide) (by decide) rfl (Nat.le_of_ble_eq_true rfl) (fun ex1 => ?_) (fun Ex1 ex1 => ?_)
  · replace h := hx1 ex1
    refine r_iload_n (x := p1) dX11_tier_5 rfl ?_
    refine r_iconst (v := 1) dX11_tier_6 rfl ?_
    obtain ⟨x4, S5, h6, hx4, kx4⟩ := bU_e h
    refine r_cSU (y := mX11_needWhat) (As := [.int p1, .int 1]) (rest := []) dX11_tier_7 qX11_109 kX11_needWhat rfl (okX11_needWhat N p1 1 S2 x4 S5 h6) (by decide) (by decide) rfl (Nat.le_of_ble_eq_true rfl) (fun ex4 => ?_) (fun Ex4 ex4 => ?_)
    · replace h := hx4 ex4
      refine r_iload_n (x := p1) dX11_tier_10 rfl ?_
      refine r_if_ne (tgt := 28) dX11_tier_11 (by decide) (fun c7 => ?_) (fun c7 => ?_)
      · rw [if_neg c7] at h
        refine r_aload_n (x := 0) dX11_tier_28 rfl ?_
        refine r_getfield (o := 0) (v := .ref 3) dX11_tier_29 lX11_19 ck0 nC0 rfl ?_
        refine r_getfield (o := 3) (v := .ref 18) dX11_tier_32 lX11_116 ck3 nC3 rfl ?_
        refine r_iload_n (x := p0) dX11_tier_35 rfl ?_
        obtain ⟨x8, S9, h10, h⟩ := bI_e h
        refine r_cVI (y := mX2_allBelow) (As := [.int p0]) (rest := []) dX11_tier_36 qX11_256 kX2_allBelow rfl ob18 vc2 rfl (okX2_allBelow N 18 p0 S5 x8 S9 h10) (by decide) (by decide) rfl (Nat.le_of_ble_eq_true rfl) ?_
        cases h
        exact r_ireturn dX11_tier_39 rfl (by decide) ⟨rfl, rfl⟩
      · rw [if_pos c7] at h
        refine r_aload_n (x := 0) dX11_tier_14 rfl ?_
        refine r_getfield (o := 0) (v := .ref 3) dX11_tier_15 lX11_19 ck0 nC0 rfl ?_
        refine r_getfield (o := 3) (v := .ref 18) dX11_tier_18 lX11_116 ck3 nC3 rfl ?_
        refine r_iload_n (x := p0) dX11_tier_21 rfl ?_
        obtain ⟨x11, S12, h13, h⟩ := bI_e h
        refine r_cVI (y := mX2_allAbove) (As := [.int p0]) (rest := []) dX11_tier_22 qX11_253 kX2_allAbove rfl ob18 vc2 rfl (okX2_allAbove N 18 p0 S5 x11 S12 h13) (by decide) (by decide) rfl (Nat.le_of_ble_eq_true rfl) ?_
        refine r_goto (tgt := 39) dX11_tier_25 (by decide) ?_
        cases h
        exact r_ireturn dX11_tier_39 rfl (by decide) ⟨rfl, rfl⟩
    · cases kx4 Ex4 ex4
      exact ⟨rfl, rfl⟩
  · cases kx1 Ex1 ex1
    exact ⟨rfl, rfl⟩
def fX11_hear (N : Nat) (p0 : Int32) (p1 : Int32) (p2 : Int32) (S : PS) : Option ((Int32 ⊕ String) × PS) :=
  bU (fX11_needCup N p0 S) fun S2 =>
  (if 8 ≤ (S2.1 10 3) then
    lt ((u2 S2.1 23 2 ((S2.1 23 2) + 1), S2.2) : PS) fun S5 =>
    some (.inl (-1), S5)
  else
    (if p1 < 1 then
      lt ((u2 S2.1 23 2 ((S2.1 23 2) + 1), S2.2) : PS) fun S7 =>
      some (.inl (-1), S7)
    else
      (if p1 ≤ 40 then
        bV (fX5_note N 10 p0 p1 p2 S2) fun S10 =>
        some (.inl (S10.1 10 3), S10)
      else
        lt ((u2 S2.1 23 2 ((S2.1 23 2) + 1), S2.2) : PS) fun S12 =>
        some (.inl (-1), S12))))
set_option maxHeartbeats 4000000 in
set_option maxRecDepth 100000 in
theorem okX11_hear (N : Nat) (p0 : Int32) (p1 : Int32) (p2 : Int32) (S : PS) (r : Int32 ⊕ String) (T : PS) (h : fX11_hear N p0 p1 p2 S = some (r, T)) : CT mX11_hear 7 8 [.ref 0, .int p0, .int p1, .int p2] S (qE r T) := by
  refine ct_of [some (.ref 0), some (.int p0), some (.int p1), some (.int p2)] rfl (fun _ => rfl) (fun _ => Nat.le_of_ble_eq_true rfl) ?_
  unfold fX11_hear at h
  refine r_aload_n (x := 0) dX11_hear_0 rfl ?_
  refine r_iload_n (x := p0) dX11_hear_1 rfl ?_
  obtain ⟨x1, S2, h3, hx1, kx1⟩ := bU_e h
  refine r_cVU (y := mX11_needCup) (As := [.int p0]) (rest := []) dX11_hear_2 qX11_156 kX11_needCup rfl ob0 vc11 rfl (okX11_needCup N p0 S x1 S2 h3) (by decide) (by decide) rfl (Nat.le_of_ble_eq_true rfl) (fun ex1 => ?_) (fun Ex1 ex1 => ?_)
  · replace h := hx1 ex1
    refine r_aload_n (x := 0) dX11_hear_5 rfl ?_
    refine r_getfield (o := 0) (v := .ref 3) dX11_hear_6 lX11_19 ck0 nC0 rfl ?_
    refine r_getfield (o := 3) (v := .ref 10) dX11_hear_9 lX11_147 ck3 nC3 rfl ?_
    refine r_getfield (o := 10) (v := .int (S2.1 10 3)) dX11_hear_12 lX11_151 ck10 nC10 rfl ?_
    refine r_bipush (v := 8) dX11_hear_15 rfl ?_
    refine r_icmp_ge (tgt := 31) dX11_hear_17 (by decide) (fun c4 => ?_) (fun c4 => ?_)
    · rw [if_pos c4] at h
      refine r_aload_n (x := 0) dX11_hear_31 rfl ?_
      refine r_getfield (o := 0) (v := .ref 23) dX11_hear_32 lX11_47 ck0 nC0 rfl ?_
      refine r_iconst (v := 2) dX11_hear_35 rfl ?_
      refine r_dup2 dX11_hear_36 ?_
      refine r_iaload (a := 23) (k9 := 2) dX11_hear_37 ck23 nC23 ⟨by decide, by decide⟩ ?_
      refine r_iconst (v := 1) dX11_hear_38 rfl ?_
      refine r_iadd dX11_hear_39 ?_
      refine r_iastore (a := 23) (k9 := 2) dX11_hear_40 ck23 nC23 ⟨by decide, by decide⟩ ?_
      refine r_topS (fun S5 hS5 => ?_)
      replace h := lt_e hS5 h
      refine r_iconst (v := (-1)) dX11_hear_41 rfl ?_
      cases h
      exact r_ireturn dX11_hear_42 rfl (by decide) ⟨rfl, rfl⟩
    · rw [if_neg c4] at h
      refine r_iload_n (x := p1) dX11_hear_20 rfl ?_
      refine r_iconst (v := 1) dX11_hear_21 rfl ?_
      refine r_icmp_lt (tgt := 31) dX11_hear_22 (by decide) (fun c6 => ?_) (fun c6 => ?_)
      · rw [if_pos c6] at h
        refine r_aload_n (x := 0) dX11_hear_31 rfl ?_
        refine r_getfield (o := 0) (v := .ref 23) dX11_hear_32 lX11_47 ck0 nC0 rfl ?_
        refine r_iconst (v := 2) dX11_hear_35 rfl ?_
        refine r_dup2 dX11_hear_36 ?_
        refine r_iaload (a := 23) (k9 := 2) dX11_hear_37 ck23 nC23 ⟨by decide, by decide⟩ ?_
        refine r_iconst (v := 1) dX11_hear_38 rfl ?_
        refine r_iadd dX11_hear_39 ?_
        refine r_iastore (a := 23) (k9 := 2) dX11_hear_40 ck23 nC23 ⟨by decide, by decide⟩ ?_
        refine r_topS (fun S7 hS7 => ?_)
        replace h := lt_e hS7 h
        refine r_iconst (v := (-1)) dX11_hear_41 rfl ?_
        cases h
        exact r_ireturn dX11_hear_42 rfl (by decide) ⟨rfl, rfl⟩
      · rw [if_neg c6] at h
        refine r_iload_n (x := p1) dX11_hear_25 rfl ?_
        refine r_bipush (v := 40) dX11_hear_26 rfl ?_
        refine r_icmp_le (tgt := 43) dX11_hear_28 (by decide) (fun c8 => ?_) (fun c8 => ?_)
        · rw [if_pos c8] at h
          refine r_aload_n (x := 0) dX11_hear_43 rfl ?_
          refine r_getfield (o := 0) (v := .ref 3) dX11_hear_44 lX11_19 ck0 nC0 rfl ?_
          refine r_getfield (o := 3) (v := .ref 10) dX11_hear_47 lX11_147 ck3 nC3 rfl ?_
          refine r_iload_n (x := p0) dX11_hear_50 rfl ?_
          refine r_iload_n (x := p1) dX11_hear_51 rfl ?_
          refine r_iload_n (x := p2) dX11_hear_52 rfl ?_
          obtain ⟨S10, h11, h⟩ := bV_e h
          refine r_cVV (y := mX5_note) (As := [.int p0, .int p1, .int p2]) (rest := []) dX11_hear_53 qX11_274 kX5_note rfl ob10 vc5 rfl (okX5_note N 10 p0 p1 p2 S2 S10 h11) (by decide) (by decide) rfl (Nat.le_of_ble_eq_true rfl) ?_
          refine r_aload_n (x := 0) dX11_hear_56 rfl ?_
          refine r_getfield (o := 0) (v := .ref 3) dX11_hear_57 lX11_19 ck0 nC0 rfl ?_
          refine r_getfield (o := 3) (v := .ref 10) dX11_hear_60 lX11_147 ck3 nC3 rfl ?_
          refine r_getfield (o := 10) (v := .int (S10.1 10 3)) dX11_hear_63 lX11_151 ck10 nC10 rfl ?_
          cases h
          exact r_ireturn dX11_hear_66 rfl (by decide) ⟨rfl, rfl⟩
        · rw [if_neg c8] at h
          refine r_aload_n (x := 0) dX11_hear_31 rfl ?_
          refine r_getfield (o := 0) (v := .ref 23) dX11_hear_32 lX11_47 ck0 nC0 rfl ?_
          refine r_iconst (v := 2) dX11_hear_35 rfl ?_
          refine r_dup2 dX11_hear_36 ?_
          refine r_iaload (a := 23) (k9 := 2) dX11_hear_37 ck23 nC23 ⟨by decide, by decide⟩ ?_
          refine r_iconst (v := 1) dX11_hear_38 rfl ?_
          refine r_iadd dX11_hear_39 ?_
          refine r_iastore (a := 23) (k9 := 2) dX11_hear_40 ck23 nC23 ⟨by decide, by decide⟩ ?_
          refine r_topS (fun S12 hS12 => ?_)
          replace h := lt_e hS12 h
          refine r_iconst (v := (-1)) dX11_hear_41 rfl ?_
          cases h
          exact r_ireturn dX11_hear_42 rfl (by decide) ⟨rfl, rfl⟩
  · cases kx1 Ex1 ex1
    exact ⟨rfl, rfl⟩
def fX11_giver_42 (N : Nat) (v1 : Int32) (v2 : Int32) : Nat → Int32 → Int32 → Int32 → PS → Option (Int32 × Int32 × Int32 × PS)
  | 0, _, _, _, _ => none
  | n + 1, v3, v4, v5, S =>
    (if v1 ≤ v5 then
      some (v3, v4, v5, S)
    else
      bI (fX2_straightBelow N 18 v5 S) fun x12 S13 =>
      bI (fX11_has N x12 v1 S13) fun x15 S16 =>
      (if x15 = 0 then
        lt (v5 + 1 : Int32) fun x19 =>
        fX11_giver_42 N v1 v2 n v3 v4 x19 S16
      else
        gd (inr v5 9) <|
        bI (fX2_dropsInto N 18 v5 v1 (S16.1 30 (ix v5)) S16) fun x21 S22 =>
        (if v3 = (-1) then
          lt (v5 + 1 : Int32) fun x25 =>
          fX11_giver_42 N v1 v2 n v5 x21 x25 S22
        else
          (if x21 ≤ v4 then
            lt (v5 + 1 : Int32) fun x27 =>
            fX11_giver_42 N v1 v2 n v3 v4 x27 S22
          else
            lt (v5 + 1 : Int32) fun x28 =>
            fX11_giver_42 N v1 v2 n v5 x21 x28 S22))))
set_option maxHeartbeats 4000000 in
set_option maxRecDepth 100000 in
theorem okX11_giver_42 (N : Nat) (v1 : Int32) (v2 : Int32) (Q : OQ) (u : Nat) (hu : u ≤ 8) : ∀ (n : Nat) (v3 : Int32) (v4 : Int32) (v5 : Int32) (S : PS) (y3 : Int32) (y4 : Int32) (y5 : Int32) (T : PS), fX11_giver_42 N v1 v2 n v3 v4 v5 S = some (y3, y4, y5, T) → WP [] mX11_giver 7 8 Q 117 [some (.ref 0), some (.int v1), some (.int v2), some (.int y3), some (.int y4), some (.int y5), none] [] T u → WP [] mX11_giver 7 8 Q 42 [some (.ref 0), some (.int v1), some (.int v2), some (.int v3), some (.int v4), some (.int v5), none] [] S u := by
  intro n
  induction n with
  | zero => intro v3 v4 v5 S y3 y4 y5 T h; rw [fX11_giver_42] at h; cases h
  | succ n ih =>
    intro v3 v4 v5 S y3 y4 y5 T h k0
    rw [fX11_giver_42] at h
    refine r_iload (x := v5) dX11_giver_42 rfl ?_
    refine r_iload_n (x := v1) dX11_giver_44 rfl ?_
    refine r_icmp_ge (tgt := 117) dX11_giver_45 (by decide) (fun c11 => ?_) (fun c11 => ?_)
    · rw [if_pos c11] at h
      cases h
      exact k0
    · rw [if_neg c11] at h
      refine r_aload_n (x := 0) dX11_giver_48 rfl ?_
      refine r_getfield (o := 0) (v := .ref 3) dX11_giver_49 lX11_19 ck0 nC0 rfl ?_
      refine r_getfield (o := 3) (v := .ref 18) dX11_giver_52 lX11_116 ck3 nC3 rfl ?_
      refine r_iload (x := v5) dX11_giver_55 rfl ?_
      obtain ⟨x12, S13, h14, h⟩ := bI_e h
      refine r_cVI (y := mX2_straightBelow) (As := [.int v5]) (rest := []) dX11_giver_57 qX11_335 kX2_straightBelow rfl ob18 vc2 rfl (okX2_straightBelow N 18 v5 S x12 S13 h14) (by decide) hu rfl (Nat.le_of_ble_eq_true rfl) ?_
      refine r_iload_n (x := v1) dX11_giver_60 rfl ?_
      obtain ⟨x15, S16, h17, h⟩ := bI_e h
      refine r_cSI (y := mX11_has) (As := [.int x12, .int v1]) (rest := []) dX11_giver_61 qX11_332 kX11_has rfl (okX11_has N x12 v1 S13 x15 S16 h17) (by decide) hu rfl (Nat.le_of_ble_eq_true rfl) ?_
      refine r_if_eq (tgt := 111) dX11_giver_64 (by decide) (fun c18 => ?_) (fun c18 => ?_)
      · rw [if_pos c18] at h
        obtain ⟨x19, hx19⟩ : ∃ y : Int32, y = (v5 + 1 : Int32) := ⟨_, rfl⟩
        replace h := lt_e hx19 h
        refine r_iinc (x := v5) (v := x19) (L' := [some (.ref 0), some (.int v1), some (.int v2), some (.int v3), some (.int v4), some (.int x19), none]) dX11_giver_111 rfl (by rw [hx19]; rfl) (Nat.le_of_ble_eq_true rfl) rfl rfl ?_
        refine r_goto (tgt := 42) dX11_giver_114 (by decide) ?_
        exact ih _ _ _ _ _ _ _ _ h k0
      · rw [if_neg c18] at h
        refine r_aload_n (x := 0) dX11_giver_67 rfl ?_
        refine r_getfield (o := 0) (v := .ref 3) dX11_giver_68 lX11_19 ck0 nC0 rfl ?_
        refine r_getfield (o := 3) (v := .ref 18) dX11_giver_71 lX11_116 ck3 nC3 rfl ?_
        refine r_iload (x := v5) dX11_giver_74 rfl ?_
        refine r_iload_n (x := v1) dX11_giver_76 rfl ?_
        refine r_aload_n (x := 0) dX11_giver_77 rfl ?_
        refine r_getfield (o := 0) (v := .ref 6) dX11_giver_78 lX11_36 ck0 nC0 rfl ?_
        refine r_getfield (o := 6) (v := .ref 30) dX11_giver_81 lX11_241 ck6 nC6 rfl ?_
        refine r_iload (x := v5) dX11_giver_84 rfl ?_
        obtain ⟨g20, h⟩ := gd_e h
        refine r_iaload (a := 30) dX11_giver_86 ck30 nC30 (inr_IX g20) ?_
        obtain ⟨x21, S22, h23, h⟩ := bI_e h
        refine r_cVI (y := mX2_dropsInto) (As := [.int v5, .int v1, .int (S16.1 30 (ix v5))]) (rest := []) dX11_giver_87 qX11_338 kX2_dropsInto rfl ob18 vc2 rfl (okX2_dropsInto N 18 v5 v1 (S16.1 30 (ix v5)) S16 x21 S22 h23) (by decide) hu rfl (Nat.le_of_ble_eq_true rfl) ?_
        refine r_istore (L' := [some (.ref 0), some (.int v1), some (.int v2), some (.int v3), some (.int v4), some (.int v5), some (.int x21)]) dX11_giver_90 (Nat.le_of_ble_eq_true rfl) rfl rfl ?_
        refine r_iload_n (x := v3) dX11_giver_92 rfl ?_
        refine r_iconst (v := (-1)) dX11_giver_93 rfl ?_
        refine r_icmp_eq (tgt := 104) dX11_giver_94 (by decide) (fun c24 => ?_) (fun c24 => ?_)
        · rw [if_pos c24] at h
          refine r_iload (x := v5) dX11_giver_104 rfl ?_
          refine r_istore_n (L' := [some (.ref 0), some (.int v1), some (.int v2), some (.int v5), some (.int v4), some (.int v5), some (.int x21)]) dX11_giver_106 (Nat.le_of_ble_eq_true rfl) rfl rfl ?_
          refine r_iload (x := x21) dX11_giver_107 rfl ?_
          refine r_istore (L' := [some (.ref 0), some (.int v1), some (.int v2), some (.int v5), some (.int x21), some (.int v5), some (.int x21)]) dX11_giver_109 (Nat.le_of_ble_eq_true rfl) rfl rfl ?_
          obtain ⟨x25, hx25⟩ : ∃ y : Int32, y = (v5 + 1 : Int32) := ⟨_, rfl⟩
          replace h := lt_e hx25 h
          refine r_iinc (x := v5) (v := x25) (L' := [some (.ref 0), some (.int v1), some (.int v2), some (.int v5), some (.int x21), some (.int x25), some (.int x21)]) dX11_giver_111 rfl (by rw [hx25]; rfl) (Nat.le_of_ble_eq_true rfl) rfl rfl ?_
          refine r_goto (tgt := 42) dX11_giver_114 (by decide) ?_
          refine r_drop [true, true, true, true, true, true, false] rfl ?_
          exact ih _ _ _ _ _ _ _ _ h k0
        · rw [if_neg c24] at h
          refine r_iload (x := x21) dX11_giver_97 rfl ?_
          refine r_iload (x := v4) dX11_giver_99 rfl ?_
          refine r_icmp_le (tgt := 111) dX11_giver_101 (by decide) (fun c26 => ?_) (fun c26 => ?_)
          · rw [if_pos c26] at h
            obtain ⟨x27, hx27⟩ : ∃ y : Int32, y = (v5 + 1 : Int32) := ⟨_, rfl⟩
            replace h := lt_e hx27 h
            refine r_iinc (x := v5) (v := x27) (L' := [some (.ref 0), some (.int v1), some (.int v2), some (.int v3), some (.int v4), some (.int x27), some (.int x21)]) dX11_giver_111 rfl (by rw [hx27]; rfl) (Nat.le_of_ble_eq_true rfl) rfl rfl ?_
            refine r_goto (tgt := 42) dX11_giver_114 (by decide) ?_
            refine r_drop [true, true, true, true, true, true, false] rfl ?_
            exact ih _ _ _ _ _ _ _ _ h k0
          · rw [if_neg c26] at h
            refine r_iload (x := v5) dX11_giver_104 rfl ?_
            refine r_istore_n (L' := [some (.ref 0), some (.int v1), some (.int v2), some (.int v5), some (.int v4), some (.int v5), some (.int x21)]) dX11_giver_106 (Nat.le_of_ble_eq_true rfl) rfl rfl ?_
            refine r_iload (x := x21) dX11_giver_107 rfl ?_
            refine r_istore (L' := [some (.ref 0), some (.int v1), some (.int v2), some (.int v5), some (.int x21), some (.int v5), some (.int x21)]) dX11_giver_109 (Nat.le_of_ble_eq_true rfl) rfl rfl ?_
            obtain ⟨x28, hx28⟩ : ∃ y : Int32, y = (v5 + 1 : Int32) := ⟨_, rfl⟩
            replace h := lt_e hx28 h
            refine r_iinc (x := v5) (v := x28) (L' := [some (.ref 0), some (.int v1), some (.int v2), some (.int v5), some (.int x21), some (.int x28), some (.int x21)]) dX11_giver_111 rfl (by rw [hx28]; rfl) (Nat.le_of_ble_eq_true rfl) rfl rfl ?_
            refine r_goto (tgt := 42) dX11_giver_114 (by decide) ?_
            refine r_drop [true, true, true, true, true, true, false] rfl ?_
            exact ih _ _ _ _ _ _ _ _ h k0
def fX11_giver (N : Nat) (p0 : Int32) (p1 : Int32) (S : PS) : Option ((Int32 ⊕ String) × PS) :=
  bU (fX11_needCup N p0 S) fun S2 =>
  bU (fX11_needRange N p1 0 1000000 S2) fun S5 =>
  lt ((S5.2.2 5 3) : Nat) fun o7 =>
  bV (fX4_reckon N o7 18 p1 S5) fun S9 =>
  bT (fX11_giver_42 N p0 p1 N (-1) 0 0 S9) fun q29 =>
  lt (q29.1 : Int32) fun x30 =>
  lt (q29.2.1 : Int32) fun x31 =>
  lt (q29.2.2.1 : Int32) fun x32 =>
  lt (q29.2.2.2 : PS) fun S33 =>
  some (.inl x30, S33)
set_option maxHeartbeats 4000000 in
set_option maxRecDepth 100000 in
theorem okX11_giver (N : Nat) (p0 : Int32) (p1 : Int32) (S : PS) (r : Int32 ⊕ String) (T : PS) (h : fX11_giver N p0 p1 S = some (r, T)) : CT mX11_giver 7 8 [.ref 0, .int p0, .int p1] S (qE r T) := by
  refine ct_of [some (.ref 0), some (.int p0), some (.int p1), none, none, none, none] rfl (fun _ => rfl) (fun _ => Nat.le_of_ble_eq_true rfl) ?_
  unfold fX11_giver at h
  refine r_aload_n (x := 0) dX11_giver_0 rfl ?_
  refine r_iload_n (x := p0) dX11_giver_1 rfl ?_
  obtain ⟨x1, S2, h3, hx1, kx1⟩ := bU_e h
  refine r_cVU (y := mX11_needCup) (As := [.int p0]) (rest := []) dX11_giver_2 qX11_156 kX11_needCup rfl ob0 vc11 rfl (okX11_needCup N p0 S x1 S2 h3) (by decide) (by decide) rfl (Nat.le_of_ble_eq_true rfl) (fun ex1 => ?_) (fun Ex1 ex1 => ?_)
  · replace h := hx1 ex1
    refine r_iload_n (x := p1) dX11_giver_5 rfl ?_
    refine r_iconst (v := 0) dX11_giver_6 rfl ?_
    refine r_ldc (v := 1000000) dX11_giver_7 kX11_236 ?_
    obtain ⟨x4, S5, h6, hx4, kx4⟩ := bU_e h
    refine r_cSU (y := mX11_needRange) (As := [.int p1, .int 0, .int 1000000]) (rest := []) dX11_giver_9 qX11_81 kX11_needRange rfl (okX11_needRange N p1 0 1000000 S2 x4 S5 h6) (by decide) (by decide) rfl (Nat.le_of_ble_eq_true rfl) (fun ex4 => ?_) (fun Ex4 ex4 => ?_)
    · replace h := hx4 ex4
      refine r_aload_n (x := 0) dX11_giver_12 rfl ?_
      refine r_getfield (o := 0) (v := .ref 6) dX11_giver_13 lX11_36 ck0 nC0 rfl ?_
      refine r_aload_n (x := 0) dX11_giver_16 rfl ?_
      refine r_getfield (o := 0) (v := .ref 5) dX11_giver_17 lX11_29 ck0 nC0 rfl ?_
      refine r_getfield (o := 5) (v := .ref (S5.2.2 5 3)) dX11_giver_20 lX11_92 ck5 nC5 rfl ?_
      refine r_topr (fun o7 ho7 => ?_)
      replace h := lt_e ho7 h
      refine r_aload_n (x := 0) dX11_giver_23 rfl ?_
      refine r_getfield (o := 0) (v := .ref 3) dX11_giver_24 lX11_19 ck0 nC0 rfl ?_
      refine r_getfield (o := 3) (v := .ref 18) dX11_giver_27 lX11_116 ck3 nC3 rfl ?_
      refine r_iload_n (x := p1) dX11_giver_30 rfl ?_
      obtain ⟨S9, h10, h⟩ := bV_e h
      refine r_cVV (y := mX4_reckon) (As := [.ref o7, .ref 18, .int p1]) (rest := []) dX11_giver_31 qX11_237 kX4_reckon rfl ob6 vc4 rfl (okX4_reckon N o7 18 p1 S5 S9 h10) (by decide) (by decide) rfl (Nat.le_of_ble_eq_true rfl) ?_
      refine r_iconst (v := (-1)) dX11_giver_34 rfl ?_
      refine r_istore_n (L' := [some (.ref 0), some (.int p0), some (.int p1), some (.int (-1)), none, none, none]) dX11_giver_35 (Nat.le_of_ble_eq_true rfl) rfl rfl ?_
      refine r_iconst (v := 0) dX11_giver_36 rfl ?_
      refine r_istore (L' := [some (.ref 0), some (.int p0), some (.int p1), some (.int (-1)), some (.int 0), none, none]) dX11_giver_37 (Nat.le_of_ble_eq_true rfl) rfl rfl ?_
      refine r_iconst (v := 0) dX11_giver_39 rfl ?_
      refine r_istore (L' := [some (.ref 0), some (.int p0), some (.int p1), some (.int (-1)), some (.int 0), some (.int 0), none]) dX11_giver_40 (Nat.le_of_ble_eq_true rfl) rfl rfl ?_
      obtain ⟨⟨x30, x31, x32, S33⟩, h35, h⟩ := bT_e h
      dsimp only at h
      replace h := pl_s (pl_s (pl_s (pl_s (h))))
      refine okX11_giver_42 N p0 p1 (qE r T) 2 (by decide) _ _ _ _ _ _ _ _ _ h35 ?_
      refine r_iload_n (x := x30) dX11_giver_117 rfl ?_
      cases h
      exact r_ireturn dX11_giver_118 rfl (by decide) ⟨rfl, rfl⟩
    · cases kx4 Ex4 ex4
      exact ⟨rfl, rfl⟩
  · cases kx1 Ex1 ex1
    exact ⟨rfl, rfl⟩
def fX11_ways (N : Nat) (p0 : Int32) (p1 : Int32) (S : PS) : Option ((Int32 ⊕ String) × PS) :=
  bU (fX11_needCup N p0 S) fun S2 =>
  bU (fX11_needCup N p1 S2) fun S5 =>
  bI (fX2_rowsOfPipes N 18 p0 p1 S5) fun x7 S8 =>
  some (.inl x7, S8)
set_option maxHeartbeats 4000000 in
set_option maxRecDepth 100000 in
theorem okX11_ways (N : Nat) (p0 : Int32) (p1 : Int32) (S : PS) (r : Int32 ⊕ String) (T : PS) (h : fX11_ways N p0 p1 S = some (r, T)) : CT mX11_ways 7 8 [.ref 0, .int p0, .int p1] S (qE r T) := by
  refine ct_of [some (.ref 0), some (.int p0), some (.int p1)] rfl (fun _ => rfl) (fun _ => Nat.le_of_ble_eq_true rfl) ?_
  unfold fX11_ways at h
  refine r_aload_n (x := 0) dX11_ways_0 rfl ?_
  refine r_iload_n (x := p0) dX11_ways_1 rfl ?_
  obtain ⟨x1, S2, h3, hx1, kx1⟩ := bU_e h
  refine r_cVU (y := mX11_needCup) (As := [.int p0]) (rest := []) dX11_ways_2 qX11_156 kX11_needCup rfl ob0 vc11 rfl (okX11_needCup N p0 S x1 S2 h3) (by decide) (by decide) rfl (Nat.le_of_ble_eq_true rfl) (fun ex1 => ?_) (fun Ex1 ex1 => ?_)
  · replace h := hx1 ex1
    refine r_aload_n (x := 0) dX11_ways_5 rfl ?_
    refine r_iload_n (x := p1) dX11_ways_6 rfl ?_
    obtain ⟨x4, S5, h6, hx4, kx4⟩ := bU_e h
    refine r_cVU (y := mX11_needCup) (As := [.int p1]) (rest := []) dX11_ways_7 qX11_156 kX11_needCup rfl ob0 vc11 rfl (okX11_needCup N p1 S2 x4 S5 h6) (by decide) (by decide) rfl (Nat.le_of_ble_eq_true rfl) (fun ex4 => ?_) (fun Ex4 ex4 => ?_)
    · replace h := hx4 ex4
      refine r_aload_n (x := 0) dX11_ways_10 rfl ?_
      refine r_getfield (o := 0) (v := .ref 3) dX11_ways_11 lX11_19 ck0 nC0 rfl ?_
      refine r_getfield (o := 3) (v := .ref 18) dX11_ways_14 lX11_116 ck3 nC3 rfl ?_
      refine r_iload_n (x := p0) dX11_ways_17 rfl ?_
      refine r_iload_n (x := p1) dX11_ways_18 rfl ?_
      obtain ⟨x7, S8, h9, h⟩ := bI_e h
      refine r_cVI (y := mX2_rowsOfPipes) (As := [.int p0, .int p1]) (rest := []) dX11_ways_19 qX11_342 kX2_rowsOfPipes rfl ob18 vc2 rfl (okX2_rowsOfPipes N 18 p0 p1 S5 x7 S8 h9) (by decide) (by decide) rfl (Nat.le_of_ble_eq_true rfl) ?_
      cases h
      exact r_ireturn dX11_ways_22 rfl (by decide) ⟨rfl, rfl⟩
    · cases kx4 Ex4 ex4
      exact ⟨rfl, rfl⟩
  · cases kx1 Ex1 ex1
    exact ⟨rfl, rfl⟩
def fX11_drawAct (N : Nat)  (S : PS) : Option PS :=
  bI (fX11_draw N 6 S) fun x1 S2 =>
  (if 2 < x1 then
    some S2
  else
    lt ((S2.2.2 5 3) : Nat) fun o5 =>
    gd (obj o5 1) <|
    (if (S2.1 o5 4) = 0 then
      some S2
    else
      lt ((S2.2.2 5 3) : Nat) fun o8 =>
      gd (obj o8 1) <|
      bI (fX11_draw N (S2.1 o8 4) S2) fun x10 S11 =>
      (if x1 = 0 then
        lt ((S11.2.2 5 4) : Nat) fun o35 =>
        lt ((S11.2.2 5 4) : Nat) fun o36 =>
        gd (obj o36 2) <|
        bI (fX2_isPlugged N o36 x10 S11) fun x37 S38 =>
        lt ((if x37 = 0 then 1 else 0) : Int32) fun x42 =>
        gd (obj o35 2) <|
        bV (fX2_setPlugged N o35 x10 x42 S38) fun S44 =>
        some S44
      else
        (if x1 = 1 then
          lt ((S11.2.2 5 4) : Nat) fun o27 =>
          bI (fX11_draw N 30 S11) fun x28 S29 =>
          gd (obj o27 2) <|
          bV (fX2_setHolds N o27 x10 (x28 + 1) S29) fun S32 =>
          some S32
        else
          lt ((S11.2.2 5 3) : Nat) fun o15 =>
          gd (obj o15 1) <|
          bI (fX11_draw N (S11.1 o15 4) S11) fun x17 S18 =>
          lt ((S18.2.2 5 4) : Nat) fun o20 =>
          lt ((if x17 ≤ x10 then (-1) else x17) : Int32) fun x22 =>
          gd (obj o20 2) <|
          bV (fX2_setInto N o20 x10 x22 S18) fun S24 =>
          some S24))))
set_option maxHeartbeats 4000000 in
set_option maxRecDepth 100000 in
theorem okX11_drawAct (N : Nat)  (S : PS) (T : PS) (h : fX11_drawAct N  S = some T) : CT mX11_drawAct 2 0 [.ref 0] S (qV T) := by
  refine ct_of [some (.ref 0), none, none, none] rfl (fun _ => rfl) (fun _ => Nat.le_of_ble_eq_true rfl) ?_
  unfold fX11_drawAct at h
  refine r_aload_n (x := 0) dX11_drawAct_0 rfl ?_
  refine r_bipush (v := 6) dX11_drawAct_1 rfl ?_
  obtain ⟨x1, S2, h3, h⟩ := bI_e h
  refine r_cVI (y := mX11_draw) (As := [.int 6]) (rest := []) dX11_drawAct_3 qX11_367 kX11_draw rfl ob0 vc11 rfl (okX11_draw N 6 S x1 S2 h3) (by decide) (Nat.zero_le _) rfl (Nat.le_of_ble_eq_true rfl) ?_
  refine r_istore_n (L' := [some (.ref 0), some (.int x1), none, none]) dX11_drawAct_6 (Nat.le_of_ble_eq_true rfl) rfl rfl ?_
  refine r_iload_n (x := x1) dX11_drawAct_7 rfl ?_
  refine r_iconst (v := 2) dX11_drawAct_8 rfl ?_
  refine r_icmp_gt (tgt := 25) dX11_drawAct_9 (by decide) (fun c4 => ?_) (fun c4 => ?_)
  · rw [if_pos c4] at h
    cases h
    exact r_return dX11_drawAct_25 rfl (Nat.zero_le _) ⟨rfl, rfl⟩
  · rw [if_neg c4] at h
    refine r_aload_n (x := 0) dX11_drawAct_12 rfl ?_
    refine r_getfield (o := 0) (v := .ref 5) dX11_drawAct_13 lX11_29 ck0 nC0 rfl ?_
    refine r_getfield (o := 5) (v := .ref (S2.2.2 5 3)) dX11_drawAct_16 lX11_92 ck5 nC5 rfl ?_
    refine r_topr (fun o5 ho5 => ?_)
    replace h := lt_e ho5 h
    obtain ⟨g6, h⟩ := gd_e h
    refine r_getfield (o := o5) (v := .int (S2.1 o5 4)) dX11_drawAct_19 lX11_113 g6.1 g6.2 rfl ?_
    refine r_if_ne (tgt := 26) dX11_drawAct_22 (by decide) (fun c7 => ?_) (fun c7 => ?_)
    · rw [if_neg c7] at h
      refine r_aload_n (x := 0) dX11_drawAct_26 rfl ?_
      refine r_aload_n (x := 0) dX11_drawAct_27 rfl ?_
      refine r_getfield (o := 0) (v := .ref 5) dX11_drawAct_28 lX11_29 ck0 nC0 rfl ?_
      refine r_getfield (o := 5) (v := .ref (S2.2.2 5 3)) dX11_drawAct_31 lX11_92 ck5 nC5 rfl ?_
      refine r_topr (fun o8 ho8 => ?_)
      replace h := lt_e ho8 h
      obtain ⟨g9, h⟩ := gd_e h
      refine r_getfield (o := o8) (v := .int (S2.1 o8 4)) dX11_drawAct_34 lX11_113 g9.1 g9.2 rfl ?_
      obtain ⟨x10, S11, h12, h⟩ := bI_e h
      refine r_cVI (y := mX11_draw) (As := [.int (S2.1 o8 4)]) (rest := []) dX11_drawAct_37 qX11_367 kX11_draw rfl ob0 vc11 rfl (okX11_draw N (S2.1 o8 4) S2 x10 S11 h12) (by decide) (Nat.zero_le _) rfl (Nat.le_of_ble_eq_true rfl) ?_
      refine r_istore_n (L' := [some (.ref 0), some (.int x1), some (.int x10), none]) dX11_drawAct_40 (Nat.le_of_ble_eq_true rfl) rfl rfl ?_
      refine r_iload_n (x := x1) dX11_drawAct_41 rfl ?_
      refine r_if_ne (tgt := 78) dX11_drawAct_42 (by decide) (fun c13 => ?_) (fun c13 => ?_)
      · rw [if_neg c13] at h
        refine r_iload_n (x := x1) dX11_drawAct_78 rfl ?_
        refine r_iconst (v := 1) dX11_drawAct_79 rfl ?_
        refine r_icmp_ne (tgt := 105) dX11_drawAct_80 (by decide) (fun c14 => ?_) (fun c14 => ?_)
        · rw [if_neg c14] at h
          refine r_aload_n (x := 0) dX11_drawAct_105 rfl ?_
          refine r_aload_n (x := 0) dX11_drawAct_106 rfl ?_
          refine r_getfield (o := 0) (v := .ref 5) dX11_drawAct_107 lX11_29 ck0 nC0 rfl ?_
          refine r_getfield (o := 5) (v := .ref (S11.2.2 5 3)) dX11_drawAct_110 lX11_92 ck5 nC5 rfl ?_
          refine r_topr (fun o15 ho15 => ?_)
          replace h := lt_e ho15 h
          obtain ⟨g16, h⟩ := gd_e h
          refine r_getfield (o := o15) (v := .int (S11.1 o15 4)) dX11_drawAct_113 lX11_113 g16.1 g16.2 rfl ?_
          obtain ⟨x17, S18, h19, h⟩ := bI_e h
          refine r_cVI (y := mX11_draw) (As := [.int (S11.1 o15 4)]) (rest := []) dX11_drawAct_116 qX11_367 kX11_draw rfl ob0 vc11 rfl (okX11_draw N (S11.1 o15 4) S11 x17 S18 h19) (by decide) (Nat.zero_le _) rfl (Nat.le_of_ble_eq_true rfl) ?_
          refine r_istore_n (L' := [some (.ref 0), some (.int x1), some (.int x10), some (.int x17)]) dX11_drawAct_119 (Nat.le_of_ble_eq_true rfl) rfl rfl ?_
          refine r_aload_n (x := 0) dX11_drawAct_120 rfl ?_
          refine r_getfield (o := 0) (v := .ref 5) dX11_drawAct_121 lX11_29 ck0 nC0 rfl ?_
          refine r_getfield (o := 5) (v := .ref (S18.2.2 5 4)) dX11_drawAct_124 lX11_220 ck5 nC5 rfl ?_
          refine r_topr (fun o20 ho20 => ?_)
          replace h := lt_e ho20 h
          refine r_iload_n (x := x10) dX11_drawAct_127 rfl ?_
          refine r_iload_n (x := x17) dX11_drawAct_128 rfl ?_
          refine r_iload_n (x := x10) dX11_drawAct_129 rfl ?_
          obtain ⟨x22, hx22⟩ : ∃ y : Int32, y = ((if x17 ≤ x10 then (-1) else x17) : Int32) := ⟨_, rfl⟩
          replace h := lt_e hx22 h
          have keyx22 : WP [] mX11_drawAct 2 0 (qV T) 138 [some (.ref 0), some (.int x1), some (.int x10), some (.int x17)] (.int x22 :: [.int x10, .ref o20]) S18 0 := by
            obtain ⟨g26, h⟩ := gd_e h
            obtain ⟨S24, h25, h⟩ := bV_e h
            refine r_cVV (y := mX2_setInto) (As := [.int x10, .int x22]) (rest := []) dX11_drawAct_138 qX11_198 kX2_setInto rfl g26 vc2 rfl (okX2_setInto N o20 x10 x22 S18 S24 h25) (by decide) (Nat.zero_le _) rfl (Nat.le_of_ble_eq_true rfl) ?_
            cases h
            exact r_return dX11_drawAct_141 rfl (Nat.zero_le _) ⟨rfl, rfl⟩
          refine r_icmp_le (tgt := 137) dX11_drawAct_130 (by decide) (fun c21 => ?_) (fun c21 => ?_)
          · refine r_iconst (v := (-1)) dX11_drawAct_137 rfl ?_
            exact r_tope (by rw [hx22, if_pos c21]) keyx22
          · refine r_iload_n (x := x17) dX11_drawAct_133 rfl ?_
            refine r_goto (tgt := 138) dX11_drawAct_134 (by decide) ?_
            exact r_tope (by rw [hx22, if_neg c21]) keyx22
        · rw [if_pos c14] at h
          refine r_aload_n (x := 0) dX11_drawAct_83 rfl ?_
          refine r_getfield (o := 0) (v := .ref 5) dX11_drawAct_84 lX11_29 ck0 nC0 rfl ?_
          refine r_getfield (o := 5) (v := .ref (S11.2.2 5 4)) dX11_drawAct_87 lX11_220 ck5 nC5 rfl ?_
          refine r_topr (fun o27 ho27 => ?_)
          replace h := lt_e ho27 h
          refine r_iload_n (x := x10) dX11_drawAct_90 rfl ?_
          refine r_aload_n (x := 0) dX11_drawAct_91 rfl ?_
          refine r_bipush (v := 30) dX11_drawAct_92 rfl ?_
          obtain ⟨x28, S29, h30, h⟩ := bI_e h
          refine r_cVI (y := mX11_draw) (As := [.int 30]) (rest := [.int x10, .ref o27]) dX11_drawAct_94 qX11_367 kX11_draw rfl ob0 vc11 rfl (okX11_draw N 30 S11 x28 S29 h30) (by decide) (Nat.zero_le _) rfl (Nat.le_of_ble_eq_true rfl) ?_
          refine r_iconst (v := 1) dX11_drawAct_97 rfl ?_
          refine r_iadd dX11_drawAct_98 ?_
          obtain ⟨g34, h⟩ := gd_e h
          obtain ⟨S32, h33, h⟩ := bV_e h
          refine r_cVV (y := mX2_setHolds) (As := [.int x10, .int (x28 + 1)]) (rest := []) dX11_drawAct_99 qX11_211 kX2_setHolds rfl g34 vc2 rfl (okX2_setHolds N o27 x10 (x28 + 1) S29 S32 h33) (by decide) (Nat.zero_le _) rfl (Nat.le_of_ble_eq_true rfl) ?_
          refine r_goto (tgt := 141) dX11_drawAct_102 (by decide) ?_
          cases h
          exact r_return dX11_drawAct_141 rfl (Nat.zero_le _) ⟨rfl, rfl⟩
      · rw [if_pos c13] at h
        refine r_aload_n (x := 0) dX11_drawAct_45 rfl ?_
        refine r_getfield (o := 0) (v := .ref 5) dX11_drawAct_46 lX11_29 ck0 nC0 rfl ?_
        refine r_getfield (o := 5) (v := .ref (S11.2.2 5 4)) dX11_drawAct_49 lX11_220 ck5 nC5 rfl ?_
        refine r_topr (fun o35 ho35 => ?_)
        replace h := lt_e ho35 h
        refine r_iload_n (x := x10) dX11_drawAct_52 rfl ?_
        refine r_aload_n (x := 0) dX11_drawAct_53 rfl ?_
        refine r_getfield (o := 0) (v := .ref 5) dX11_drawAct_54 lX11_29 ck0 nC0 rfl ?_
        refine r_getfield (o := 5) (v := .ref (S11.2.2 5 4)) dX11_drawAct_57 lX11_220 ck5 nC5 rfl ?_
        refine r_topr (fun o36 ho36 => ?_)
        replace h := lt_e ho36 h
        refine r_iload_n (x := x10) dX11_drawAct_60 rfl ?_
        obtain ⟨g40, h⟩ := gd_e h
        obtain ⟨x37, S38, h39, h⟩ := bI_e h
        refine r_cVI (y := mX2_isPlugged) (As := [.int x10]) (rest := [.int x10, .ref o35]) dX11_drawAct_61 qX11_175 kX2_isPlugged rfl g40 vc2 rfl (okX2_isPlugged N o36 x10 S11 x37 S38 h39) (by decide) (Nat.zero_le _) rfl (Nat.le_of_ble_eq_true rfl) ?_
        obtain ⟨x42, hx42⟩ : ∃ y : Int32, y = ((if x37 = 0 then 1 else 0) : Int32) := ⟨_, rfl⟩
        replace h := lt_e hx42 h
        have keyx42 : WP [] mX11_drawAct 2 0 (qV T) 72 [some (.ref 0), some (.int x1), some (.int x10), none] (.int x42 :: [.int x10, .ref o35]) S38 0 := by
          obtain ⟨g46, h⟩ := gd_e h
          obtain ⟨S44, h45, h⟩ := bV_e h
          refine r_cVV (y := mX2_setPlugged) (As := [.int x10, .int x42]) (rest := []) dX11_drawAct_72 qX11_201 kX2_setPlugged rfl g46 vc2 rfl (okX2_setPlugged N o35 x10 x42 S38 S44 h45) (by decide) (Nat.zero_le _) rfl (Nat.le_of_ble_eq_true rfl) ?_
          refine r_goto (tgt := 141) dX11_drawAct_75 (by decide) ?_
          cases h
          exact r_return dX11_drawAct_141 rfl (Nat.zero_le _) ⟨rfl, rfl⟩
        refine r_if_ne (tgt := 71) dX11_drawAct_64 (by decide) (fun c41 => ?_) (fun c41 => ?_)
        · refine r_iconst (v := 0) dX11_drawAct_71 rfl ?_
          exact r_tope (by rw [hx42, if_neg c41]) keyx42
        · refine r_iconst (v := 1) dX11_drawAct_67 rfl ?_
          refine r_goto (tgt := 72) dX11_drawAct_68 (by decide) ?_
          exact r_tope (by rw [hx42, if_pos c41]) keyx42
    · rw [if_pos c7] at h
      cases h
      exact r_return dX11_drawAct_25 rfl (Nat.zero_le _) ⟨rfl, rfl⟩
def fX11_leastOf_2 (N : Nat) (v0 : Int32) : Nat → Int32 → PS → Option (Nat × Int32 × PS)
  | 0, _, _ => none
  | n + 1, v1, S =>
    (if 9 ≤ v1 then
      some (0, v1, S)
    else
      bI (fX11_has N v0 v1 S) fun x2 S3 =>
      (if x2 = 0 then
        lt (v1 + 1 : Int32) fun x6 =>
        fX11_leastOf_2 N v0 n x6 S3
      else
        some (1, v1, S3)))
set_option maxHeartbeats 4000000 in
set_option maxRecDepth 100000 in
theorem okX11_leastOf_2 (N : Nat) (v0 : Int32) (Q : OQ) (u : Nat) (hu : u ≤ 0) : ∀ (n : Nat) (v1 : Int32) (S : PS) (tg : Nat) (y1 : Int32) (T : PS), fX11_leastOf_2 N v0 n v1 S = some (tg, y1, T) → (tg = 0 → WP [] mX11_leastOf 1 0 Q 24 [some (.int v0), some (.int y1)] [] T u) → (tg = 1 → WP [] mX11_leastOf 1 0 Q 16 [some (.int v0), some (.int y1)] [] T u) → WP [] mX11_leastOf 1 0 Q 2 [some (.int v0), some (.int v1)] [] S u := by
  intro n
  induction n with
  | zero => intro v1 S tg y1 T h; rw [fX11_leastOf_2] at h; cases h
  | succ n ih =>
    intro v1 S tg y1 T h k0 k1
    rw [fX11_leastOf_2] at h
    refine r_iload_n (x := v1) dX11_leastOf_2 rfl ?_
    refine r_bipush (v := 9) dX11_leastOf_3 rfl ?_
    refine r_icmp_ge (tgt := 24) dX11_leastOf_5 (by decide) (fun c1 => ?_) (fun c1 => ?_)
    · rw [if_pos c1] at h
      cases h
      exact k0 rfl
    · rw [if_neg c1] at h
      refine r_iload_n (x := v0) dX11_leastOf_8 rfl ?_
      refine r_iload_n (x := v1) dX11_leastOf_9 rfl ?_
      obtain ⟨x2, S3, h4, h⟩ := bI_e h
      refine r_cSI (y := mX11_has) (As := [.int v0, .int v1]) (rest := []) dX11_leastOf_10 qX11_332 kX11_has rfl (okX11_has N v0 v1 S x2 S3 h4) (by decide) hu rfl (Nat.le_of_ble_eq_true rfl) ?_
      refine r_if_eq (tgt := 18) dX11_leastOf_13 (by decide) (fun c5 => ?_) (fun c5 => ?_)
      · rw [if_pos c5] at h
        obtain ⟨x6, hx6⟩ : ∃ y : Int32, y = (v1 + 1 : Int32) := ⟨_, rfl⟩
        replace h := lt_e hx6 h
        refine r_iinc (x := v1) (v := x6) (L' := [some (.int v0), some (.int x6)]) dX11_leastOf_18 rfl (by rw [hx6]; rfl) (Nat.le_of_ble_eq_true rfl) rfl rfl ?_
        refine r_goto (tgt := 2) dX11_leastOf_21 (by decide) ?_
        exact ih _ _ _ _ _ h k0 k1
      · rw [if_neg c5] at h
        cases h
        exact k1 rfl
def fX11_leastOf (N : Nat) (p0 : Int32) (S : PS) : Option (Int32 × PS) :=
  bT (fX11_leastOf_2 N p0 N 0 S) fun q7 =>
  lt (q7.1 : Nat) fun t10 =>
  lt (q7.2.1 : Int32) fun x8 =>
  lt (q7.2.2 : PS) fun S9 =>
  (if t10 = 0 then
    some ((-1), S9)
  else 
    some (x8, S9))
set_option maxHeartbeats 4000000 in
set_option maxRecDepth 100000 in
theorem okX11_leastOf (N : Nat) (p0 : Int32) (S : PS) (r : Int32) (T : PS) (h : fX11_leastOf N p0 S = some (r, T)) : CT mX11_leastOf 1 0 [.int p0] S (qI r T) := by
  refine ct_of [some (.int p0), none] rfl (fun _ => rfl) (fun _ => Nat.le_of_ble_eq_true rfl) ?_
  unfold fX11_leastOf at h
  refine r_iconst (v := 0) dX11_leastOf_0 rfl ?_
  refine r_istore_n (L' := [some (.int p0), some (.int 0)]) dX11_leastOf_1 (Nat.le_of_ble_eq_true rfl) rfl rfl ?_
  obtain ⟨⟨t10, x8, S9⟩, h11, h⟩ := bT_e h
  dsimp only at h
  replace h := pl_s (pl_s (pl_s (h)))
  refine okX11_leastOf_2 N p0 (qI r T) 0 (Nat.zero_le _) _ _ _ _ _ _ h11 (fun et10 => ?_) (fun et10 => ?_)
  · rw [if_pos et10] at h
    refine r_iconst (v := (-1)) dX11_leastOf_24 rfl ?_
    cases h
    exact r_ireturn dX11_leastOf_25 rfl (Nat.zero_le _) ⟨rfl, rfl⟩
  · rw [if_neg (by rw [et10]; decide)] at h
    refine r_iload_n (x := x8) dX11_leastOf_16 rfl ?_
    cases h
    exact r_ireturn dX11_leastOf_17 rfl (Nat.zero_le _) ⟨rfl, rfl⟩
def fX1_clear (N : Nat) (p : Nat) (S : PS) : Option PS :=
  gd (obj p 1) <|
  bV (fJ7_fill_53178 N (sr p 0) 0 S) fun S3 =>
  gd (obj p 1) <|
  gd (obj (sr p 1) 2) <|
  bV (fX2_clear N (sr p 1) S3) fun S7 =>
  gd (obj p 1) <|
  gd (obj (sr p 2) 8) <|
  bV (fX8_clear N (sr p 2) S7) fun S12 =>
  gd (obj p 1) <|
  gd (obj (sr p 3) 8) <|
  bV (fX8_clear N (sr p 3) S12) fun S17 =>
  gd (obj p 1) <|
  lt ((u2 S17.1 p 4 0, S17.2) : PS) fun S21 =>
  some S21
set_option maxHeartbeats 4000000 in
set_option maxRecDepth 100000 in
theorem okX1_clear (N : Nat) (p : Nat) (S : PS) (T : PS) (h : fX1_clear N p S = some T) : CT mX1_clear 2 0 [.ref p] S (qV T) := by
  refine ct_of [some (.ref p)] rfl (fun _ => rfl) (fun _ => Nat.le_of_ble_eq_true rfl) ?_
  unfold fX1_clear at h
  refine r_aload_n (x := p) dX1_clear_0 rfl ?_
  obtain ⟨g1, h⟩ := gd_e h
  refine r_getfield (o := p) (v := .ref (sr p 0)) dX1_clear_1 lX1_9 g1.1 g1.2 rfl ?_
  refine r_iconst (v := 0) dX1_clear_4 rfl ?_
  obtain ⟨S3, h4, h⟩ := bV_e h
  refine r_cSV (y := mJ7_fill_53178) (As := [.ref (sr p 0), .int 0]) (rest := []) dX1_clear_5 qX1_36 kJ7_fill_53178 rfl (okJ7_fill_53178 N (sr p 0) 0 S S3 h4) (by decide) (Nat.zero_le _) rfl (Nat.le_of_ble_eq_true rfl) ?_
  refine r_aload_n (x := p) dX1_clear_8 rfl ?_
  obtain ⟨g5, h⟩ := gd_e h
  refine r_getfield (o := p) (v := .ref (sr p 1)) dX1_clear_9 lX1_18 g5.1 g5.2 rfl ?_
  obtain ⟨g9, h⟩ := gd_e h
  obtain ⟨S7, h8, h⟩ := bV_e h
  refine r_cVV (y := mX2_clear) (As := []) (rest := []) dX1_clear_12 qX1_42 kX2_clear rfl g9 vc2 rfl (okX2_clear N (sr p 1) S3 S7 h8) (by decide) (Nat.zero_le _) rfl (Nat.le_of_ble_eq_true rfl) ?_
  refine r_aload_n (x := p) dX1_clear_15 rfl ?_
  obtain ⟨g10, h⟩ := gd_e h
  refine r_getfield (o := p) (v := .ref (sr p 2)) dX1_clear_16 lX1_25 g10.1 g10.2 rfl ?_
  obtain ⟨g14, h⟩ := gd_e h
  obtain ⟨S12, h13, h⟩ := bV_e h
  refine r_cVV (y := mX8_clear) (As := []) (rest := []) dX1_clear_19 qX1_45 kX8_clear rfl g14 vc8 rfl (okX8_clear N (sr p 2) S7 S12 h13) (by decide) (Nat.zero_le _) rfl (Nat.le_of_ble_eq_true rfl) ?_
  refine r_aload_n (x := p) dX1_clear_22 rfl ?_
  obtain ⟨g15, h⟩ := gd_e h
  refine r_getfield (o := p) (v := .ref (sr p 3)) dX1_clear_23 lX1_29 g15.1 g15.2 rfl ?_
  obtain ⟨g19, h⟩ := gd_e h
  obtain ⟨S17, h18, h⟩ := bV_e h
  refine r_cVV (y := mX8_clear) (As := []) (rest := []) dX1_clear_26 qX1_45 kX8_clear rfl g19 vc8 rfl (okX8_clear N (sr p 3) S12 S17 h18) (by decide) (Nat.zero_le _) rfl (Nat.le_of_ble_eq_true rfl) ?_
  refine r_aload_n (x := p) dX1_clear_29 rfl ?_
  refine r_iconst (v := 0) dX1_clear_30 rfl ?_
  obtain ⟨g20, h⟩ := gd_e h
  refine r_putI dX1_clear_31 lX1_32 g20.1 g20.2 ?_
  refine r_topS (fun S21 hS21 => ?_)
  replace h := lt_e hS21 h
  cases h
  exact r_return dX1_clear_34 rfl (Nat.zero_le _) ⟨rfl, rfl⟩
def fX1_leak (N : Nat) (p : Nat) (p0 : Nat) (p1 : Int32) (S : PS) : Option (Int32 × PS) :=
  gd (obj p 1) <|
  gd (obj (sr p 2) 8) <|
  (if (S.1 (sr p 2) 3) = 0 then
    some (0, S)
  else
    gd (obj p0 2) <|
    gd (arr (sr p0 1) 1 9) <|
    gd (inr p1 9) <|
    gd (obj p 1) <|
    gd (obj p 1) <|
    gd (arr (sr p 0) 1 9) <|
    gd (inr p1 9) <|
    gd (obj (sr p 2) 8) <|
    bI (fX8_value N (sr p 2) p0 p1 (S.1 (sr p 0) (ix p1)) S) fun x11 S12 =>
    lt ((if x11 < (S.1 (sr p0 1) (ix p1)) then x11 else (S.1 (sr p0 1) (ix p1))) : Int32) fun x15 =>
    lt ((if (0 : Int32) < x15 then x15 else 0) : Int32) fun x16 =>
    some (x16, S12))
set_option maxHeartbeats 4000000 in
set_option maxRecDepth 100000 in
theorem okX1_leak (N : Nat) (p : Nat) (p0 : Nat) (p1 : Int32) (S : PS) (r : Int32) (T : PS) (h : fX1_leak N p p0 p1 S = some (r, T)) : CT mX1_leak 2 0 [.ref p, .ref p0, .int p1] S (qI r T) := by
  refine ct_of [some (.ref p), some (.ref p0), some (.int p1)] rfl (fun _ => rfl) (fun _ => Nat.le_of_ble_eq_true rfl) ?_
  unfold fX1_leak at h
  refine r_aload_n (x := p) dX1_leak_0 rfl ?_
  obtain ⟨g1, h⟩ := gd_e h
  refine r_getfield (o := p) (v := .ref (sr p 2)) dX1_leak_1 lX1_25 g1.1 g1.2 rfl ?_
  obtain ⟨g2, h⟩ := gd_e h
  refine r_getfield (o := (sr p 2)) (v := .int (S.1 (sr p 2) 3)) dX1_leak_4 lX1_51 g2.1 g2.2 rfl ?_
  refine r_if_ne (tgt := 12) dX1_leak_7 (by decide) (fun c3 => ?_) (fun c3 => ?_)
  · rw [if_neg c3] at h
    refine r_iconst (v := 0) dX1_leak_12 rfl ?_
    refine r_aload_n (x := p0) dX1_leak_13 rfl ?_
    obtain ⟨g4, h⟩ := gd_e h
    refine r_getfield (o := p0) (v := .ref (sr p0 1)) dX1_leak_14 lX1_49 g4.1 g4.2 rfl ?_
    refine r_iload_n (x := p1) dX1_leak_17 rfl ?_
    obtain ⟨g5, h⟩ := gd_e h
    obtain ⟨g6, h⟩ := gd_e h
    refine r_iaload (a := (sr p0 1)) dX1_leak_18 g5.1 g5.2 (inr_IX g6) ?_
    refine r_aload_n (x := p) dX1_leak_19 rfl ?_
    obtain ⟨g7, h⟩ := gd_e h
    refine r_getfield (o := p) (v := .ref (sr p 2)) dX1_leak_20 lX1_25 g7.1 g7.2 rfl ?_
    refine r_aload_n (x := p0) dX1_leak_23 rfl ?_
    refine r_iload_n (x := p1) dX1_leak_24 rfl ?_
    refine r_aload_n (x := p) dX1_leak_25 rfl ?_
    obtain ⟨g8, h⟩ := gd_e h
    refine r_getfield (o := p) (v := .ref (sr p 0)) dX1_leak_26 lX1_9 g8.1 g8.2 rfl ?_
    refine r_iload_n (x := p1) dX1_leak_29 rfl ?_
    obtain ⟨g9, h⟩ := gd_e h
    obtain ⟨g10, h⟩ := gd_e h
    refine r_iaload (a := (sr p 0)) dX1_leak_30 g9.1 g9.2 (inr_IX g10) ?_
    obtain ⟨g14, h⟩ := gd_e h
    obtain ⟨x11, S12, h13, h⟩ := bI_e h
    refine r_cVI (y := mX8_value) (As := [.ref p0, .int p1, .int (S.1 (sr p 0) (ix p1))]) (rest := [.int (S.1 (sr p0 1) (ix p1)), .int 0]) dX1_leak_31 qX1_55 kX8_value rfl g14 vc8 rfl (okX8_value N (sr p 2) p0 p1 (S.1 (sr p 0) (ix p1)) S x11 S12 h13) (by decide) (Nat.zero_le _) rfl (Nat.le_of_ble_eq_true rfl) ?_
    refine r_mmin dX1_leak_34 qX1_59 (by decide) (Nat.zero_le _) (Nat.le_of_ble_eq_true rfl) ?_
    refine r_topi (fun x15 hx15 => ?_)
    replace h := lt_e hx15 h
    refine r_mmax dX1_leak_37 qX1_65 (by decide) (Nat.zero_le _) (Nat.le_of_ble_eq_true rfl) ?_
    refine r_topi (fun x16 hx16 => ?_)
    replace h := lt_e hx16 h
    cases h
    exact r_ireturn dX1_leak_40 rfl (Nat.zero_le _) ⟨rfl, rfl⟩
  · rw [if_pos c3] at h
    refine r_iconst (v := 0) dX1_leak_10 rfl ?_
    cases h
    exact r_ireturn dX1_leak_11 rfl (Nat.zero_le _) ⟨rfl, rfl⟩
def fX3_springRuns (N : Nat) (p0 : Int32) (p1 : Int32) (S : PS) : Option (Int32 × PS) :=
  (if p1 = 1 then
    some (0, S)
  else
    lt ((S.2.2 5 4) : Nat) fun o2 =>
    gd (obj o2 2) <|
    bI (fX2_isPlugged N o2 p0 S) fun x3 S4 =>
    (if x3 = 0 then
      (if p1 = 2 then
        some (1, S4)
      else
        lt ((S4.2.2 5 3) : Nat) fun o9 =>
        gd (obj o9 1) <|
        gd (obj (sr o9 3) 8) <|
        (if (S4.1 (sr o9 3) 3) = 0 then
          some (1, S4)
        else
          lt ((S4.2.2 5 3) : Nat) fun o13 =>
          gd (obj o13 1) <|
          lt ((S4.2.2 5 4) : Nat) fun o15 =>
          lt ((S4.2.2 5 3) : Nat) fun o16 =>
          gd (obj o16 1) <|
          gd (arr (sr o16 0) 1 9) <|
          gd (inr p0 9) <|
          gd (obj (sr o13 3) 8) <|
          bI (fX8_value N (sr o13 3) o15 p0 (S4.1 (sr o16 0) (ix p0)) S4) fun x20 S21 =>
          lt ((if 0 < x20 then 0 else 1) : Int32) fun x25 =>
          gd (b01 x25) <|
          some (x25, S21)))
    else
      some (0, S4)))
set_option maxHeartbeats 4000000 in
set_option maxRecDepth 100000 in
theorem okX3_springRuns (N : Nat) (p0 : Int32) (p1 : Int32) (S : PS) (r : Int32) (T : PS) (h : fX3_springRuns N p0 p1 S = some (r, T)) : CT mX3_springRuns 2 0 [.ref 5, .int p0, .int p1] S (qI r T) := by
  refine ct_of [some (.ref 5), some (.int p0), some (.int p1)] rfl (fun _ => rfl) (fun _ => Nat.le_of_ble_eq_true rfl) ?_
  unfold fX3_springRuns at h
  refine r_iload_n (x := p1) dX3_springRuns_0 rfl ?_
  refine r_iconst (v := 1) dX3_springRuns_1 rfl ?_
  refine r_icmp_eq (tgt := 16) dX3_springRuns_2 (by decide) (fun c1 => ?_) (fun c1 => ?_)
  · rw [if_pos c1] at h
    refine r_iconst (v := 0) dX3_springRuns_16 rfl ?_
    cases h
    exact r_zreturn dX3_springRuns_17 rfl rfl (Nat.zero_le _) ⟨rfl, rfl⟩
  · rw [if_neg c1] at h
    refine r_aload_n (x := 5) dX3_springRuns_5 rfl ?_
    refine r_getfield (o := 5) (v := .ref (S.2.2 5 4)) dX3_springRuns_6 lX3_32 ck5 nC5 rfl ?_
    refine r_topr (fun o2 ho2 => ?_)
    replace h := lt_e ho2 h
    refine r_iload_n (x := p0) dX3_springRuns_9 rfl ?_
    obtain ⟨g6, h⟩ := gd_e h
    obtain ⟨x3, S4, h5, h⟩ := bI_e h
    refine r_cVI (y := mX2_isPlugged) (As := [.int p0]) (rest := []) dX3_springRuns_10 qX3_81 kX2_isPlugged rfl g6 vc2 rfl (okX2_isPlugged N o2 p0 S x3 S4 h5) (by decide) (Nat.zero_le _) rfl (Nat.le_of_ble_eq_true rfl) ?_
    refine r_if_eq (tgt := 18) dX3_springRuns_13 (by decide) (fun c7 => ?_) (fun c7 => ?_)
    · rw [if_pos c7] at h
      refine r_iload_n (x := p1) dX3_springRuns_18 rfl ?_
      refine r_iconst (v := 2) dX3_springRuns_19 rfl ?_
      refine r_icmp_eq (tgt := 36) dX3_springRuns_20 (by decide) (fun c8 => ?_) (fun c8 => ?_)
      · rw [if_pos c8] at h
        refine r_iconst (v := 1) dX3_springRuns_36 rfl ?_
        cases h
        exact r_zreturn dX3_springRuns_37 rfl rfl (Nat.zero_le _) ⟨rfl, rfl⟩
      · rw [if_neg c8] at h
        refine r_aload_n (x := 5) dX3_springRuns_23 rfl ?_
        refine r_getfield (o := 5) (v := .ref (S4.2.2 5 3)) dX3_springRuns_24 lX3_28 ck5 nC5 rfl ?_
        refine r_topr (fun o9 ho9 => ?_)
        replace h := lt_e ho9 h
        obtain ⟨g10, h⟩ := gd_e h
        refine r_getfield (o := o9) (v := .ref (sr o9 3)) dX3_springRuns_27 lX3_85 g10.1 g10.2 rfl ?_
        obtain ⟨g11, h⟩ := gd_e h
        refine r_getfield (o := (sr o9 3)) (v := .int (S4.1 (sr o9 3) 3)) dX3_springRuns_30 lX3_89 g11.1 g11.2 rfl ?_
        refine r_if_ne (tgt := 38) dX3_springRuns_33 (by decide) (fun c12 => ?_) (fun c12 => ?_)
        · rw [if_neg c12] at h
          refine r_aload_n (x := 5) dX3_springRuns_38 rfl ?_
          refine r_getfield (o := 5) (v := .ref (S4.2.2 5 3)) dX3_springRuns_39 lX3_28 ck5 nC5 rfl ?_
          refine r_topr (fun o13 ho13 => ?_)
          replace h := lt_e ho13 h
          obtain ⟨g14, h⟩ := gd_e h
          refine r_getfield (o := o13) (v := .ref (sr o13 3)) dX3_springRuns_42 lX3_85 g14.1 g14.2 rfl ?_
          refine r_aload_n (x := 5) dX3_springRuns_45 rfl ?_
          refine r_getfield (o := 5) (v := .ref (S4.2.2 5 4)) dX3_springRuns_46 lX3_32 ck5 nC5 rfl ?_
          refine r_topr (fun o15 ho15 => ?_)
          replace h := lt_e ho15 h
          refine r_iload_n (x := p0) dX3_springRuns_49 rfl ?_
          refine r_aload_n (x := 5) dX3_springRuns_50 rfl ?_
          refine r_getfield (o := 5) (v := .ref (S4.2.2 5 3)) dX3_springRuns_51 lX3_28 ck5 nC5 rfl ?_
          refine r_topr (fun o16 ho16 => ?_)
          replace h := lt_e ho16 h
          obtain ⟨g17, h⟩ := gd_e h
          refine r_getfield (o := o16) (v := .ref (sr o16 0)) dX3_springRuns_54 lX3_65 g17.1 g17.2 rfl ?_
          refine r_iload_n (x := p0) dX3_springRuns_57 rfl ?_
          obtain ⟨g18, h⟩ := gd_e h
          obtain ⟨g19, h⟩ := gd_e h
          refine r_iaload (a := (sr o16 0)) dX3_springRuns_58 g18.1 g18.2 (inr_IX g19) ?_
          obtain ⟨g23, h⟩ := gd_e h
          obtain ⟨x20, S21, h22, h⟩ := bI_e h
          refine r_cVI (y := mX8_value) (As := [.ref o15, .int p0, .int (S4.1 (sr o16 0) (ix p0))]) (rest := []) dX3_springRuns_59 qX3_95 kX8_value rfl g23 vc8 rfl (okX8_value N (sr o13 3) o15 p0 (S4.1 (sr o16 0) (ix p0)) S4 x20 S21 h22) (by decide) (Nat.zero_le _) rfl (Nat.le_of_ble_eq_true rfl) ?_
          obtain ⟨x25, hx25⟩ : ∃ y : Int32, y = ((if 0 < x20 then 0 else 1) : Int32) := ⟨_, rfl⟩
          replace h := lt_e hx25 h
          have keyx25 : WP [] mX3_springRuns 2 0 (qI r T) 70 [some (.ref 5), some (.int p0), some (.int p1)] (.int x25 :: []) S21 0 := by
            obtain ⟨g26, h⟩ := gd_e h
            cases h
            exact r_zreturn dX3_springRuns_70 rfl (nar01 g26) (Nat.zero_le _) ⟨rfl, rfl⟩
          refine r_if_gt (tgt := 69) dX3_springRuns_62 (by decide) (fun c24 => ?_) (fun c24 => ?_)
          · refine r_iconst (v := 0) dX3_springRuns_69 rfl ?_
            exact r_tope (by rw [hx25, if_pos c24]) keyx25
          · refine r_iconst (v := 1) dX3_springRuns_65 rfl ?_
            refine r_goto (tgt := 70) dX3_springRuns_66 (by decide) ?_
            exact r_tope (by rw [hx25, if_neg c24]) keyx25
        · rw [if_pos c12] at h
          refine r_iconst (v := 1) dX3_springRuns_36 rfl ?_
          cases h
          exact r_zreturn dX3_springRuns_37 rfl rfl (Nat.zero_le _) ⟨rfl, rfl⟩
    · rw [if_neg c7] at h
      refine r_iconst (v := 0) dX3_springRuns_16 rfl ?_
      cases h
      exact r_zreturn dX3_springRuns_17 rfl rfl (Nat.zero_le _) ⟨rfl, rfl⟩
def fX3_tip (N : Nat) (p0 : Int32) (p1 : Int32) (S : PS) : Option PS :=
  lt ((S.2.2 5 4) : Nat) fun o1 =>
  gd (obj o1 2) <|
  gd (arr (sr o1 1) 1 9) <|
  gd (inr p0 9) <|
  lt (((S.1 (sr o1 1) (ix p0)) + p1) : Int32) fun x5 =>
  lt ((S.2.2 5 4) : Nat) fun o6 =>
  gd (obj o6 2) <|
  gd (arr (sr o6 0) 1 9) <|
  gd (inr p0 9) <|
  lt ((if (1 : Int32) < (S.1 (sr o6 0) (ix p0)) then (S.1 (sr o6 0) (ix p0)) else 1) : Int32) fun x10 =>
  gd (¬ x10 = 0) <|
  lt ((x5 / x10) : Int32) fun x12 =>
  lt ((S.2.2 5 4) : Nat) fun o13 =>
  gd (obj o13 2) <|
  gd (arr (sr o13 1) 1 9) <|
  gd (inr p0 9) <|
  lt ((u2 S.1 (sr o13 1) (ix p0) (x5 - (x12 * x10)), S.2) : PS) fun S17 =>
  (if x12 ≤ 0 then
    some S17
  else
    bI (fX11_bitOf N p0 S17) fun x19 S20 =>
    lt ((u2 S20.1 5 5 ((S17.1 5 5) ||| x19), S20.2) : PS) fun S22 =>
    gd (inr p0 9) <|
    gd (inr p0 9) <|
    lt ((u2 S22.1 28 (ix p0) ((S22.1 28 (ix p0)) + x12), S22.2) : PS) fun S25 =>
    lt ((S25.2.2 5 4) : Nat) fun o26 =>
    gd (obj o26 2) <|
    lt ((S25.2.2 5 4) : Nat) fun o28 =>
    gd (obj o28 2) <|
    gd (arr (sr o28 4) 1 9) <|
    gd (inr p0 9) <|
    lt ((if ((S25.1 (sr o28 4) (ix p0)) + x12) < 1000000000 then ((S25.1 (sr o28 4) (ix p0)) + x12) else 1000000000) : Int32) fun x32 =>
    gd (arr (sr o26 4) 1 9) <|
    gd (inr p0 9) <|
    lt ((u2 S25.1 (sr o26 4) (ix p0) x32, S25.2) : PS) fun S35 =>
    bV (fX3_letGo N p0 x12 S35) fun S37 =>
    some S37)
set_option maxHeartbeats 4000000 in
set_option maxRecDepth 100000 in
theorem okX3_tip (N : Nat) (p0 : Int32) (p1 : Int32) (S : PS) (T : PS) (h : fX3_tip N p0 p1 S = some T) : CT mX3_tip 2 0 [.ref 5, .int p0, .int p1] S (qV T) := by
  refine ct_of [some (.ref 5), some (.int p0), some (.int p1), none, none, none] rfl (fun _ => rfl) (fun _ => Nat.le_of_ble_eq_true rfl) ?_
  unfold fX3_tip at h
  refine r_aload_n (x := 5) dX3_tip_0 rfl ?_
  refine r_getfield (o := 5) (v := .ref (S.2.2 5 4)) dX3_tip_1 lX3_32 ck5 nC5 rfl ?_
  refine r_topr (fun o1 ho1 => ?_)
  replace h := lt_e ho1 h
  obtain ⟨g2, h⟩ := gd_e h
  refine r_getfield (o := o1) (v := .ref (sr o1 1)) dX3_tip_4 lX3_76 g2.1 g2.2 rfl ?_
  refine r_iload_n (x := p0) dX3_tip_7 rfl ?_
  obtain ⟨g3, h⟩ := gd_e h
  obtain ⟨g4, h⟩ := gd_e h
  refine r_iaload (a := (sr o1 1)) dX3_tip_8 g3.1 g3.2 (inr_IX g4) ?_
  refine r_iload_n (x := p1) dX3_tip_9 rfl ?_
  refine r_iadd dX3_tip_10 ?_
  refine r_topi (fun x5 hx5 => ?_)
  replace h := lt_e hx5 h
  refine r_istore_n (L' := [some (.ref 5), some (.int p0), some (.int p1), some (.int x5), none, none]) dX3_tip_11 (Nat.le_of_ble_eq_true rfl) rfl rfl ?_
  refine r_iconst (v := 1) dX3_tip_12 rfl ?_
  refine r_aload_n (x := 5) dX3_tip_13 rfl ?_
  refine r_getfield (o := 5) (v := .ref (S.2.2 5 4)) dX3_tip_14 lX3_32 ck5 nC5 rfl ?_
  refine r_topr (fun o6 ho6 => ?_)
  replace h := lt_e ho6 h
  obtain ⟨g7, h⟩ := gd_e h
  refine r_getfield (o := o6) (v := .ref (sr o6 0)) dX3_tip_17 lX3_99 g7.1 g7.2 rfl ?_
  refine r_iload_n (x := p0) dX3_tip_20 rfl ?_
  obtain ⟨g8, h⟩ := gd_e h
  obtain ⟨g9, h⟩ := gd_e h
  refine r_iaload (a := (sr o6 0)) dX3_tip_21 g8.1 g8.2 (inr_IX g9) ?_
  refine r_mmax dX3_tip_22 qX3_102 (by decide) (Nat.zero_le _) (Nat.le_of_ble_eq_true rfl) ?_
  refine r_topi (fun x10 hx10 => ?_)
  replace h := lt_e hx10 h
  refine r_istore (L' := [some (.ref 5), some (.int p0), some (.int p1), some (.int x5), some (.int x10), none]) dX3_tip_25 (Nat.le_of_ble_eq_true rfl) rfl rfl ?_
  refine r_iload_n (x := x5) dX3_tip_27 rfl ?_
  refine r_iload (x := x10) dX3_tip_28 rfl ?_
  obtain ⟨g11, h⟩ := gd_e h
  refine r_idiv dX3_tip_30 g11 ?_
  refine r_topi (fun x12 hx12 => ?_)
  replace h := lt_e hx12 h
  refine r_istore (L' := [some (.ref 5), some (.int p0), some (.int p1), some (.int x5), some (.int x10), some (.int x12)]) dX3_tip_31 (Nat.le_of_ble_eq_true rfl) rfl rfl ?_
  refine r_aload_n (x := 5) dX3_tip_33 rfl ?_
  refine r_getfield (o := 5) (v := .ref (S.2.2 5 4)) dX3_tip_34 lX3_32 ck5 nC5 rfl ?_
  refine r_topr (fun o13 ho13 => ?_)
  replace h := lt_e ho13 h
  obtain ⟨g14, h⟩ := gd_e h
  refine r_getfield (o := o13) (v := .ref (sr o13 1)) dX3_tip_37 lX3_76 g14.1 g14.2 rfl ?_
  refine r_iload_n (x := p0) dX3_tip_40 rfl ?_
  refine r_iload_n (x := x5) dX3_tip_41 rfl ?_
  refine r_iload (x := x12) dX3_tip_42 rfl ?_
  refine r_iload (x := x10) dX3_tip_44 rfl ?_
  refine r_imul dX3_tip_46 ?_
  refine r_isub dX3_tip_47 ?_
  obtain ⟨g15, h⟩ := gd_e h
  obtain ⟨g16, h⟩ := gd_e h
  refine r_iastore (a := (sr o13 1)) dX3_tip_48 g15.1 g15.2 (inr_IX g16) ?_
  refine r_topS (fun S17 hS17 => ?_)
  replace h := lt_e hS17 h
  refine r_iload (x := x12) dX3_tip_49 rfl ?_
  refine r_if_le (tgt := 111) dX3_tip_51 (by decide) (fun c18 => ?_) (fun c18 => ?_)
  · rw [if_pos c18] at h
    cases h
    exact r_return dX3_tip_111 rfl (Nat.zero_le _) ⟨rfl, rfl⟩
  · rw [if_neg c18] at h
    refine r_aload_n (x := 5) dX3_tip_54 rfl ?_
    refine r_dup_ref dX3_tip_55 ?_
    refine r_getfield (o := 5) (v := .int (S17.1 5 5)) dX3_tip_56 lX3_35 ck5 nC5 rfl ?_
    refine r_iload_n (x := p0) dX3_tip_59 rfl ?_
    obtain ⟨x19, S20, h21, h⟩ := bI_e h
    refine r_cNI (y := mX11_bitOf) (As := [.int p0]) (rest := [.int (S17.1 5 5), .ref 5]) (host := "DripCups") dX3_tip_60 (by decide) kX11_bitOf rfl (okX11_bitOf N p0 S17 x19 S20 h21) (by decide) (Nat.zero_le _) rfl (Nat.le_of_ble_eq_true rfl) ?_
    refine r_ior dX3_tip_63 ?_
    refine r_putI dX3_tip_64 lX3_35 ck5 nC5 ?_
    refine r_topS (fun S22 hS22 => ?_)
    replace h := lt_e hS22 h
    refine r_aload_n (x := 5) dX3_tip_67 rfl ?_
    refine r_getfield (o := 5) (v := .ref 28) dX3_tip_68 lX3_22 ck5 nC5 rfl ?_
    refine r_iload_n (x := p0) dX3_tip_71 rfl ?_
    refine r_dup2 dX3_tip_72 ?_
    obtain ⟨g23, h⟩ := gd_e h
    refine r_iaload (a := 28) dX3_tip_73 ck28 nC28 (inr_IX g23) ?_
    refine r_iload (x := x12) dX3_tip_74 rfl ?_
    refine r_iadd dX3_tip_76 ?_
    obtain ⟨g24, h⟩ := gd_e h
    refine r_iastore (a := 28) dX3_tip_77 ck28 nC28 (inr_IX g24) ?_
    refine r_topS (fun S25 hS25 => ?_)
    replace h := lt_e hS25 h
    refine r_aload_n (x := 5) dX3_tip_78 rfl ?_
    refine r_getfield (o := 5) (v := .ref (S25.2.2 5 4)) dX3_tip_79 lX3_32 ck5 nC5 rfl ?_
    refine r_topr (fun o26 ho26 => ?_)
    replace h := lt_e ho26 h
    obtain ⟨g27, h⟩ := gd_e h
    refine r_getfield (o := o26) (v := .ref (sr o26 4)) dX3_tip_82 lX3_112 g27.1 g27.2 rfl ?_
    refine r_iload_n (x := p0) dX3_tip_85 rfl ?_
    refine r_ldc (v := 1000000000) dX3_tip_86 kX3_115 ?_
    refine r_aload_n (x := 5) dX3_tip_88 rfl ?_
    refine r_getfield (o := 5) (v := .ref (S25.2.2 5 4)) dX3_tip_89 lX3_32 ck5 nC5 rfl ?_
    refine r_topr (fun o28 ho28 => ?_)
    replace h := lt_e ho28 h
    obtain ⟨g29, h⟩ := gd_e h
    refine r_getfield (o := o28) (v := .ref (sr o28 4)) dX3_tip_92 lX3_112 g29.1 g29.2 rfl ?_
    refine r_iload_n (x := p0) dX3_tip_95 rfl ?_
    obtain ⟨g30, h⟩ := gd_e h
    obtain ⟨g31, h⟩ := gd_e h
    refine r_iaload (a := (sr o28 4)) dX3_tip_96 g30.1 g30.2 (inr_IX g31) ?_
    refine r_iload (x := x12) dX3_tip_97 rfl ?_
    refine r_iadd dX3_tip_99 ?_
    refine r_mmin dX3_tip_100 qX3_116 (by decide) (Nat.zero_le _) (Nat.le_of_ble_eq_true rfl) ?_
    refine r_topi (fun x32 hx32 => ?_)
    replace h := lt_e hx32 h
    obtain ⟨g33, h⟩ := gd_e h
    obtain ⟨g34, h⟩ := gd_e h
    refine r_iastore (a := (sr o26 4)) dX3_tip_103 g33.1 g33.2 (inr_IX g34) ?_
    refine r_topS (fun S35 hS35 => ?_)
    replace h := lt_e hS35 h
    refine r_aload_n (x := 5) dX3_tip_104 rfl ?_
    refine r_iload_n (x := p0) dX3_tip_105 rfl ?_
    refine r_iload (x := x12) dX3_tip_106 rfl ?_
    obtain ⟨S37, h38, h⟩ := bV_e h
    refine r_cVV (y := mX3_letGo) (As := [.int p0, .int x12]) (rest := []) dX3_tip_108 qX3_119 kX3_letGo rfl ob5 vc3 rfl (okX3_letGo N p0 x12 S35 S37 h38) (by decide) (Nat.zero_le _) rfl (Nat.le_of_ble_eq_true rfl) ?_
    cases h
    exact r_return dX3_tip_111 rfl (Nat.zero_le _) ⟨rfl, rfl⟩
def fX7_readSign (N : Nat) (p0 : Int32) (S : PS) : Option PS :=
  (if (S.1 1 3) = 0 then
    bI (fX10_isSign N p0 S) fun x2 S3 =>
    (if x2 = 0 then
      bI (fX7_fail N 1 S3) fun x6 S7 =>
      some S7
    else
      bV (fX10_take N  S3) fun S10 =>
      some S10)
  else
    some S)
set_option maxHeartbeats 4000000 in
set_option maxRecDepth 100000 in
theorem okX7_readSign (N : Nat) (p0 : Int32) (S : PS) (T : PS) (h : fX7_readSign N p0 S = some T) : CT mX7_readSign 2 0 [.ref 1, .int p0] S (qV T) := by
  refine ct_of [some (.ref 1), some (.int p0)] rfl (fun _ => rfl) (fun _ => Nat.le_of_ble_eq_true rfl) ?_
  unfold fX7_readSign at h
  refine r_aload_n (x := 1) dX7_readSign_0 rfl ?_
  refine r_getfield (o := 1) (v := .int (S.1 1 3)) dX7_readSign_1 lX7_32 ck1 nC1 rfl ?_
  refine r_if_eq (tgt := 8) dX7_readSign_4 (by decide) (fun c1 => ?_) (fun c1 => ?_)
  · rw [if_pos c1] at h
    refine r_aload_n (x := 1) dX7_readSign_8 rfl ?_
    refine r_getfield (o := 1) (v := .ref 2) dX7_readSign_9 lX7_12 ck1 nC1 rfl ?_
    refine r_iload_n (x := p0) dX7_readSign_12 rfl ?_
    obtain ⟨x2, S3, h4, h⟩ := bI_e h
    refine r_cVI (y := mX10_isSign) (As := [.int p0]) (rest := []) dX7_readSign_13 qX7_79 kX10_isSign rfl ob2 vc10 rfl (okX10_isSign N p0 S x2 S3 h4) (by decide) (Nat.zero_le _) rfl (Nat.le_of_ble_eq_true rfl) ?_
    refine r_if_eq (tgt := 29) dX7_readSign_16 (by decide) (fun c5 => ?_) (fun c5 => ?_)
    · rw [if_pos c5] at h
      refine r_aload_n (x := 1) dX7_readSign_29 rfl ?_
      refine r_iconst (v := 1) dX7_readSign_30 rfl ?_
      obtain ⟨x6, S7, h8, h⟩ := bI_e h
      refine r_cVI (y := mX7_fail) (As := [.int 1]) (rest := []) dX7_readSign_31 qX7_72 kX7_fail rfl ob1 vc7 rfl (okX7_fail N 1 S3 x6 S7 h8) (by decide) (Nat.zero_le _) rfl (Nat.le_of_ble_eq_true rfl) ?_
      refine r_pop_int dX7_readSign_34 ?_
      cases h
      exact r_return dX7_readSign_35 rfl (Nat.zero_le _) ⟨rfl, rfl⟩
    · rw [if_neg c5] at h
      refine r_aload_n (x := 1) dX7_readSign_19 rfl ?_
      refine r_getfield (o := 1) (v := .ref 2) dX7_readSign_20 lX7_12 ck1 nC1 rfl ?_
      obtain ⟨S10, h11, h⟩ := bV_e h
      refine r_cVV (y := mX10_take) (As := []) (rest := []) dX7_readSign_23 qX7_83 kX10_take rfl ob2 vc10 rfl (okX10_take N  S3 S10 h11) (by decide) (Nat.zero_le _) rfl (Nat.le_of_ble_eq_true rfl) ?_
      refine r_goto (tgt := 35) dX7_readSign_26 (by decide) ?_
      cases h
      exact r_return dX7_readSign_35 rfl (Nat.zero_le _) ⟨rfl, rfl⟩
  · rw [if_neg c1] at h
    cases h
    exact r_return dX7_readSign_7 rfl (Nat.zero_le _) ⟨rfl, rfl⟩
def fX7_readNumber (N : Nat) (p0 : Int32) (p1 : Int32) (S : PS) : Option (Int32 × PS) :=
  (if (S.1 1 3) = 0 then
    (if (S.1 2 5) = 2 then
      lt ((S.1 2 6) : Int32) fun x3 =>
      bI (fX10_isTooLong N  S) fun x4 S5 =>
      (if x4 = 0 then
        (if x3 < p0 then
          bI (fX7_fail N 2 S5) fun x12 S13 =>
          some (x12, S13)
        else
          (if x3 ≤ p1 then
            bV (fX10_take N  S5) fun S17 =>
            some (x3, S17)
          else
            bI (fX7_fail N 2 S5) fun x19 S20 =>
            some (x19, S20)))
      else
        bI (fX7_fail N 2 S5) fun x8 S9 =>
        some (x8, S9))
    else
      bI (fX7_fail N 1 S) fun x22 S23 =>
      some (x22, S23))
  else
    some ((-1), S))
set_option maxHeartbeats 4000000 in
set_option maxRecDepth 100000 in
theorem okX7_readNumber (N : Nat) (p0 : Int32) (p1 : Int32) (S : PS) (r : Int32) (T : PS) (h : fX7_readNumber N p0 p1 S = some (r, T)) : CT mX7_readNumber 2 0 [.ref 1, .int p0, .int p1] S (qI r T) := by
  refine ct_of [some (.ref 1), some (.int p0), some (.int p1), none] rfl (fun _ => rfl) (fun _ => Nat.le_of_ble_eq_true rfl) ?_
  unfold fX7_readNumber at h
  refine r_aload_n (x := 1) dX7_readNumber_0 rfl ?_
  refine r_getfield (o := 1) (v := .int (S.1 1 3)) dX7_readNumber_1 lX7_32 ck1 nC1 rfl ?_
  refine r_if_eq (tgt := 9) dX7_readNumber_4 (by decide) (fun c1 => ?_) (fun c1 => ?_)
  · rw [if_pos c1] at h
    refine r_aload_n (x := 1) dX7_readNumber_9 rfl ?_
    refine r_getfield (o := 1) (v := .ref 2) dX7_readNumber_10 lX7_12 ck1 nC1 rfl ?_
    refine r_getfield (o := 2) (v := .int (S.1 2 5)) dX7_readNumber_13 lX7_46 ck2 nC2 rfl ?_
    refine r_iconst (v := 2) dX7_readNumber_16 rfl ?_
    refine r_icmp_eq (tgt := 26) dX7_readNumber_17 (by decide) (fun c2 => ?_) (fun c2 => ?_)
    · rw [if_pos c2] at h
      refine r_aload_n (x := 1) dX7_readNumber_26 rfl ?_
      refine r_getfield (o := 1) (v := .ref 2) dX7_readNumber_27 lX7_12 ck1 nC1 rfl ?_
      refine r_getfield (o := 2) (v := .int (S.1 2 6)) dX7_readNumber_30 lX7_101 ck2 nC2 rfl ?_
      refine r_topi (fun x3 hx3 => ?_)
      replace h := lt_e hx3 h
      refine r_istore_n (L' := [some (.ref 1), some (.int p0), some (.int p1), some (.int x3)]) dX7_readNumber_33 (Nat.le_of_ble_eq_true rfl) rfl rfl ?_
      refine r_aload_n (x := 1) dX7_readNumber_34 rfl ?_
      refine r_getfield (o := 1) (v := .ref 2) dX7_readNumber_35 lX7_12 ck1 nC1 rfl ?_
      obtain ⟨x4, S5, h6, h⟩ := bI_e h
      refine r_cVI (y := mX10_isTooLong) (As := []) (rest := []) dX7_readNumber_38 qX7_104 kX10_isTooLong rfl ob2 vc10 rfl (okX10_isTooLong N  S x4 S5 h6) (by decide) (Nat.zero_le _) rfl (Nat.le_of_ble_eq_true rfl) ?_
      refine r_if_ne (tgt := 54) dX7_readNumber_41 (by decide) (fun c7 => ?_) (fun c7 => ?_)
      · rw [if_neg c7] at h
        refine r_aload_n (x := 1) dX7_readNumber_54 rfl ?_
        refine r_iconst (v := 2) dX7_readNumber_55 rfl ?_
        obtain ⟨x8, S9, h10, h⟩ := bI_e h
        refine r_cVI (y := mX7_fail) (As := [.int 2]) (rest := []) dX7_readNumber_56 qX7_72 kX7_fail rfl ob1 vc7 rfl (okX7_fail N 2 S5 x8 S9 h10) (by decide) (Nat.zero_le _) rfl (Nat.le_of_ble_eq_true rfl) ?_
        cases h
        exact r_ireturn dX7_readNumber_59 rfl (Nat.zero_le _) ⟨rfl, rfl⟩
      · rw [if_pos c7] at h
        refine r_iload_n (x := x3) dX7_readNumber_44 rfl ?_
        refine r_iload_n (x := p0) dX7_readNumber_45 rfl ?_
        refine r_icmp_lt (tgt := 54) dX7_readNumber_46 (by decide) (fun c11 => ?_) (fun c11 => ?_)
        · rw [if_pos c11] at h
          refine r_aload_n (x := 1) dX7_readNumber_54 rfl ?_
          refine r_iconst (v := 2) dX7_readNumber_55 rfl ?_
          obtain ⟨x12, S13, h14, h⟩ := bI_e h
          refine r_cVI (y := mX7_fail) (As := [.int 2]) (rest := []) dX7_readNumber_56 qX7_72 kX7_fail rfl ob1 vc7 rfl (okX7_fail N 2 S5 x12 S13 h14) (by decide) (Nat.zero_le _) rfl (Nat.le_of_ble_eq_true rfl) ?_
          cases h
          exact r_ireturn dX7_readNumber_59 rfl (Nat.zero_le _) ⟨rfl, rfl⟩
        · rw [if_neg c11] at h
          refine r_iload_n (x := x3) dX7_readNumber_49 rfl ?_
          refine r_iload_n (x := p1) dX7_readNumber_50 rfl ?_
          refine r_icmp_le (tgt := 60) dX7_readNumber_51 (by decide) (fun c15 => ?_) (fun c15 => ?_)
          · rw [if_pos c15] at h
            refine r_aload_n (x := 1) dX7_readNumber_60 rfl ?_
            refine r_getfield (o := 1) (v := .ref 2) dX7_readNumber_61 lX7_12 ck1 nC1 rfl ?_
            obtain ⟨S17, h18, h⟩ := bV_e h
            refine r_cVV (y := mX10_take) (As := []) (rest := []) dX7_readNumber_64 qX7_83 kX10_take rfl ob2 vc10 rfl (okX10_take N  S5 S17 h18) (by decide) (Nat.zero_le _) rfl (Nat.le_of_ble_eq_true rfl) ?_
            refine r_iload_n (x := x3) dX7_readNumber_67 rfl ?_
            cases h
            exact r_ireturn dX7_readNumber_68 rfl (Nat.zero_le _) ⟨rfl, rfl⟩
          · rw [if_neg c15] at h
            refine r_aload_n (x := 1) dX7_readNumber_54 rfl ?_
            refine r_iconst (v := 2) dX7_readNumber_55 rfl ?_
            obtain ⟨x19, S20, h21, h⟩ := bI_e h
            refine r_cVI (y := mX7_fail) (As := [.int 2]) (rest := []) dX7_readNumber_56 qX7_72 kX7_fail rfl ob1 vc7 rfl (okX7_fail N 2 S5 x19 S20 h21) (by decide) (Nat.zero_le _) rfl (Nat.le_of_ble_eq_true rfl) ?_
            cases h
            exact r_ireturn dX7_readNumber_59 rfl (Nat.zero_le _) ⟨rfl, rfl⟩
    · rw [if_neg c2] at h
      refine r_aload_n (x := 1) dX7_readNumber_20 rfl ?_
      refine r_iconst (v := 1) dX7_readNumber_21 rfl ?_
      obtain ⟨x22, S23, h24, h⟩ := bI_e h
      refine r_cVI (y := mX7_fail) (As := [.int 1]) (rest := []) dX7_readNumber_22 qX7_72 kX7_fail rfl ob1 vc7 rfl (okX7_fail N 1 S x22 S23 h24) (by decide) (Nat.zero_le _) rfl (Nat.le_of_ble_eq_true rfl) ?_
      cases h
      exact r_ireturn dX7_readNumber_25 rfl (Nat.zero_le _) ⟨rfl, rfl⟩
  · rw [if_neg c1] at h
    refine r_iconst (v := (-1)) dX7_readNumber_7 rfl ?_
    cases h
    exact r_ireturn dX7_readNumber_8 rfl (Nat.zero_le _) ⟨rfl, rfl⟩
def fX7_readInto (N : Nat) (p0 : Int32) (p1 : Int32) (S : PS) : Option (Int32 × PS) :=
  bI (fX7_lookAtCup N  S) fun x1 S2 =>
  (if x1 = (-1) then
    some ((-1), S2)
  else
    (if x1 ≤ p0 then
      bI (fX7_fail N 4 S2) fun x6 S7 =>
      some (x6, S7)
    else
      (if x1 = p1 then
        bI (fX7_fail N 4 S2) fun x13 S14 =>
        some (x13, S14)
      else
        bV (fX10_take N  S2) fun S11 =>
        some (x1, S11))))
set_option maxHeartbeats 4000000 in
set_option maxRecDepth 100000 in
theorem okX7_readInto (N : Nat) (p0 : Int32) (p1 : Int32) (S : PS) (r : Int32) (T : PS) (h : fX7_readInto N p0 p1 S = some (r, T)) : CT mX7_readInto 2 0 [.ref 1, .int p0, .int p1] S (qI r T) := by
  refine ct_of [some (.ref 1), some (.int p0), some (.int p1), none] rfl (fun _ => rfl) (fun _ => Nat.le_of_ble_eq_true rfl) ?_
  unfold fX7_readInto at h
  refine r_aload_n (x := 1) dX7_readInto_0 rfl ?_
  obtain ⟨x1, S2, h3, h⟩ := bI_e h
  refine r_cVI (y := mX7_lookAtCup) (As := []) (rest := []) dX7_readInto_1 qX7_108 kX7_lookAtCup rfl ob1 vc7 rfl (okX7_lookAtCup N  S x1 S2 h3) (by decide) (Nat.zero_le _) rfl (Nat.le_of_ble_eq_true rfl) ?_
  refine r_istore_n (L' := [some (.ref 1), some (.int p0), some (.int p1), some (.int x1)]) dX7_readInto_4 (Nat.le_of_ble_eq_true rfl) rfl rfl ?_
  refine r_iload_n (x := x1) dX7_readInto_5 rfl ?_
  refine r_iconst (v := (-1)) dX7_readInto_6 rfl ?_
  refine r_icmp_ne (tgt := 12) dX7_readInto_7 (by decide) (fun c4 => ?_) (fun c4 => ?_)
  · rw [if_neg c4] at h
    refine r_iload_n (x := x1) dX7_readInto_12 rfl ?_
    refine r_iload_n (x := p0) dX7_readInto_13 rfl ?_
    refine r_icmp_le (tgt := 22) dX7_readInto_14 (by decide) (fun c5 => ?_) (fun c5 => ?_)
    · rw [if_pos c5] at h
      refine r_aload_n (x := 1) dX7_readInto_22 rfl ?_
      refine r_iconst (v := 4) dX7_readInto_23 rfl ?_
      obtain ⟨x6, S7, h8, h⟩ := bI_e h
      refine r_cVI (y := mX7_fail) (As := [.int 4]) (rest := []) dX7_readInto_24 qX7_72 kX7_fail rfl ob1 vc7 rfl (okX7_fail N 4 S2 x6 S7 h8) (by decide) (Nat.zero_le _) rfl (Nat.le_of_ble_eq_true rfl) ?_
      cases h
      exact r_ireturn dX7_readInto_27 rfl (Nat.zero_le _) ⟨rfl, rfl⟩
    · rw [if_neg c5] at h
      refine r_iload_n (x := x1) dX7_readInto_17 rfl ?_
      refine r_iload_n (x := p1) dX7_readInto_18 rfl ?_
      refine r_icmp_ne (tgt := 28) dX7_readInto_19 (by decide) (fun c9 => ?_) (fun c9 => ?_)
      · rw [if_neg c9] at h
        refine r_aload_n (x := 1) dX7_readInto_28 rfl ?_
        refine r_getfield (o := 1) (v := .ref 2) dX7_readInto_29 lX7_12 ck1 nC1 rfl ?_
        obtain ⟨S11, h12, h⟩ := bV_e h
        refine r_cVV (y := mX10_take) (As := []) (rest := []) dX7_readInto_32 qX7_83 kX10_take rfl ob2 vc10 rfl (okX10_take N  S2 S11 h12) (by decide) (Nat.zero_le _) rfl (Nat.le_of_ble_eq_true rfl) ?_
        refine r_iload_n (x := x1) dX7_readInto_35 rfl ?_
        cases h
        exact r_ireturn dX7_readInto_36 rfl (Nat.zero_le _) ⟨rfl, rfl⟩
      · rw [if_pos c9] at h
        refine r_aload_n (x := 1) dX7_readInto_22 rfl ?_
        refine r_iconst (v := 4) dX7_readInto_23 rfl ?_
        obtain ⟨x13, S14, h15, h⟩ := bI_e h
        refine r_cVI (y := mX7_fail) (As := [.int 4]) (rest := []) dX7_readInto_24 qX7_72 kX7_fail rfl ob1 vc7 rfl (okX7_fail N 4 S2 x13 S14 h15) (by decide) (Nat.zero_le _) rfl (Nat.le_of_ble_eq_true rfl) ?_
        cases h
        exact r_ireturn dX7_readInto_27 rfl (Nat.zero_le _) ⟨rfl, rfl⟩
  · rw [if_pos c4] at h
    refine r_iconst (v := (-1)) dX7_readInto_10 rfl ?_
    cases h
    exact r_ireturn dX7_readInto_11 rfl (Nat.zero_le _) ⟨rfl, rfl⟩
def fX7_readValue (N : Nat)  (S : PS) : Option PS :=
  bI (fX7_valueSign N  S) fun x1 S2 =>
  (if x1 = 0 then
    bI (fX7_fail N 3 S2) fun x13 S14 =>
    some S14
  else
    lt ((S2.2.2 1 2) : Nat) fun o5 =>
    gd (obj o5 8) <|
    bV (fX8_add N o5 x1 S2) fun S7 =>
    bV (fX10_take N  S7) fun S11 =>
    some S11)
set_option maxHeartbeats 4000000 in
set_option maxRecDepth 100000 in
theorem okX7_readValue (N : Nat)  (S : PS) (T : PS) (h : fX7_readValue N  S = some T) : CT mX7_readValue 6 0 [.ref 1] S (qV T) := by
  refine ct_of [some (.ref 1), none] rfl (fun _ => rfl) (fun _ => Nat.le_of_ble_eq_true rfl) ?_
  unfold fX7_readValue at h
  refine r_aload_n (x := 1) dX7_readValue_0 rfl ?_
  obtain ⟨x1, S2, h3, h⟩ := bI_e h
  refine r_cVI (y := mX7_valueSign) (As := []) (rest := []) dX7_readValue_1 qX7_167 kX7_valueSign rfl ob1 vc7 rfl (okX7_valueSign N  S x1 S2 h3) (by decide) (Nat.zero_le _) rfl (Nat.le_of_ble_eq_true rfl) ?_
  refine r_istore_n (L' := [some (.ref 1), some (.int x1)]) dX7_readValue_4 (Nat.le_of_ble_eq_true rfl) rfl rfl ?_
  refine r_iload_n (x := x1) dX7_readValue_5 rfl ?_
  refine r_if_ne (tgt := 16) dX7_readValue_6 (by decide) (fun c4 => ?_) (fun c4 => ?_)
  · rw [if_neg c4] at h
    refine r_aload_n (x := 1) dX7_readValue_16 rfl ?_
    refine r_getfield (o := 1) (v := .ref (S2.2.2 1 2)) dX7_readValue_17 lX7_29 ck1 nC1 rfl ?_
    refine r_topr (fun o5 ho5 => ?_)
    replace h := lt_e ho5 h
    refine r_iload_n (x := x1) dX7_readValue_20 rfl ?_
    obtain ⟨g9, h⟩ := gd_e h
    obtain ⟨S7, h8, h⟩ := bV_e h
    refine r_cVV (y := mX8_add) (As := [.int x1]) (rest := []) dX7_readValue_21 qX7_142 kX8_add rfl g9 vc8 rfl (okX8_add N o5 x1 S2 S7 h8) (by decide) (Nat.zero_le _) rfl (Nat.le_of_ble_eq_true rfl) ?_
    refine r_aload_n (x := 1) dX7_readValue_24 rfl ?_
    refine r_getfield (o := 1) (v := .ref 2) dX7_readValue_25 lX7_12 ck1 nC1 rfl ?_
    obtain ⟨S11, h12, h⟩ := bV_e h
    refine r_cVV (y := mX10_take) (As := []) (rest := []) dX7_readValue_28 qX7_83 kX10_take rfl ob2 vc10 rfl (okX10_take N  S7 S11 h12) (by decide) (Nat.zero_le _) rfl (Nat.le_of_ble_eq_true rfl) ?_
    cases h
    exact r_return dX7_readValue_31 rfl (Nat.zero_le _) ⟨rfl, rfl⟩
  · rw [if_pos c4] at h
    refine r_aload_n (x := 1) dX7_readValue_9 rfl ?_
    refine r_iconst (v := 3) dX7_readValue_10 rfl ?_
    obtain ⟨x13, S14, h15, h⟩ := bI_e h
    refine r_cVI (y := mX7_fail) (As := [.int 3]) (rest := []) dX7_readValue_11 qX7_72 kX7_fail rfl ob1 vc7 rfl (okX7_fail N 3 S2 x13 S14 h15) (by decide) (Nat.zero_le _) rfl (Nat.le_of_ble_eq_true rfl) ?_
    refine r_pop_int dX7_readValue_14 ?_
    cases h
    exact r_return dX7_readValue_15 rfl (Nat.zero_le _) ⟨rfl, rfl⟩
def fX10_begin (N : Nat) (p0 : Int32) (S : PS) : Option PS :=
  lt ((if (700 : Int32) < p0 then 700 else p0) : Int32) fun x1 =>
  lt ((if (0 : Int32) < x1 then x1 else 0) : Int32) fun x2 =>
  lt ((u2 S.1 2 2 x2, S.2) : PS) fun S3 =>
  lt ((u2 S3.1 2 4 0, S3.2) : PS) fun S4 =>
  bV (fX10_take N  S4) fun S6 =>
  some S6
set_option maxHeartbeats 4000000 in
set_option maxRecDepth 100000 in
theorem okX10_begin (N : Nat) (p0 : Int32) (S : PS) (T : PS) (h : fX10_begin N p0 S = some T) : CT mX10_begin 2 0 [.ref 2, .int p0] S (qV T) := by
  refine ct_of [some (.ref 2), some (.int p0)] rfl (fun _ => rfl) (fun _ => Nat.le_of_ble_eq_true rfl) ?_
  unfold fX10_begin at h
  refine r_aload_n (x := 2) dX10_begin_0 rfl ?_
  refine r_iconst (v := 0) dX10_begin_1 rfl ?_
  refine r_iload_n (x := p0) dX10_begin_2 rfl ?_
  refine r_aload_n (x := 2) dX10_begin_3 rfl ?_
  refine r_getfield (o := 2) (v := .ref 26) dX10_begin_4 lX10_9 ck2 nC2 rfl ?_
  refine r_alen (v := 700) dX10_begin_7 ck26 (by decide) nC26 rfl ?_
  refine r_mmin dX10_begin_8 qX10_34 (by decide) (Nat.zero_le _) (Nat.le_of_ble_eq_true rfl) ?_
  refine r_topi (fun x1 hx1 => ?_)
  replace h := lt_e hx1 h
  refine r_mmax dX10_begin_11 qX10_40 (by decide) (Nat.zero_le _) (Nat.le_of_ble_eq_true rfl) ?_
  refine r_topi (fun x2 hx2 => ?_)
  replace h := lt_e hx2 h
  refine r_putI dX10_begin_14 lX10_19 ck2 nC2 ?_
  refine r_topS (fun S3 hS3 => ?_)
  replace h := lt_e hS3 h
  refine r_aload_n (x := 2) dX10_begin_17 rfl ?_
  refine r_iconst (v := 0) dX10_begin_18 rfl ?_
  refine r_putI dX10_begin_19 lX10_25 ck2 nC2 ?_
  refine r_topS (fun S4 hS4 => ?_)
  replace h := lt_e hS4 h
  refine r_aload_n (x := 2) dX10_begin_22 rfl ?_
  obtain ⟨S6, h7, h⟩ := bV_e h
  refine r_cVV (y := mX10_take) (As := []) (rest := []) dX10_begin_23 qX10_43 kX10_take rfl ob2 vc10 rfl (okX10_take N  S4 S6 h7) (by decide) (Nat.zero_le _) rfl (Nat.le_of_ble_eq_true rfl) ?_
  cases h
  exact r_return dX10_begin_26 rfl (Nat.zero_le _) ⟨rfl, rfl⟩
