abbrev RecT : Type := Nat → Int32 → PS → Option PS
def RC (D tag : Nat) (p0 : Int32) (S T : PS) : Prop := (tag = 0 → CT mX7_readExpr D 0 [.ref 1, .int p0] S (qV T)) ∧ (tag = 1 → CT mX7_readAnd D 0 [.ref 1, .int p0] S (qV T)) ∧ (tag = 2 → CT mX7_readNot D 0 [.ref 1, .int p0] S (qV T)) ∧ (tag = 3 → CT mX7_readTest D 0 [.ref 1, .int p0] S (qV T)) ∧ (tag = 4 → CT mX7_readSum D 0 [.ref 1, .int p0] S (qV T)) ∧ (tag = 5 → CT mX7_readProduct D 0 [.ref 1, .int p0] S (qV T)) ∧ (tag = 6 → CT mX7_readPart D 0 [.ref 1, .int p0] S (qV T))
def RecOK (rec : RecT) (dr : Nat) : Prop := ∀ (tag : Nat) (p0 : Int32) (S T : PS), rec tag p0 S = some T → RC dr tag p0 S T
def fX7_readExpr_68 (N : Nat) (rec : RecT) (v1 : Int32) : Nat → Int32 → PS → Option (Int32 × PS)
  | 0, _, _ => none
  | n + 1, v2, S =>
    (if 700 ≤ v2 then
      some (v2, S)
    else
      (if (S.1 1 3) = 0 then
        bI (fX10_isWord N 10 S) fun x7 S8 =>
        (if x7 = 0 then
          some (v2, S8)
        else
          bV (fX10_take N  S8) fun S12 =>
          bV (rec 1 v1 S12) fun S15 =>
          lt ((S15.2.2 1 2) : Nat) fun o17 =>
          gd (obj o17 8) <|
          bV (fX8_add N o17 (-8) S15) fun S19 =>
          lt (v2 + 1 : Int32) fun x22 =>
          fX7_readExpr_68 N rec v1 n x22 S19)
      else
        some (v2, S)))
set_option maxHeartbeats 4000000 in
set_option maxRecDepth 100000 in
theorem okX7_readExpr_68 (N : Nat) (rec : RecT) (dr D : Nat) (hrec : RecOK rec dr) (hD : dr + 1 ≤ D) (hB : 20 ≤ D) (v1 : Int32) (Q : OQ) (u : Nat) (hu : u ≤ 0) : ∀ (n : Nat) (v2 : Int32) (S : PS) (y2 : Int32) (T : PS), fX7_readExpr_68 N rec v1 n v2 S = some (y2, T) → WP [] mX7_readExpr D 0 Q 121 [some (.ref 1), some (.int v1), some (.int y2)] [] T u → WP [] mX7_readExpr D 0 Q 68 [some (.ref 1), some (.int v1), some (.int v2)] [] S u := by
  intro n
  induction n with
  | zero => intro v2 S y2 T h; rw [fX7_readExpr_68] at h; cases h
  | succ n ih =>
    intro v2 S y2 T h k0
    rw [fX7_readExpr_68] at h
    refine r_iload_n (x := v2) dX7_readExpr_68 rfl ?_
    refine r_sipush (v := 700) dX7_readExpr_69 rfl ?_
    refine r_icmp_ge (tgt := 121) dX7_readExpr_72 (by decide) (fun c5 => ?_) (fun c5 => ?_)
    · rw [if_pos c5] at h
      cases h
      exact k0
    · rw [if_neg c5] at h
      refine r_aload_n (x := 1) dX7_readExpr_75 rfl ?_
      refine r_getfield (o := 1) (v := .int (S.1 1 3)) dX7_readExpr_76 lX7_32 ck1 nC1 rfl ?_
      refine r_if_ne (tgt := 121) dX7_readExpr_79 (by decide) (fun c6 => ?_) (fun c6 => ?_)
      · rw [if_neg c6] at h
        cases h
        exact k0
      · rw [if_pos c6] at h
        refine r_aload_n (x := 1) dX7_readExpr_82 rfl ?_
        refine r_getfield (o := 1) (v := .ref 2) dX7_readExpr_83 lX7_12 ck1 nC1 rfl ?_
        refine r_ldcS (n := 1001 + 10) (tx := "or") dX7_readExpr_86 (by decide) ?_
        obtain ⟨x7, S8, h9, h⟩ := bI_e h
        refine r_cVI (y := mX10_isWord) (As := [.ref (1001 + 10)]) (rest := []) dX7_readExpr_88 qX7_51 kX10_isWord rfl ob2 vc10 rfl (okX10_isWord N 10 S x7 S8 h9) (by omega) hu rfl (Nat.le_of_ble_eq_true rfl) ?_
        refine r_if_eq (tgt := 121) dX7_readExpr_91 (by decide) (fun c10 => ?_) (fun c10 => ?_)
        · rw [if_pos c10] at h
          cases h
          exact k0
        · rw [if_neg c10] at h
          refine r_aload_n (x := 1) dX7_readExpr_94 rfl ?_
          refine r_getfield (o := 1) (v := .ref 2) dX7_readExpr_95 lX7_12 ck1 nC1 rfl ?_
          obtain ⟨S12, h13, h⟩ := bV_e h
          refine r_cVV (y := mX10_take) (As := []) (rest := []) dX7_readExpr_98 qX7_83 kX10_take rfl ob2 vc10 rfl (okX10_take N  S8 S12 h13) (by omega) hu rfl (Nat.le_of_ble_eq_true rfl) ?_
          refine r_aload_n (x := 1) dX7_readExpr_101 rfl ?_
          refine r_iload_n (x := v1) dX7_readExpr_102 rfl ?_
          obtain ⟨S15, h16, h⟩ := bV_e h
          refine r_cVV (y := mX7_readAnd) (As := [.int v1]) (rest := []) dX7_readExpr_103 qX7_137 kX7_readAnd rfl ob1 vc7 rfl ((hrec 1 v1 S12 S15 h16).2.1 rfl) (by omega) hu rfl (Nat.le_of_ble_eq_true rfl) ?_
          refine r_aload_n (x := 1) dX7_readExpr_106 rfl ?_
          refine r_getfield (o := 1) (v := .ref (S15.2.2 1 2)) dX7_readExpr_107 lX7_29 ck1 nC1 rfl ?_
          refine r_topr (fun o17 ho17 => ?_)
          replace h := lt_e ho17 h
          refine r_bipush (v := (-8)) dX7_readExpr_110 rfl ?_
          obtain ⟨g21, h⟩ := gd_e h
          obtain ⟨S19, h20, h⟩ := bV_e h
          refine r_cVV (y := mX8_add) (As := [.int (-8)]) (rest := []) dX7_readExpr_112 qX7_142 kX8_add rfl g21 vc8 rfl (okX8_add N o17 (-8) S15 S19 h20) (by omega) hu rfl (Nat.le_of_ble_eq_true rfl) ?_
          obtain ⟨x22, hx22⟩ : ∃ y : Int32, y = (v2 + 1 : Int32) := ⟨_, rfl⟩
          replace h := lt_e hx22 h
          refine r_iinc (x := v2) (v := x22) (L' := [some (.ref 1), some (.int v1), some (.int x22)]) dX7_readExpr_115 rfl (by rw [hx22]; rfl) (Nat.le_of_ble_eq_true rfl) rfl rfl ?_
          refine r_goto (tgt := 68) dX7_readExpr_118 (by decide) ?_
          exact ih _ _ _ _ h k0
def fX7_readExpr (N : Nat) (rec : RecT) (p0 : Int32) (S : PS) : Option PS :=
  (if p0 < 6 then
    bV (rec 1 p0 S) fun S3 =>
    bT (fX7_readExpr_68 N rec p0 N 0 S3) fun q23 =>
    lt (q23.1 : Int32) fun x24 =>
    lt (q23.2 : PS) fun S25 =>
    some S25
  else
    (if (S.1 2 5) = 2 then
      lt ((if (1 : Int32) = 0 then 1 else 2) : Int32) fun x30 =>
      bI (fX7_fail N x30 S) fun x31 S32 =>
      some S32
    else
      (if (S.1 2 5) = 1 then
        lt ((if (1 : Int32) = 0 then 1 else 2) : Int32) fun x36 =>
        bI (fX7_fail N x36 S) fun x37 S38 =>
        some S38
      else
        bI (fX10_isSign N 40 S) fun x40 S41 =>
        lt ((if x40 = 0 then 0 else 1) : Int32) fun x44 =>
        lt ((if x44 = 0 then 1 else 2) : Int32) fun x46 =>
        bI (fX7_fail N x46 S41) fun x47 S48 =>
        some S48)))
set_option maxHeartbeats 4000000 in
set_option maxRecDepth 100000 in
theorem okX7_readExpr (N : Nat) (rec : RecT) (dr D : Nat) (hrec : RecOK rec dr) (hD : dr + 1 ≤ D) (hB : 20 ≤ D) (p0 : Int32) (S : PS) (T : PS) (h : fX7_readExpr N rec p0 S = some T) : CT mX7_readExpr D 0 [.ref 1, .int p0] S (qV T) := by
  refine ct_of [some (.ref 1), some (.int p0), none] rfl (fun _ => rfl) (fun _ => Nat.le_of_ble_eq_true rfl) ?_
  unfold fX7_readExpr at h
  refine r_iload_n (x := p0) dX7_readExpr_0 rfl ?_
  refine r_bipush (v := 6) dX7_readExpr_1 rfl ?_
  refine r_icmp_lt (tgt := 61) dX7_readExpr_3 (by decide) (fun c1 => ?_) (fun c1 => ?_)
  · rw [if_pos c1] at h
    refine r_aload_n (x := 1) dX7_readExpr_61 rfl ?_
    refine r_iload_n (x := p0) dX7_readExpr_62 rfl ?_
    obtain ⟨S3, h4, h⟩ := bV_e h
    refine r_cVV (y := mX7_readAnd) (As := [.int p0]) (rest := []) dX7_readExpr_63 qX7_137 kX7_readAnd rfl ob1 vc7 rfl ((hrec 1 p0 S S3 h4).2.1 rfl) (by omega) (Nat.zero_le _) rfl (Nat.le_of_ble_eq_true rfl) ?_
    refine r_iconst (v := 0) dX7_readExpr_66 rfl ?_
    refine r_istore_n (L' := [some (.ref 1), some (.int p0), some (.int 0)]) dX7_readExpr_67 (Nat.le_of_ble_eq_true rfl) rfl rfl ?_
    obtain ⟨⟨x24, S25⟩, h27, h⟩ := bT_e h
    dsimp only at h
    replace h := pl_s (pl_s (h))
    refine okX7_readExpr_68 N rec dr D hrec hD hB p0 (qV T) 0 (Nat.zero_le _) _ _ _ _ _ h27 ?_
    cases h
    exact r_return dX7_readExpr_121 rfl (Nat.zero_le _) ⟨rfl, rfl⟩
  · rw [if_neg c1] at h
    refine r_aload_n (x := 1) dX7_readExpr_6 rfl ?_
    refine r_getfield (o := 1) (v := .ref 2) dX7_readExpr_7 lX7_12 ck1 nC1 rfl ?_
    refine r_getfield (o := 2) (v := .int (S.1 2 5)) dX7_readExpr_10 lX7_46 ck2 nC2 rfl ?_
    refine r_iconst (v := 2) dX7_readExpr_13 rfl ?_
    refine r_icmp_eq (tgt := 40) dX7_readExpr_14 (by decide) (fun c28 => ?_) (fun c28 => ?_)
    · rw [if_pos c28] at h
      refine r_iconst (v := 1) dX7_readExpr_40 rfl ?_
      refine r_goto (tgt := 45) dX7_readExpr_41 (by decide) ?_
      refine r_istore_n (L' := [some (.ref 1), some (.int p0), some (.int 1)]) dX7_readExpr_45 (Nat.le_of_ble_eq_true rfl) rfl rfl ?_
      refine r_aload_n (x := 1) dX7_readExpr_46 rfl ?_
      refine r_iload_n (x := 1) dX7_readExpr_47 rfl ?_
      obtain ⟨x30, hx30⟩ : ∃ y : Int32, y = ((if (1 : Int32) = 0 then 1 else 2) : Int32) := ⟨_, rfl⟩
      replace h := lt_e hx30 h
      have keyx30 : WP [] mX7_readExpr D 0 (qV T) 56 [some (.ref 1), some (.int p0), some (.int 1)] (.int x30 :: [.ref 1]) S 0 := by
        obtain ⟨x31, S32, h33, h⟩ := bI_e h
        refine r_cVI (y := mX7_fail) (As := [.int x30]) (rest := []) dX7_readExpr_56 qX7_72 kX7_fail rfl ob1 vc7 rfl (okX7_fail N x30 S x31 S32 h33) (by omega) (Nat.zero_le _) rfl (Nat.le_of_ble_eq_true rfl) ?_
        refine r_pop_int dX7_readExpr_59 ?_
        cases h
        exact r_return dX7_readExpr_60 rfl (Nat.zero_le _) ⟨rfl, rfl⟩
      refine r_if_eq (tgt := 55) dX7_readExpr_48 (by decide) (fun c29 => ?_) (fun c29 => ?_)
      · refine r_iconst (v := 1) dX7_readExpr_55 rfl ?_
        exact r_tope (by rw [hx30, if_pos c29]) keyx30
      · refine r_iconst (v := 2) dX7_readExpr_51 rfl ?_
        refine r_goto (tgt := 56) dX7_readExpr_52 (by decide) ?_
        exact r_tope (by rw [hx30, if_neg c29]) keyx30
    · rw [if_neg c28] at h
      refine r_aload_n (x := 1) dX7_readExpr_17 rfl ?_
      refine r_getfield (o := 1) (v := .ref 2) dX7_readExpr_18 lX7_12 ck1 nC1 rfl ?_
      refine r_getfield (o := 2) (v := .int (S.1 2 5)) dX7_readExpr_21 lX7_46 ck2 nC2 rfl ?_
      refine r_iconst (v := 1) dX7_readExpr_24 rfl ?_
      refine r_icmp_eq (tgt := 40) dX7_readExpr_25 (by decide) (fun c34 => ?_) (fun c34 => ?_)
      · rw [if_pos c34] at h
        refine r_iconst (v := 1) dX7_readExpr_40 rfl ?_
        refine r_goto (tgt := 45) dX7_readExpr_41 (by decide) ?_
        refine r_istore_n (L' := [some (.ref 1), some (.int p0), some (.int 1)]) dX7_readExpr_45 (Nat.le_of_ble_eq_true rfl) rfl rfl ?_
        refine r_aload_n (x := 1) dX7_readExpr_46 rfl ?_
        refine r_iload_n (x := 1) dX7_readExpr_47 rfl ?_
        obtain ⟨x36, hx36⟩ : ∃ y : Int32, y = ((if (1 : Int32) = 0 then 1 else 2) : Int32) := ⟨_, rfl⟩
        replace h := lt_e hx36 h
        have keyx36 : WP [] mX7_readExpr D 0 (qV T) 56 [some (.ref 1), some (.int p0), some (.int 1)] (.int x36 :: [.ref 1]) S 0 := by
          obtain ⟨x37, S38, h39, h⟩ := bI_e h
          refine r_cVI (y := mX7_fail) (As := [.int x36]) (rest := []) dX7_readExpr_56 qX7_72 kX7_fail rfl ob1 vc7 rfl (okX7_fail N x36 S x37 S38 h39) (by omega) (Nat.zero_le _) rfl (Nat.le_of_ble_eq_true rfl) ?_
          refine r_pop_int dX7_readExpr_59 ?_
          cases h
          exact r_return dX7_readExpr_60 rfl (Nat.zero_le _) ⟨rfl, rfl⟩
        refine r_if_eq (tgt := 55) dX7_readExpr_48 (by decide) (fun c35 => ?_) (fun c35 => ?_)
        · refine r_iconst (v := 1) dX7_readExpr_55 rfl ?_
          exact r_tope (by rw [hx36, if_pos c35]) keyx36
        · refine r_iconst (v := 2) dX7_readExpr_51 rfl ?_
          refine r_goto (tgt := 56) dX7_readExpr_52 (by decide) ?_
          exact r_tope (by rw [hx36, if_neg c35]) keyx36
      · rw [if_neg c34] at h
        refine r_aload_n (x := 1) dX7_readExpr_28 rfl ?_
        refine r_getfield (o := 1) (v := .ref 2) dX7_readExpr_29 lX7_12 ck1 nC1 rfl ?_
        refine r_bipush (v := 40) dX7_readExpr_32 rfl ?_
        obtain ⟨x40, S41, h42, h⟩ := bI_e h
        refine r_cVI (y := mX10_isSign) (As := [.int 40]) (rest := []) dX7_readExpr_34 qX7_79 kX10_isSign rfl ob2 vc10 rfl (okX10_isSign N 40 S x40 S41 h42) (by omega) (Nat.zero_le _) rfl (Nat.le_of_ble_eq_true rfl) ?_
        obtain ⟨x44, hx44⟩ : ∃ y : Int32, y = ((if x40 = 0 then 0 else 1) : Int32) := ⟨_, rfl⟩
        replace h := lt_e hx44 h
        have keyx44 : WP [] mX7_readExpr D 0 (qV T) 45 [some (.ref 1), some (.int p0), none] (.int x44 :: []) S41 0 := by
          refine r_istore_n (L' := [some (.ref 1), some (.int p0), some (.int x44)]) dX7_readExpr_45 (Nat.le_of_ble_eq_true rfl) rfl rfl ?_
          refine r_aload_n (x := 1) dX7_readExpr_46 rfl ?_
          refine r_iload_n (x := x44) dX7_readExpr_47 rfl ?_
          obtain ⟨x46, hx46⟩ : ∃ y : Int32, y = ((if x44 = 0 then 1 else 2) : Int32) := ⟨_, rfl⟩
          replace h := lt_e hx46 h
          have keyx46 : WP [] mX7_readExpr D 0 (qV T) 56 [some (.ref 1), some (.int p0), some (.int x44)] (.int x46 :: [.ref 1]) S41 0 := by
            obtain ⟨x47, S48, h49, h⟩ := bI_e h
            refine r_cVI (y := mX7_fail) (As := [.int x46]) (rest := []) dX7_readExpr_56 qX7_72 kX7_fail rfl ob1 vc7 rfl (okX7_fail N x46 S41 x47 S48 h49) (by omega) (Nat.zero_le _) rfl (Nat.le_of_ble_eq_true rfl) ?_
            refine r_pop_int dX7_readExpr_59 ?_
            cases h
            exact r_return dX7_readExpr_60 rfl (Nat.zero_le _) ⟨rfl, rfl⟩
          refine r_if_eq (tgt := 55) dX7_readExpr_48 (by decide) (fun c45 => ?_) (fun c45 => ?_)
          · refine r_iconst (v := 1) dX7_readExpr_55 rfl ?_
            exact r_tope (by rw [hx46, if_pos c45]) keyx46
          · refine r_iconst (v := 2) dX7_readExpr_51 rfl ?_
            refine r_goto (tgt := 56) dX7_readExpr_52 (by decide) ?_
            exact r_tope (by rw [hx46, if_neg c45]) keyx46
        refine r_if_eq (tgt := 44) dX7_readExpr_37 (by decide) (fun c43 => ?_) (fun c43 => ?_)
        · refine r_iconst (v := 0) dX7_readExpr_44 rfl ?_
          exact r_tope (by rw [hx44, if_pos c43]) keyx44
        · refine r_iconst (v := 1) dX7_readExpr_40 rfl ?_
          refine r_goto (tgt := 45) dX7_readExpr_41 (by decide) ?_
          exact r_tope (by rw [hx44, if_neg c43]) keyx44
def fX7_readAnd_7 (N : Nat) (rec : RecT) (v1 : Int32) : Nat → Int32 → PS → Option (Int32 × PS)
  | 0, _, _ => none
  | n + 1, v2, S =>
    (if 700 ≤ v2 then
      some (v2, S)
    else
      (if (S.1 1 3) = 0 then
        bI (fX10_isWord N 9 S) fun x6 S7 =>
        (if x6 = 0 then
          some (v2, S7)
        else
          bV (fX10_take N  S7) fun S11 =>
          bV (rec 2 v1 S11) fun S14 =>
          lt ((S14.2.2 1 2) : Nat) fun o16 =>
          gd (obj o16 8) <|
          bV (fX8_add N o16 (-9) S14) fun S18 =>
          lt (v2 + 1 : Int32) fun x21 =>
          fX7_readAnd_7 N rec v1 n x21 S18)
      else
        some (v2, S)))
set_option maxHeartbeats 4000000 in
set_option maxRecDepth 100000 in
theorem okX7_readAnd_7 (N : Nat) (rec : RecT) (dr D : Nat) (hrec : RecOK rec dr) (hD : dr + 1 ≤ D) (hB : 20 ≤ D) (v1 : Int32) (Q : OQ) (u : Nat) (hu : u ≤ 0) : ∀ (n : Nat) (v2 : Int32) (S : PS) (y2 : Int32) (T : PS), fX7_readAnd_7 N rec v1 n v2 S = some (y2, T) → WP [] mX7_readAnd D 0 Q 60 [some (.ref 1), some (.int v1), some (.int y2)] [] T u → WP [] mX7_readAnd D 0 Q 7 [some (.ref 1), some (.int v1), some (.int v2)] [] S u := by
  intro n
  induction n with
  | zero => intro v2 S y2 T h; rw [fX7_readAnd_7] at h; cases h
  | succ n ih =>
    intro v2 S y2 T h k0
    rw [fX7_readAnd_7] at h
    refine r_iload_n (x := v2) dX7_readAnd_7 rfl ?_
    refine r_sipush (v := 700) dX7_readAnd_8 rfl ?_
    refine r_icmp_ge (tgt := 60) dX7_readAnd_11 (by decide) (fun c4 => ?_) (fun c4 => ?_)
    · rw [if_pos c4] at h
      cases h
      exact k0
    · rw [if_neg c4] at h
      refine r_aload_n (x := 1) dX7_readAnd_14 rfl ?_
      refine r_getfield (o := 1) (v := .int (S.1 1 3)) dX7_readAnd_15 lX7_32 ck1 nC1 rfl ?_
      refine r_if_ne (tgt := 60) dX7_readAnd_18 (by decide) (fun c5 => ?_) (fun c5 => ?_)
      · rw [if_neg c5] at h
        cases h
        exact k0
      · rw [if_pos c5] at h
        refine r_aload_n (x := 1) dX7_readAnd_21 rfl ?_
        refine r_getfield (o := 1) (v := .ref 2) dX7_readAnd_22 lX7_12 ck1 nC1 rfl ?_
        refine r_ldcS (n := 1001 + 9) (tx := "and") dX7_readAnd_25 (by decide) ?_
        obtain ⟨x6, S7, h8, h⟩ := bI_e h
        refine r_cVI (y := mX10_isWord) (As := [.ref (1001 + 9)]) (rest := []) dX7_readAnd_27 qX7_51 kX10_isWord rfl ob2 vc10 rfl (okX10_isWord N 9 S x6 S7 h8) (by omega) hu rfl (Nat.le_of_ble_eq_true rfl) ?_
        refine r_if_eq (tgt := 60) dX7_readAnd_30 (by decide) (fun c9 => ?_) (fun c9 => ?_)
        · rw [if_pos c9] at h
          cases h
          exact k0
        · rw [if_neg c9] at h
          refine r_aload_n (x := 1) dX7_readAnd_33 rfl ?_
          refine r_getfield (o := 1) (v := .ref 2) dX7_readAnd_34 lX7_12 ck1 nC1 rfl ?_
          obtain ⟨S11, h12, h⟩ := bV_e h
          refine r_cVV (y := mX10_take) (As := []) (rest := []) dX7_readAnd_37 qX7_83 kX10_take rfl ob2 vc10 rfl (okX10_take N  S7 S11 h12) (by omega) hu rfl (Nat.le_of_ble_eq_true rfl) ?_
          refine r_aload_n (x := 1) dX7_readAnd_40 rfl ?_
          refine r_iload_n (x := v1) dX7_readAnd_41 rfl ?_
          obtain ⟨S14, h15, h⟩ := bV_e h
          refine r_cVV (y := mX7_readNot) (As := [.int v1]) (rest := []) dX7_readAnd_42 qX7_145 kX7_readNot rfl ob1 vc7 rfl ((hrec 2 v1 S11 S14 h15).2.2.1 rfl) (by omega) hu rfl (Nat.le_of_ble_eq_true rfl) ?_
          refine r_aload_n (x := 1) dX7_readAnd_45 rfl ?_
          refine r_getfield (o := 1) (v := .ref (S14.2.2 1 2)) dX7_readAnd_46 lX7_29 ck1 nC1 rfl ?_
          refine r_topr (fun o16 ho16 => ?_)
          replace h := lt_e ho16 h
          refine r_bipush (v := (-9)) dX7_readAnd_49 rfl ?_
          obtain ⟨g20, h⟩ := gd_e h
          obtain ⟨S18, h19, h⟩ := bV_e h
          refine r_cVV (y := mX8_add) (As := [.int (-9)]) (rest := []) dX7_readAnd_51 qX7_142 kX8_add rfl g20 vc8 rfl (okX8_add N o16 (-9) S14 S18 h19) (by omega) hu rfl (Nat.le_of_ble_eq_true rfl) ?_
          obtain ⟨x21, hx21⟩ : ∃ y : Int32, y = (v2 + 1 : Int32) := ⟨_, rfl⟩
          replace h := lt_e hx21 h
          refine r_iinc (x := v2) (v := x21) (L' := [some (.ref 1), some (.int v1), some (.int x21)]) dX7_readAnd_54 rfl (by rw [hx21]; rfl) (Nat.le_of_ble_eq_true rfl) rfl rfl ?_
          refine r_goto (tgt := 7) dX7_readAnd_57 (by decide) ?_
          exact ih _ _ _ _ h k0
def fX7_readAnd (N : Nat) (rec : RecT) (p0 : Int32) (S : PS) : Option PS :=
  bV (rec 2 p0 S) fun S2 =>
  bT (fX7_readAnd_7 N rec p0 N 0 S2) fun q22 =>
  lt (q22.1 : Int32) fun x23 =>
  lt (q22.2 : PS) fun S24 =>
  some S24
set_option maxHeartbeats 4000000 in
set_option maxRecDepth 100000 in
theorem okX7_readAnd (N : Nat) (rec : RecT) (dr D : Nat) (hrec : RecOK rec dr) (hD : dr + 1 ≤ D) (hB : 20 ≤ D) (p0 : Int32) (S : PS) (T : PS) (h : fX7_readAnd N rec p0 S = some T) : CT mX7_readAnd D 0 [.ref 1, .int p0] S (qV T) := by
  refine ct_of [some (.ref 1), some (.int p0), none] rfl (fun _ => rfl) (fun _ => Nat.le_of_ble_eq_true rfl) ?_
  unfold fX7_readAnd at h
  refine r_aload_n (x := 1) dX7_readAnd_0 rfl ?_
  refine r_iload_n (x := p0) dX7_readAnd_1 rfl ?_
  obtain ⟨S2, h3, h⟩ := bV_e h
  refine r_cVV (y := mX7_readNot) (As := [.int p0]) (rest := []) dX7_readAnd_2 qX7_145 kX7_readNot rfl ob1 vc7 rfl ((hrec 2 p0 S S2 h3).2.2.1 rfl) (by omega) (Nat.zero_le _) rfl (Nat.le_of_ble_eq_true rfl) ?_
  refine r_iconst (v := 0) dX7_readAnd_5 rfl ?_
  refine r_istore_n (L' := [some (.ref 1), some (.int p0), some (.int 0)]) dX7_readAnd_6 (Nat.le_of_ble_eq_true rfl) rfl rfl ?_
  obtain ⟨⟨x23, S24⟩, h26, h⟩ := bT_e h
  dsimp only at h
  replace h := pl_s (pl_s (h))
  refine okX7_readAnd_7 N rec dr D hrec hD hB p0 (qV T) 0 (Nat.zero_le _) _ _ _ _ _ h26 ?_
  cases h
  exact r_return dX7_readAnd_60 rfl (Nat.zero_le _) ⟨rfl, rfl⟩
def fX7_readNot_2 (N : Nat) (rec : RecT) (v1 : Int32) : Nat → Int32 → PS → Option (Int32 × PS)
  | 0, _, _ => none
  | n + 1, v2, S =>
    (if 6 ≤ v2 then
      some (v2, S)
    else
      bI (fX10_isWord N 3 S) fun x2 S3 =>
      (if x2 = 0 then
        some (v2, S3)
      else
        lt (v2 + 1 : Int32) fun x6 =>
        bV (fX10_take N  S3) fun S8 =>
        fX7_readNot_2 N rec v1 n x6 S8))
set_option maxHeartbeats 4000000 in
set_option maxRecDepth 100000 in
theorem okX7_readNot_2 (N : Nat) (rec : RecT) (dr D : Nat) (hrec : RecOK rec dr) (hD : dr + 1 ≤ D) (hB : 20 ≤ D) (v1 : Int32) (Q : OQ) (u : Nat) (hu : u ≤ 0) : ∀ (n : Nat) (v2 : Int32) (S : PS) (y2 : Int32) (T : PS), fX7_readNot_2 N rec v1 n v2 S = some (y2, T) → WP [] mX7_readNot D 0 Q 33 [some (.ref 1), some (.int v1), some (.int y2), none] [] T u → WP [] mX7_readNot D 0 Q 2 [some (.ref 1), some (.int v1), some (.int v2), none] [] S u := by
  intro n
  induction n with
  | zero => intro v2 S y2 T h; rw [fX7_readNot_2] at h; cases h
  | succ n ih =>
    intro v2 S y2 T h k0
    rw [fX7_readNot_2] at h
    refine r_iload_n (x := v2) dX7_readNot_2 rfl ?_
    refine r_bipush (v := 6) dX7_readNot_3 rfl ?_
    refine r_icmp_ge (tgt := 33) dX7_readNot_5 (by decide) (fun c1 => ?_) (fun c1 => ?_)
    · rw [if_pos c1] at h
      cases h
      exact k0
    · rw [if_neg c1] at h
      refine r_aload_n (x := 1) dX7_readNot_8 rfl ?_
      refine r_getfield (o := 1) (v := .ref 2) dX7_readNot_9 lX7_12 ck1 nC1 rfl ?_
      refine r_ldcS (n := 1001 + 3) (tx := "not") dX7_readNot_12 (by decide) ?_
      obtain ⟨x2, S3, h4, h⟩ := bI_e h
      refine r_cVI (y := mX10_isWord) (As := [.ref (1001 + 3)]) (rest := []) dX7_readNot_14 qX7_51 kX10_isWord rfl ob2 vc10 rfl (okX10_isWord N 3 S x2 S3 h4) (by omega) hu rfl (Nat.le_of_ble_eq_true rfl) ?_
      refine r_if_eq (tgt := 33) dX7_readNot_17 (by decide) (fun c5 => ?_) (fun c5 => ?_)
      · rw [if_pos c5] at h
        cases h
        exact k0
      · rw [if_neg c5] at h
        obtain ⟨x6, hx6⟩ : ∃ y : Int32, y = (v2 + 1 : Int32) := ⟨_, rfl⟩
        replace h := lt_e hx6 h
        refine r_iinc (x := v2) (v := x6) (L' := [some (.ref 1), some (.int v1), some (.int x6), none]) dX7_readNot_20 rfl (by rw [hx6]; rfl) (Nat.le_of_ble_eq_true rfl) rfl rfl ?_
        refine r_aload_n (x := 1) dX7_readNot_23 rfl ?_
        refine r_getfield (o := 1) (v := .ref 2) dX7_readNot_24 lX7_12 ck1 nC1 rfl ?_
        obtain ⟨S8, h9, h⟩ := bV_e h
        refine r_cVV (y := mX10_take) (As := []) (rest := []) dX7_readNot_27 qX7_83 kX10_take rfl ob2 vc10 rfl (okX10_take N  S3 S8 h9) (by omega) hu rfl (Nat.le_of_ble_eq_true rfl) ?_
        refine r_goto (tgt := 2) dX7_readNot_30 (by decide) ?_
        exact ih _ _ _ _ h k0
def fX7_readNot_59 (N : Nat) (rec : RecT) (v1 : Int32) (v2 : Int32) : Nat → Int32 → PS → Option (Int32 × PS)
  | 0, _, _ => none
  | n + 1, v3, S =>
    (if v2 ≤ v3 then
      some (v3, S)
    else
      lt ((S.2.2 1 2) : Nat) fun o23 =>
      gd (obj o23 8) <|
      bV (fX8_add N o23 (-7) S) fun S25 =>
      lt (v3 + 1 : Int32) fun x28 =>
      fX7_readNot_59 N rec v1 v2 n x28 S25)
set_option maxHeartbeats 4000000 in
set_option maxRecDepth 100000 in
theorem okX7_readNot_59 (N : Nat) (rec : RecT) (dr D : Nat) (hrec : RecOK rec dr) (hD : dr + 1 ≤ D) (hB : 20 ≤ D) (v1 : Int32) (v2 : Int32) (Q : OQ) (u : Nat) (hu : u ≤ 0) : ∀ (n : Nat) (v3 : Int32) (S : PS) (y3 : Int32) (T : PS), fX7_readNot_59 N rec v1 v2 n v3 S = some (y3, T) → WP [] mX7_readNot D 0 Q 79 [some (.ref 1), some (.int v1), some (.int v2), some (.int y3)] [] T u → WP [] mX7_readNot D 0 Q 59 [some (.ref 1), some (.int v1), some (.int v2), some (.int v3)] [] S u := by
  intro n
  induction n with
  | zero => intro v3 S y3 T h; rw [fX7_readNot_59] at h; cases h
  | succ n ih =>
    intro v3 S y3 T h k0
    rw [fX7_readNot_59] at h
    refine r_iload_n (x := v3) dX7_readNot_59 rfl ?_
    refine r_iload_n (x := v2) dX7_readNot_60 rfl ?_
    refine r_icmp_ge (tgt := 79) dX7_readNot_61 (by decide) (fun c22 => ?_) (fun c22 => ?_)
    · rw [if_pos c22] at h
      cases h
      exact k0
    · rw [if_neg c22] at h
      refine r_aload_n (x := 1) dX7_readNot_64 rfl ?_
      refine r_getfield (o := 1) (v := .ref (S.2.2 1 2)) dX7_readNot_65 lX7_29 ck1 nC1 rfl ?_
      refine r_topr (fun o23 ho23 => ?_)
      replace h := lt_e ho23 h
      refine r_bipush (v := (-7)) dX7_readNot_68 rfl ?_
      obtain ⟨g27, h⟩ := gd_e h
      obtain ⟨S25, h26, h⟩ := bV_e h
      refine r_cVV (y := mX8_add) (As := [.int (-7)]) (rest := []) dX7_readNot_70 qX7_142 kX8_add rfl g27 vc8 rfl (okX8_add N o23 (-7) S S25 h26) (by omega) hu rfl (Nat.le_of_ble_eq_true rfl) ?_
      obtain ⟨x28, hx28⟩ : ∃ y : Int32, y = (v3 + 1 : Int32) := ⟨_, rfl⟩
      replace h := lt_e hx28 h
      refine r_iinc (x := v3) (v := x28) (L' := [some (.ref 1), some (.int v1), some (.int v2), some (.int x28)]) dX7_readNot_73 rfl (by rw [hx28]; rfl) (Nat.le_of_ble_eq_true rfl) rfl rfl ?_
      refine r_goto (tgt := 59) dX7_readNot_76 (by decide) ?_
      exact ih _ _ _ _ h k0
def fX7_readNot (N : Nat) (rec : RecT) (p0 : Int32) (S : PS) : Option PS :=
  bT (fX7_readNot_2 N rec p0 N 0 S) fun q10 =>
  lt (q10.1 : Int32) fun x11 =>
  lt (q10.2 : PS) fun S12 =>
  bI (fX10_isWord N 3 S12) fun x15 S16 =>
  (if x15 = 0 then
    bV (rec 3 p0 S16) fun S20 =>
    bT (fX7_readNot_59 N rec p0 x11 N 0 S20) fun q29 =>
    lt (q29.1 : Int32) fun x30 =>
    lt (q29.2 : PS) fun S31 =>
    some S31
  else
    bI (fX7_fail N 2 S16) fun x34 S35 =>
    some S35)
set_option maxHeartbeats 4000000 in
set_option maxRecDepth 100000 in
theorem okX7_readNot (N : Nat) (rec : RecT) (dr D : Nat) (hrec : RecOK rec dr) (hD : dr + 1 ≤ D) (hB : 20 ≤ D) (p0 : Int32) (S : PS) (T : PS) (h : fX7_readNot N rec p0 S = some T) : CT mX7_readNot D 0 [.ref 1, .int p0] S (qV T) := by
  refine ct_of [some (.ref 1), some (.int p0), none, none] rfl (fun _ => rfl) (fun _ => Nat.le_of_ble_eq_true rfl) ?_
  unfold fX7_readNot at h
  refine r_iconst (v := 0) dX7_readNot_0 rfl ?_
  refine r_istore_n (L' := [some (.ref 1), some (.int p0), some (.int 0), none]) dX7_readNot_1 (Nat.le_of_ble_eq_true rfl) rfl rfl ?_
  obtain ⟨⟨x11, S12⟩, h14, h⟩ := bT_e h
  dsimp only at h
  replace h := pl_s (pl_s (h))
  refine okX7_readNot_2 N rec dr D hrec hD hB p0 (qV T) 0 (Nat.zero_le _) _ _ _ _ _ h14 ?_
  refine r_aload_n (x := 1) dX7_readNot_33 rfl ?_
  refine r_getfield (o := 1) (v := .ref 2) dX7_readNot_34 lX7_12 ck1 nC1 rfl ?_
  refine r_ldcS (n := 1001 + 3) (tx := "not") dX7_readNot_37 (by decide) ?_
  obtain ⟨x15, S16, h17, h⟩ := bI_e h
  refine r_cVI (y := mX10_isWord) (As := [.ref (1001 + 3)]) (rest := []) dX7_readNot_39 qX7_51 kX10_isWord rfl ob2 vc10 rfl (okX10_isWord N 3 S12 x15 S16 h17) (by omega) (Nat.zero_le _) rfl (Nat.le_of_ble_eq_true rfl) ?_
  refine r_if_eq (tgt := 52) dX7_readNot_42 (by decide) (fun c18 => ?_) (fun c18 => ?_)
  · rw [if_pos c18] at h
    refine r_aload_n (x := 1) dX7_readNot_52 rfl ?_
    refine r_iload_n (x := p0) dX7_readNot_53 rfl ?_
    obtain ⟨S20, h21, h⟩ := bV_e h
    refine r_cVV (y := mX7_readTest) (As := [.int p0]) (rest := []) dX7_readNot_54 qX7_152 kX7_readTest rfl ob1 vc7 rfl ((hrec 3 p0 S16 S20 h21).2.2.2.1 rfl) (by omega) (Nat.zero_le _) rfl (Nat.le_of_ble_eq_true rfl) ?_
    refine r_iconst (v := 0) dX7_readNot_57 rfl ?_
    refine r_istore_n (L' := [some (.ref 1), some (.int p0), some (.int x11), some (.int 0)]) dX7_readNot_58 (Nat.le_of_ble_eq_true rfl) rfl rfl ?_
    obtain ⟨⟨x30, S31⟩, h33, h⟩ := bT_e h
    dsimp only at h
    replace h := pl_s (pl_s (h))
    refine okX7_readNot_59 N rec dr D hrec hD hB p0 x11 (qV T) 0 (Nat.zero_le _) _ _ _ _ _ h33 ?_
    cases h
    exact r_return dX7_readNot_79 rfl (Nat.zero_le _) ⟨rfl, rfl⟩
  · rw [if_neg c18] at h
    refine r_aload_n (x := 1) dX7_readNot_45 rfl ?_
    refine r_iconst (v := 2) dX7_readNot_46 rfl ?_
    obtain ⟨x34, S35, h36, h⟩ := bI_e h
    refine r_cVI (y := mX7_fail) (As := [.int 2]) (rest := []) dX7_readNot_47 qX7_72 kX7_fail rfl ob1 vc7 rfl (okX7_fail N 2 S16 x34 S35 h36) (by omega) (Nat.zero_le _) rfl (Nat.le_of_ble_eq_true rfl) ?_
    refine r_pop_int dX7_readNot_50 ?_
    cases h
    exact r_return dX7_readNot_51 rfl (Nat.zero_le _) ⟨rfl, rfl⟩
def fX7_readTest (N : Nat) (rec : RecT) (p0 : Int32) (S : PS) : Option PS :=
  bV (rec 4 p0 S) fun S2 =>
  bI (fX10_isSign N 60 S2) fun x4 S5 =>
  (if x4 = 0 then
    bI (fX10_isSign N 61 S5) fun x8 S9 =>
    lt ((if x8 = 0 then 0 else (-11)) : Int32) fun x12 =>
    (if (S9.1 1 3) = 0 then
      (if x12 = 0 then
        some S9
      else
        bV (fX10_take N  S9) fun S16 =>
        bV (rec 4 p0 S16) fun S19 =>
        lt ((S19.2.2 1 2) : Nat) fun o21 =>
        gd (obj o21 8) <|
        bV (fX8_add N o21 x12 S19) fun S23 =>
        some S23)
    else
      some S9)
  else
    (if (S5.1 1 3) = 0 then
      (if ((-10) : Int32) = 0 then
        some S5
      else
        bV (fX10_take N  S5) fun S29 =>
        bV (rec 4 p0 S29) fun S32 =>
        lt ((S32.2.2 1 2) : Nat) fun o34 =>
        gd (obj o34 8) <|
        bV (fX8_add N o34 (-10) S32) fun S36 =>
        some S36)
    else
      some S5))
set_option maxHeartbeats 4000000 in
set_option maxRecDepth 100000 in
theorem okX7_readTest (N : Nat) (rec : RecT) (dr D : Nat) (hrec : RecOK rec dr) (hD : dr + 1 ≤ D) (hB : 20 ≤ D) (p0 : Int32) (S : PS) (T : PS) (h : fX7_readTest N rec p0 S = some T) : CT mX7_readTest D 0 [.ref 1, .int p0] S (qV T) := by
  refine ct_of [some (.ref 1), some (.int p0), none] rfl (fun _ => rfl) (fun _ => Nat.le_of_ble_eq_true rfl) ?_
  unfold fX7_readTest at h
  refine r_aload_n (x := 1) dX7_readTest_0 rfl ?_
  refine r_iload_n (x := p0) dX7_readTest_1 rfl ?_
  obtain ⟨S2, h3, h⟩ := bV_e h
  refine r_cVV (y := mX7_readSum) (As := [.int p0]) (rest := []) dX7_readTest_2 qX7_155 kX7_readSum rfl ob1 vc7 rfl ((hrec 4 p0 S S2 h3).2.2.2.2.1 rfl) (by omega) (Nat.zero_le _) rfl (Nat.le_of_ble_eq_true rfl) ?_
  refine r_aload_n (x := 1) dX7_readTest_5 rfl ?_
  refine r_getfield (o := 1) (v := .ref 2) dX7_readTest_6 lX7_12 ck1 nC1 rfl ?_
  refine r_bipush (v := 60) dX7_readTest_9 rfl ?_
  obtain ⟨x4, S5, h6, h⟩ := bI_e h
  refine r_cVI (y := mX10_isSign) (As := [.int 60]) (rest := []) dX7_readTest_11 qX7_79 kX10_isSign rfl ob2 vc10 rfl (okX10_isSign N 60 S2 x4 S5 h6) (by omega) (Nat.zero_le _) rfl (Nat.le_of_ble_eq_true rfl) ?_
  refine r_if_eq (tgt := 22) dX7_readTest_14 (by decide) (fun c7 => ?_) (fun c7 => ?_)
  · rw [if_pos c7] at h
    refine r_aload_n (x := 1) dX7_readTest_22 rfl ?_
    refine r_getfield (o := 1) (v := .ref 2) dX7_readTest_23 lX7_12 ck1 nC1 rfl ?_
    refine r_bipush (v := 61) dX7_readTest_26 rfl ?_
    obtain ⟨x8, S9, h10, h⟩ := bI_e h
    refine r_cVI (y := mX10_isSign) (As := [.int 61]) (rest := []) dX7_readTest_28 qX7_79 kX10_isSign rfl ob2 vc10 rfl (okX10_isSign N 61 S5 x8 S9 h10) (by omega) (Nat.zero_le _) rfl (Nat.le_of_ble_eq_true rfl) ?_
    obtain ⟨x12, hx12⟩ : ∃ y : Int32, y = ((if x8 = 0 then 0 else (-11)) : Int32) := ⟨_, rfl⟩
    replace h := lt_e hx12 h
    have keyx12 : WP [] mX7_readTest D 0 (qV T) 40 [some (.ref 1), some (.int p0), none] (.int x12 :: []) S9 0 := by
      refine r_istore_n (L' := [some (.ref 1), some (.int p0), some (.int x12)]) dX7_readTest_40 (Nat.le_of_ble_eq_true rfl) rfl rfl ?_
      refine r_aload_n (x := 1) dX7_readTest_41 rfl ?_
      refine r_getfield (o := 1) (v := .int (S9.1 1 3)) dX7_readTest_42 lX7_32 ck1 nC1 rfl ?_
      refine r_if_ne (tgt := 72) dX7_readTest_45 (by decide) (fun c13 => ?_) (fun c13 => ?_)
      · rw [if_neg c13] at h
        cases h
        exact r_return dX7_readTest_72 rfl (Nat.zero_le _) ⟨rfl, rfl⟩
      · rw [if_pos c13] at h
        refine r_iload_n (x := x12) dX7_readTest_48 rfl ?_
        refine r_if_eq (tgt := 72) dX7_readTest_49 (by decide) (fun c14 => ?_) (fun c14 => ?_)
        · rw [if_pos c14] at h
          cases h
          exact r_return dX7_readTest_72 rfl (Nat.zero_le _) ⟨rfl, rfl⟩
        · rw [if_neg c14] at h
          refine r_aload_n (x := 1) dX7_readTest_52 rfl ?_
          refine r_getfield (o := 1) (v := .ref 2) dX7_readTest_53 lX7_12 ck1 nC1 rfl ?_
          obtain ⟨S16, h17, h⟩ := bV_e h
          refine r_cVV (y := mX10_take) (As := []) (rest := []) dX7_readTest_56 qX7_83 kX10_take rfl ob2 vc10 rfl (okX10_take N  S9 S16 h17) (by omega) (Nat.zero_le _) rfl (Nat.le_of_ble_eq_true rfl) ?_
          refine r_aload_n (x := 1) dX7_readTest_59 rfl ?_
          refine r_iload_n (x := p0) dX7_readTest_60 rfl ?_
          obtain ⟨S19, h20, h⟩ := bV_e h
          refine r_cVV (y := mX7_readSum) (As := [.int p0]) (rest := []) dX7_readTest_61 qX7_155 kX7_readSum rfl ob1 vc7 rfl ((hrec 4 p0 S16 S19 h20).2.2.2.2.1 rfl) (by omega) (Nat.zero_le _) rfl (Nat.le_of_ble_eq_true rfl) ?_
          refine r_aload_n (x := 1) dX7_readTest_64 rfl ?_
          refine r_getfield (o := 1) (v := .ref (S19.2.2 1 2)) dX7_readTest_65 lX7_29 ck1 nC1 rfl ?_
          refine r_topr (fun o21 ho21 => ?_)
          replace h := lt_e ho21 h
          refine r_iload_n (x := x12) dX7_readTest_68 rfl ?_
          obtain ⟨g25, h⟩ := gd_e h
          obtain ⟨S23, h24, h⟩ := bV_e h
          refine r_cVV (y := mX8_add) (As := [.int x12]) (rest := []) dX7_readTest_69 qX7_142 kX8_add rfl g25 vc8 rfl (okX8_add N o21 x12 S19 S23 h24) (by omega) (Nat.zero_le _) rfl (Nat.le_of_ble_eq_true rfl) ?_
          cases h
          exact r_return dX7_readTest_72 rfl (Nat.zero_le _) ⟨rfl, rfl⟩
    refine r_if_eq (tgt := 39) dX7_readTest_31 (by decide) (fun c11 => ?_) (fun c11 => ?_)
    · refine r_iconst (v := 0) dX7_readTest_39 rfl ?_
      exact r_tope (by rw [hx12, if_pos c11]) keyx12
    · refine r_bipush (v := (-11)) dX7_readTest_34 rfl ?_
      refine r_goto (tgt := 40) dX7_readTest_36 (by decide) ?_
      exact r_tope (by rw [hx12, if_neg c11]) keyx12
  · rw [if_neg c7] at h
    refine r_bipush (v := (-10)) dX7_readTest_17 rfl ?_
    refine r_goto (tgt := 40) dX7_readTest_19 (by decide) ?_
    refine r_istore_n (L' := [some (.ref 1), some (.int p0), some (.int (-10))]) dX7_readTest_40 (Nat.le_of_ble_eq_true rfl) rfl rfl ?_
    refine r_aload_n (x := 1) dX7_readTest_41 rfl ?_
    refine r_getfield (o := 1) (v := .int (S5.1 1 3)) dX7_readTest_42 lX7_32 ck1 nC1 rfl ?_
    refine r_if_ne (tgt := 72) dX7_readTest_45 (by decide) (fun c26 => ?_) (fun c26 => ?_)
    · rw [if_neg c26] at h
      cases h
      exact r_return dX7_readTest_72 rfl (Nat.zero_le _) ⟨rfl, rfl⟩
    · rw [if_pos c26] at h
      refine r_iload_n (x := (-10)) dX7_readTest_48 rfl ?_
      refine r_if_eq (tgt := 72) dX7_readTest_49 (by decide) (fun c27 => ?_) (fun c27 => ?_)
      · rw [if_pos c27] at h
        cases h
        exact r_return dX7_readTest_72 rfl (Nat.zero_le _) ⟨rfl, rfl⟩
      · rw [if_neg c27] at h
        refine r_aload_n (x := 1) dX7_readTest_52 rfl ?_
        refine r_getfield (o := 1) (v := .ref 2) dX7_readTest_53 lX7_12 ck1 nC1 rfl ?_
        obtain ⟨S29, h30, h⟩ := bV_e h
        refine r_cVV (y := mX10_take) (As := []) (rest := []) dX7_readTest_56 qX7_83 kX10_take rfl ob2 vc10 rfl (okX10_take N  S5 S29 h30) (by omega) (Nat.zero_le _) rfl (Nat.le_of_ble_eq_true rfl) ?_
        refine r_aload_n (x := 1) dX7_readTest_59 rfl ?_
        refine r_iload_n (x := p0) dX7_readTest_60 rfl ?_
        obtain ⟨S32, h33, h⟩ := bV_e h
        refine r_cVV (y := mX7_readSum) (As := [.int p0]) (rest := []) dX7_readTest_61 qX7_155 kX7_readSum rfl ob1 vc7 rfl ((hrec 4 p0 S29 S32 h33).2.2.2.2.1 rfl) (by omega) (Nat.zero_le _) rfl (Nat.le_of_ble_eq_true rfl) ?_
        refine r_aload_n (x := 1) dX7_readTest_64 rfl ?_
        refine r_getfield (o := 1) (v := .ref (S32.2.2 1 2)) dX7_readTest_65 lX7_29 ck1 nC1 rfl ?_
        refine r_topr (fun o34 ho34 => ?_)
        replace h := lt_e ho34 h
        refine r_iload_n (x := (-10)) dX7_readTest_68 rfl ?_
        obtain ⟨g38, h⟩ := gd_e h
        obtain ⟨S36, h37, h⟩ := bV_e h
        refine r_cVV (y := mX8_add) (As := [.int (-10)]) (rest := []) dX7_readTest_69 qX7_142 kX8_add rfl g38 vc8 rfl (okX8_add N o34 (-10) S32 S36 h37) (by omega) (Nat.zero_le _) rfl (Nat.le_of_ble_eq_true rfl) ?_
        cases h
        exact r_return dX7_readTest_72 rfl (Nat.zero_le _) ⟨rfl, rfl⟩
def fX7_readSum_7 (N : Nat) (rec : RecT) (v1 : Int32) : Nat → Int32 → PS → Option (Nat × Int32 × PS)
  | 0, _, _ => none
  | n + 1, v2, S =>
    (if 700 ≤ v2 then
      some (0, v2, S)
    else
      (if (S.1 1 3) = 0 then
        bI (fX10_isSign N 43 S) fun x6 S7 =>
        (if x6 = 0 then
          bI (fX10_isSign N 45 S7) fun x10 S11 =>
          lt ((if x10 = 0 then 0 else (-13)) : Int32) fun x14 =>
          (if x14 = 0 then
            some (1, v2, S11)
          else
            bV (fX10_take N  S11) fun S17 =>
            bV (rec 5 v1 S17) fun S20 =>
            lt ((S20.2.2 1 2) : Nat) fun o22 =>
            gd (obj o22 8) <|
            bV (fX8_add N o22 x14 S20) fun S24 =>
            lt (v2 + 1 : Int32) fun x27 =>
            fX7_readSum_7 N rec v1 n x27 S24)
        else
          (if ((-12) : Int32) = 0 then
            some (1, v2, S7)
          else
            bV (fX10_take N  S7) fun S30 =>
            bV (rec 5 v1 S30) fun S33 =>
            lt ((S33.2.2 1 2) : Nat) fun o35 =>
            gd (obj o35 8) <|
            bV (fX8_add N o35 (-12) S33) fun S37 =>
            lt (v2 + 1 : Int32) fun x40 =>
            fX7_readSum_7 N rec v1 n x40 S37))
      else
        some (0, v2, S)))
set_option maxHeartbeats 4000000 in
set_option maxRecDepth 100000 in
theorem okX7_readSum_7 (N : Nat) (rec : RecT) (dr D : Nat) (hrec : RecOK rec dr) (hD : dr + 1 ≤ D) (hB : 20 ≤ D) (v1 : Int32) (Q : OQ) (u : Nat) (hu : u ≤ 0) : ∀ (n : Nat) (v2 : Int32) (S : PS) (tg : Nat) (y2 : Int32) (T : PS), fX7_readSum_7 N rec v1 n v2 S = some (tg, y2, T) → (tg = 0 → WP [] mX7_readSum D 0 Q 88 [some (.ref 1), some (.int v1), some (.int y2), none] [] T u) → (tg = 1 → WP [] mX7_readSum D 0 Q 61 [some (.ref 1), some (.int v1), some (.int y2), none] [] T u) → WP [] mX7_readSum D 0 Q 7 [some (.ref 1), some (.int v1), some (.int v2), none] [] S u := by
  intro n
  induction n with
  | zero => intro v2 S tg y2 T h; rw [fX7_readSum_7] at h; cases h
  | succ n ih =>
    intro v2 S tg y2 T h k0 k1
    rw [fX7_readSum_7] at h
    refine r_iload_n (x := v2) dX7_readSum_7 rfl ?_
    refine r_sipush (v := 700) dX7_readSum_8 rfl ?_
    refine r_icmp_ge (tgt := 88) dX7_readSum_11 (by decide) (fun c4 => ?_) (fun c4 => ?_)
    · rw [if_pos c4] at h
      cases h
      exact k0 rfl
    · rw [if_neg c4] at h
      refine r_aload_n (x := 1) dX7_readSum_14 rfl ?_
      refine r_getfield (o := 1) (v := .int (S.1 1 3)) dX7_readSum_15 lX7_32 ck1 nC1 rfl ?_
      refine r_if_ne (tgt := 88) dX7_readSum_18 (by decide) (fun c5 => ?_) (fun c5 => ?_)
      · rw [if_neg c5] at h
        cases h
        exact k0 rfl
      · rw [if_pos c5] at h
        refine r_aload_n (x := 1) dX7_readSum_21 rfl ?_
        refine r_getfield (o := 1) (v := .ref 2) dX7_readSum_22 lX7_12 ck1 nC1 rfl ?_
        refine r_bipush (v := 43) dX7_readSum_25 rfl ?_
        obtain ⟨x6, S7, h8, h⟩ := bI_e h
        refine r_cVI (y := mX10_isSign) (As := [.int 43]) (rest := []) dX7_readSum_27 qX7_79 kX10_isSign rfl ob2 vc10 rfl (okX10_isSign N 43 S x6 S7 h8) (by omega) hu rfl (Nat.le_of_ble_eq_true rfl) ?_
        refine r_if_eq (tgt := 38) dX7_readSum_30 (by decide) (fun c9 => ?_) (fun c9 => ?_)
        · rw [if_pos c9] at h
          refine r_aload_n (x := 1) dX7_readSum_38 rfl ?_
          refine r_getfield (o := 1) (v := .ref 2) dX7_readSum_39 lX7_12 ck1 nC1 rfl ?_
          refine r_bipush (v := 45) dX7_readSum_42 rfl ?_
          obtain ⟨x10, S11, h12, h⟩ := bI_e h
          refine r_cVI (y := mX10_isSign) (As := [.int 45]) (rest := []) dX7_readSum_44 qX7_79 kX10_isSign rfl ob2 vc10 rfl (okX10_isSign N 45 S7 x10 S11 h12) (by omega) hu rfl (Nat.le_of_ble_eq_true rfl) ?_
          obtain ⟨x14, hx14⟩ : ∃ y : Int32, y = ((if x10 = 0 then 0 else (-13)) : Int32) := ⟨_, rfl⟩
          replace h := lt_e hx14 h
          have keyx14 : WP [] mX7_readSum D 0 Q 56 [some (.ref 1), some (.int v1), some (.int v2), none] (.int x14 :: []) S11 u := by
            refine r_istore_n (L' := [some (.ref 1), some (.int v1), some (.int v2), some (.int x14)]) dX7_readSum_56 (Nat.le_of_ble_eq_true rfl) rfl rfl ?_
            refine r_iload_n (x := x14) dX7_readSum_57 rfl ?_
            refine r_if_ne (tgt := 62) dX7_readSum_58 (by decide) (fun c15 => ?_) (fun c15 => ?_)
            · rw [if_neg c15] at h
              refine r_aload_n (x := 1) dX7_readSum_62 rfl ?_
              refine r_getfield (o := 1) (v := .ref 2) dX7_readSum_63 lX7_12 ck1 nC1 rfl ?_
              obtain ⟨S17, h18, h⟩ := bV_e h
              refine r_cVV (y := mX10_take) (As := []) (rest := []) dX7_readSum_66 qX7_83 kX10_take rfl ob2 vc10 rfl (okX10_take N  S11 S17 h18) (by omega) hu rfl (Nat.le_of_ble_eq_true rfl) ?_
              refine r_aload_n (x := 1) dX7_readSum_69 rfl ?_
              refine r_iload_n (x := v1) dX7_readSum_70 rfl ?_
              obtain ⟨S20, h21, h⟩ := bV_e h
              refine r_cVV (y := mX7_readProduct) (As := [.int v1]) (rest := []) dX7_readSum_71 qX7_158 kX7_readProduct rfl ob1 vc7 rfl ((hrec 5 v1 S17 S20 h21).2.2.2.2.2.1 rfl) (by omega) hu rfl (Nat.le_of_ble_eq_true rfl) ?_
              refine r_aload_n (x := 1) dX7_readSum_74 rfl ?_
              refine r_getfield (o := 1) (v := .ref (S20.2.2 1 2)) dX7_readSum_75 lX7_29 ck1 nC1 rfl ?_
              refine r_topr (fun o22 ho22 => ?_)
              replace h := lt_e ho22 h
              refine r_iload_n (x := x14) dX7_readSum_78 rfl ?_
              obtain ⟨g26, h⟩ := gd_e h
              obtain ⟨S24, h25, h⟩ := bV_e h
              refine r_cVV (y := mX8_add) (As := [.int x14]) (rest := []) dX7_readSum_79 qX7_142 kX8_add rfl g26 vc8 rfl (okX8_add N o22 x14 S20 S24 h25) (by omega) hu rfl (Nat.le_of_ble_eq_true rfl) ?_
              obtain ⟨x27, hx27⟩ : ∃ y : Int32, y = (v2 + 1 : Int32) := ⟨_, rfl⟩
              replace h := lt_e hx27 h
              refine r_iinc (x := v2) (v := x27) (L' := [some (.ref 1), some (.int v1), some (.int x27), some (.int x14)]) dX7_readSum_82 rfl (by rw [hx27]; rfl) (Nat.le_of_ble_eq_true rfl) rfl rfl ?_
              refine r_goto (tgt := 7) dX7_readSum_85 (by decide) ?_
              refine r_drop [true, true, true, false] rfl ?_
              exact ih _ _ _ _ _ h k0 k1
            · rw [if_pos c15] at h
              cases h
              refine r_drop [true, true, true, false] rfl ?_
              exact k1 rfl
          refine r_if_eq (tgt := 55) dX7_readSum_47 (by decide) (fun c13 => ?_) (fun c13 => ?_)
          · refine r_iconst (v := 0) dX7_readSum_55 rfl ?_
            exact r_tope (by rw [hx14, if_pos c13]) keyx14
          · refine r_bipush (v := (-13)) dX7_readSum_50 rfl ?_
            refine r_goto (tgt := 56) dX7_readSum_52 (by decide) ?_
            exact r_tope (by rw [hx14, if_neg c13]) keyx14
        · rw [if_neg c9] at h
          refine r_bipush (v := (-12)) dX7_readSum_33 rfl ?_
          refine r_goto (tgt := 56) dX7_readSum_35 (by decide) ?_
          refine r_istore_n (L' := [some (.ref 1), some (.int v1), some (.int v2), some (.int (-12))]) dX7_readSum_56 (Nat.le_of_ble_eq_true rfl) rfl rfl ?_
          refine r_iload_n (x := (-12)) dX7_readSum_57 rfl ?_
          refine r_if_ne (tgt := 62) dX7_readSum_58 (by decide) (fun c28 => ?_) (fun c28 => ?_)
          · rw [if_neg c28] at h
            refine r_aload_n (x := 1) dX7_readSum_62 rfl ?_
            refine r_getfield (o := 1) (v := .ref 2) dX7_readSum_63 lX7_12 ck1 nC1 rfl ?_
            obtain ⟨S30, h31, h⟩ := bV_e h
            refine r_cVV (y := mX10_take) (As := []) (rest := []) dX7_readSum_66 qX7_83 kX10_take rfl ob2 vc10 rfl (okX10_take N  S7 S30 h31) (by omega) hu rfl (Nat.le_of_ble_eq_true rfl) ?_
            refine r_aload_n (x := 1) dX7_readSum_69 rfl ?_
            refine r_iload_n (x := v1) dX7_readSum_70 rfl ?_
            obtain ⟨S33, h34, h⟩ := bV_e h
            refine r_cVV (y := mX7_readProduct) (As := [.int v1]) (rest := []) dX7_readSum_71 qX7_158 kX7_readProduct rfl ob1 vc7 rfl ((hrec 5 v1 S30 S33 h34).2.2.2.2.2.1 rfl) (by omega) hu rfl (Nat.le_of_ble_eq_true rfl) ?_
            refine r_aload_n (x := 1) dX7_readSum_74 rfl ?_
            refine r_getfield (o := 1) (v := .ref (S33.2.2 1 2)) dX7_readSum_75 lX7_29 ck1 nC1 rfl ?_
            refine r_topr (fun o35 ho35 => ?_)
            replace h := lt_e ho35 h
            refine r_iload_n (x := (-12)) dX7_readSum_78 rfl ?_
            obtain ⟨g39, h⟩ := gd_e h
            obtain ⟨S37, h38, h⟩ := bV_e h
            refine r_cVV (y := mX8_add) (As := [.int (-12)]) (rest := []) dX7_readSum_79 qX7_142 kX8_add rfl g39 vc8 rfl (okX8_add N o35 (-12) S33 S37 h38) (by omega) hu rfl (Nat.le_of_ble_eq_true rfl) ?_
            obtain ⟨x40, hx40⟩ : ∃ y : Int32, y = (v2 + 1 : Int32) := ⟨_, rfl⟩
            replace h := lt_e hx40 h
            refine r_iinc (x := v2) (v := x40) (L' := [some (.ref 1), some (.int v1), some (.int x40), some (.int (-12))]) dX7_readSum_82 rfl (by rw [hx40]; rfl) (Nat.le_of_ble_eq_true rfl) rfl rfl ?_
            refine r_goto (tgt := 7) dX7_readSum_85 (by decide) ?_
            refine r_drop [true, true, true, false] rfl ?_
            exact ih _ _ _ _ _ h k0 k1
          · rw [if_pos c28] at h
            cases h
            refine r_drop [true, true, true, false] rfl ?_
            exact k1 rfl
def fX7_readSum (N : Nat) (rec : RecT) (p0 : Int32) (S : PS) : Option PS :=
  bV (rec 5 p0 S) fun S2 =>
  bT (fX7_readSum_7 N rec p0 N 0 S2) fun q41 =>
  lt (q41.1 : Nat) fun t44 =>
  lt (q41.2.1 : Int32) fun x42 =>
  lt (q41.2.2 : PS) fun S43 =>
  (if t44 = 0 then
    some S43
  else 
    some S43)
set_option maxHeartbeats 4000000 in
set_option maxRecDepth 100000 in
theorem okX7_readSum (N : Nat) (rec : RecT) (dr D : Nat) (hrec : RecOK rec dr) (hD : dr + 1 ≤ D) (hB : 20 ≤ D) (p0 : Int32) (S : PS) (T : PS) (h : fX7_readSum N rec p0 S = some T) : CT mX7_readSum D 0 [.ref 1, .int p0] S (qV T) := by
  refine ct_of [some (.ref 1), some (.int p0), none, none] rfl (fun _ => rfl) (fun _ => Nat.le_of_ble_eq_true rfl) ?_
  unfold fX7_readSum at h
  refine r_aload_n (x := 1) dX7_readSum_0 rfl ?_
  refine r_iload_n (x := p0) dX7_readSum_1 rfl ?_
  obtain ⟨S2, h3, h⟩ := bV_e h
  refine r_cVV (y := mX7_readProduct) (As := [.int p0]) (rest := []) dX7_readSum_2 qX7_158 kX7_readProduct rfl ob1 vc7 rfl ((hrec 5 p0 S S2 h3).2.2.2.2.2.1 rfl) (by omega) (Nat.zero_le _) rfl (Nat.le_of_ble_eq_true rfl) ?_
  refine r_iconst (v := 0) dX7_readSum_5 rfl ?_
  refine r_istore_n (L' := [some (.ref 1), some (.int p0), some (.int 0), none]) dX7_readSum_6 (Nat.le_of_ble_eq_true rfl) rfl rfl ?_
  obtain ⟨⟨t44, x42, S43⟩, h45, h⟩ := bT_e h
  dsimp only at h
  replace h := pl_s (pl_s (pl_s (h)))
  refine okX7_readSum_7 N rec dr D hrec hD hB p0 (qV T) 0 (Nat.zero_le _) _ _ _ _ _ _ h45 (fun et44 => ?_) (fun et44 => ?_)
  · rw [if_pos et44] at h
    cases h
    exact r_return dX7_readSum_88 rfl (Nat.zero_le _) ⟨rfl, rfl⟩
  · rw [if_neg (by rw [et44]; decide)] at h
    cases h
    exact r_return dX7_readSum_61 rfl (Nat.zero_le _) ⟨rfl, rfl⟩
def fX7_readProduct_7 (N : Nat) (rec : RecT) (v1 : Int32) : Nat → Int32 → PS → Option (Nat × Int32 × PS)
  | 0, _, _ => none
  | n + 1, v2, S =>
    (if 700 ≤ v2 then
      some (0, v2, S)
    else
      (if (S.1 1 3) = 0 then
        bI (fX10_isSign N 42 S) fun x6 S7 =>
        (if x6 = 0 then
          bI (fX10_isSign N 47 S7) fun x10 S11 =>
          lt ((if x10 = 0 then 0 else (-15)) : Int32) fun x14 =>
          (if x14 = 0 then
            some (1, v2, S11)
          else
            bV (fX10_take N  S11) fun S17 =>
            bV (rec 6 v1 S17) fun S20 =>
            lt ((S20.2.2 1 2) : Nat) fun o22 =>
            gd (obj o22 8) <|
            bV (fX8_add N o22 x14 S20) fun S24 =>
            lt (v2 + 1 : Int32) fun x27 =>
            fX7_readProduct_7 N rec v1 n x27 S24)
        else
          (if ((-14) : Int32) = 0 then
            some (1, v2, S7)
          else
            bV (fX10_take N  S7) fun S30 =>
            bV (rec 6 v1 S30) fun S33 =>
            lt ((S33.2.2 1 2) : Nat) fun o35 =>
            gd (obj o35 8) <|
            bV (fX8_add N o35 (-14) S33) fun S37 =>
            lt (v2 + 1 : Int32) fun x40 =>
            fX7_readProduct_7 N rec v1 n x40 S37))
      else
        some (0, v2, S)))
set_option maxHeartbeats 4000000 in
set_option maxRecDepth 100000 in
theorem okX7_readProduct_7 (N : Nat) (rec : RecT) (dr D : Nat) (hrec : RecOK rec dr) (hD : dr + 1 ≤ D) (hB : 20 ≤ D) (v1 : Int32) (Q : OQ) (u : Nat) (hu : u ≤ 0) : ∀ (n : Nat) (v2 : Int32) (S : PS) (tg : Nat) (y2 : Int32) (T : PS), fX7_readProduct_7 N rec v1 n v2 S = some (tg, y2, T) → (tg = 0 → WP [] mX7_readProduct D 0 Q 88 [some (.ref 1), some (.int v1), some (.int y2), none] [] T u) → (tg = 1 → WP [] mX7_readProduct D 0 Q 61 [some (.ref 1), some (.int v1), some (.int y2), none] [] T u) → WP [] mX7_readProduct D 0 Q 7 [some (.ref 1), some (.int v1), some (.int v2), none] [] S u := by
  intro n
  induction n with
  | zero => intro v2 S tg y2 T h; rw [fX7_readProduct_7] at h; cases h
  | succ n ih =>
    intro v2 S tg y2 T h k0 k1
    rw [fX7_readProduct_7] at h
    refine r_iload_n (x := v2) dX7_readProduct_7 rfl ?_
    refine r_sipush (v := 700) dX7_readProduct_8 rfl ?_
    refine r_icmp_ge (tgt := 88) dX7_readProduct_11 (by decide) (fun c4 => ?_) (fun c4 => ?_)
    · rw [if_pos c4] at h
      cases h
      exact k0 rfl
    · rw [if_neg c4] at h
      refine r_aload_n (x := 1) dX7_readProduct_14 rfl ?_
      refine r_getfield (o := 1) (v := .int (S.1 1 3)) dX7_readProduct_15 lX7_32 ck1 nC1 rfl ?_
      refine r_if_ne (tgt := 88) dX7_readProduct_18 (by decide) (fun c5 => ?_) (fun c5 => ?_)
      · rw [if_neg c5] at h
        cases h
        exact k0 rfl
      · rw [if_pos c5] at h
        refine r_aload_n (x := 1) dX7_readProduct_21 rfl ?_
        refine r_getfield (o := 1) (v := .ref 2) dX7_readProduct_22 lX7_12 ck1 nC1 rfl ?_
        refine r_bipush (v := 42) dX7_readProduct_25 rfl ?_
        obtain ⟨x6, S7, h8, h⟩ := bI_e h
        refine r_cVI (y := mX10_isSign) (As := [.int 42]) (rest := []) dX7_readProduct_27 qX7_79 kX10_isSign rfl ob2 vc10 rfl (okX10_isSign N 42 S x6 S7 h8) (by omega) hu rfl (Nat.le_of_ble_eq_true rfl) ?_
        refine r_if_eq (tgt := 38) dX7_readProduct_30 (by decide) (fun c9 => ?_) (fun c9 => ?_)
        · rw [if_pos c9] at h
          refine r_aload_n (x := 1) dX7_readProduct_38 rfl ?_
          refine r_getfield (o := 1) (v := .ref 2) dX7_readProduct_39 lX7_12 ck1 nC1 rfl ?_
          refine r_bipush (v := 47) dX7_readProduct_42 rfl ?_
          obtain ⟨x10, S11, h12, h⟩ := bI_e h
          refine r_cVI (y := mX10_isSign) (As := [.int 47]) (rest := []) dX7_readProduct_44 qX7_79 kX10_isSign rfl ob2 vc10 rfl (okX10_isSign N 47 S7 x10 S11 h12) (by omega) hu rfl (Nat.le_of_ble_eq_true rfl) ?_
          obtain ⟨x14, hx14⟩ : ∃ y : Int32, y = ((if x10 = 0 then 0 else (-15)) : Int32) := ⟨_, rfl⟩
          replace h := lt_e hx14 h
          have keyx14 : WP [] mX7_readProduct D 0 Q 56 [some (.ref 1), some (.int v1), some (.int v2), none] (.int x14 :: []) S11 u := by
            refine r_istore_n (L' := [some (.ref 1), some (.int v1), some (.int v2), some (.int x14)]) dX7_readProduct_56 (Nat.le_of_ble_eq_true rfl) rfl rfl ?_
            refine r_iload_n (x := x14) dX7_readProduct_57 rfl ?_
            refine r_if_ne (tgt := 62) dX7_readProduct_58 (by decide) (fun c15 => ?_) (fun c15 => ?_)
            · rw [if_neg c15] at h
              refine r_aload_n (x := 1) dX7_readProduct_62 rfl ?_
              refine r_getfield (o := 1) (v := .ref 2) dX7_readProduct_63 lX7_12 ck1 nC1 rfl ?_
              obtain ⟨S17, h18, h⟩ := bV_e h
              refine r_cVV (y := mX10_take) (As := []) (rest := []) dX7_readProduct_66 qX7_83 kX10_take rfl ob2 vc10 rfl (okX10_take N  S11 S17 h18) (by omega) hu rfl (Nat.le_of_ble_eq_true rfl) ?_
              refine r_aload_n (x := 1) dX7_readProduct_69 rfl ?_
              refine r_iload_n (x := v1) dX7_readProduct_70 rfl ?_
              obtain ⟨S20, h21, h⟩ := bV_e h
              refine r_cVV (y := mX7_readPart) (As := [.int v1]) (rest := []) dX7_readProduct_71 qX7_161 kX7_readPart rfl ob1 vc7 rfl ((hrec 6 v1 S17 S20 h21).2.2.2.2.2.2 rfl) (by omega) hu rfl (Nat.le_of_ble_eq_true rfl) ?_
              refine r_aload_n (x := 1) dX7_readProduct_74 rfl ?_
              refine r_getfield (o := 1) (v := .ref (S20.2.2 1 2)) dX7_readProduct_75 lX7_29 ck1 nC1 rfl ?_
              refine r_topr (fun o22 ho22 => ?_)
              replace h := lt_e ho22 h
              refine r_iload_n (x := x14) dX7_readProduct_78 rfl ?_
              obtain ⟨g26, h⟩ := gd_e h
              obtain ⟨S24, h25, h⟩ := bV_e h
              refine r_cVV (y := mX8_add) (As := [.int x14]) (rest := []) dX7_readProduct_79 qX7_142 kX8_add rfl g26 vc8 rfl (okX8_add N o22 x14 S20 S24 h25) (by omega) hu rfl (Nat.le_of_ble_eq_true rfl) ?_
              obtain ⟨x27, hx27⟩ : ∃ y : Int32, y = (v2 + 1 : Int32) := ⟨_, rfl⟩
              replace h := lt_e hx27 h
              refine r_iinc (x := v2) (v := x27) (L' := [some (.ref 1), some (.int v1), some (.int x27), some (.int x14)]) dX7_readProduct_82 rfl (by rw [hx27]; rfl) (Nat.le_of_ble_eq_true rfl) rfl rfl ?_
              refine r_goto (tgt := 7) dX7_readProduct_85 (by decide) ?_
              refine r_drop [true, true, true, false] rfl ?_
              exact ih _ _ _ _ _ h k0 k1
            · rw [if_pos c15] at h
              cases h
              refine r_drop [true, true, true, false] rfl ?_
              exact k1 rfl
          refine r_if_eq (tgt := 55) dX7_readProduct_47 (by decide) (fun c13 => ?_) (fun c13 => ?_)
          · refine r_iconst (v := 0) dX7_readProduct_55 rfl ?_
            exact r_tope (by rw [hx14, if_pos c13]) keyx14
          · refine r_bipush (v := (-15)) dX7_readProduct_50 rfl ?_
            refine r_goto (tgt := 56) dX7_readProduct_52 (by decide) ?_
            exact r_tope (by rw [hx14, if_neg c13]) keyx14
        · rw [if_neg c9] at h
          refine r_bipush (v := (-14)) dX7_readProduct_33 rfl ?_
          refine r_goto (tgt := 56) dX7_readProduct_35 (by decide) ?_
          refine r_istore_n (L' := [some (.ref 1), some (.int v1), some (.int v2), some (.int (-14))]) dX7_readProduct_56 (Nat.le_of_ble_eq_true rfl) rfl rfl ?_
          refine r_iload_n (x := (-14)) dX7_readProduct_57 rfl ?_
          refine r_if_ne (tgt := 62) dX7_readProduct_58 (by decide) (fun c28 => ?_) (fun c28 => ?_)
          · rw [if_neg c28] at h
            refine r_aload_n (x := 1) dX7_readProduct_62 rfl ?_
            refine r_getfield (o := 1) (v := .ref 2) dX7_readProduct_63 lX7_12 ck1 nC1 rfl ?_
            obtain ⟨S30, h31, h⟩ := bV_e h
            refine r_cVV (y := mX10_take) (As := []) (rest := []) dX7_readProduct_66 qX7_83 kX10_take rfl ob2 vc10 rfl (okX10_take N  S7 S30 h31) (by omega) hu rfl (Nat.le_of_ble_eq_true rfl) ?_
            refine r_aload_n (x := 1) dX7_readProduct_69 rfl ?_
            refine r_iload_n (x := v1) dX7_readProduct_70 rfl ?_
            obtain ⟨S33, h34, h⟩ := bV_e h
            refine r_cVV (y := mX7_readPart) (As := [.int v1]) (rest := []) dX7_readProduct_71 qX7_161 kX7_readPart rfl ob1 vc7 rfl ((hrec 6 v1 S30 S33 h34).2.2.2.2.2.2 rfl) (by omega) hu rfl (Nat.le_of_ble_eq_true rfl) ?_
            refine r_aload_n (x := 1) dX7_readProduct_74 rfl ?_
            refine r_getfield (o := 1) (v := .ref (S33.2.2 1 2)) dX7_readProduct_75 lX7_29 ck1 nC1 rfl ?_
            refine r_topr (fun o35 ho35 => ?_)
            replace h := lt_e ho35 h
            refine r_iload_n (x := (-14)) dX7_readProduct_78 rfl ?_
            obtain ⟨g39, h⟩ := gd_e h
            obtain ⟨S37, h38, h⟩ := bV_e h
            refine r_cVV (y := mX8_add) (As := [.int (-14)]) (rest := []) dX7_readProduct_79 qX7_142 kX8_add rfl g39 vc8 rfl (okX8_add N o35 (-14) S33 S37 h38) (by omega) hu rfl (Nat.le_of_ble_eq_true rfl) ?_
            obtain ⟨x40, hx40⟩ : ∃ y : Int32, y = (v2 + 1 : Int32) := ⟨_, rfl⟩
            replace h := lt_e hx40 h
            refine r_iinc (x := v2) (v := x40) (L' := [some (.ref 1), some (.int v1), some (.int x40), some (.int (-14))]) dX7_readProduct_82 rfl (by rw [hx40]; rfl) (Nat.le_of_ble_eq_true rfl) rfl rfl ?_
            refine r_goto (tgt := 7) dX7_readProduct_85 (by decide) ?_
            refine r_drop [true, true, true, false] rfl ?_
            exact ih _ _ _ _ _ h k0 k1
          · rw [if_pos c28] at h
            cases h
            refine r_drop [true, true, true, false] rfl ?_
            exact k1 rfl
def fX7_readProduct (N : Nat) (rec : RecT) (p0 : Int32) (S : PS) : Option PS :=
  bV (rec 6 p0 S) fun S2 =>
  bT (fX7_readProduct_7 N rec p0 N 0 S2) fun q41 =>
  lt (q41.1 : Nat) fun t44 =>
  lt (q41.2.1 : Int32) fun x42 =>
  lt (q41.2.2 : PS) fun S43 =>
  (if t44 = 0 then
    some S43
  else 
    some S43)
set_option maxHeartbeats 4000000 in
set_option maxRecDepth 100000 in
theorem okX7_readProduct (N : Nat) (rec : RecT) (dr D : Nat) (hrec : RecOK rec dr) (hD : dr + 1 ≤ D) (hB : 20 ≤ D) (p0 : Int32) (S : PS) (T : PS) (h : fX7_readProduct N rec p0 S = some T) : CT mX7_readProduct D 0 [.ref 1, .int p0] S (qV T) := by
  refine ct_of [some (.ref 1), some (.int p0), none, none] rfl (fun _ => rfl) (fun _ => Nat.le_of_ble_eq_true rfl) ?_
  unfold fX7_readProduct at h
  refine r_aload_n (x := 1) dX7_readProduct_0 rfl ?_
  refine r_iload_n (x := p0) dX7_readProduct_1 rfl ?_
  obtain ⟨S2, h3, h⟩ := bV_e h
  refine r_cVV (y := mX7_readPart) (As := [.int p0]) (rest := []) dX7_readProduct_2 qX7_161 kX7_readPart rfl ob1 vc7 rfl ((hrec 6 p0 S S2 h3).2.2.2.2.2.2 rfl) (by omega) (Nat.zero_le _) rfl (Nat.le_of_ble_eq_true rfl) ?_
  refine r_iconst (v := 0) dX7_readProduct_5 rfl ?_
  refine r_istore_n (L' := [some (.ref 1), some (.int p0), some (.int 0), none]) dX7_readProduct_6 (Nat.le_of_ble_eq_true rfl) rfl rfl ?_
  obtain ⟨⟨t44, x42, S43⟩, h45, h⟩ := bT_e h
  dsimp only at h
  replace h := pl_s (pl_s (pl_s (h)))
  refine okX7_readProduct_7 N rec dr D hrec hD hB p0 (qV T) 0 (Nat.zero_le _) _ _ _ _ _ _ h45 (fun et44 => ?_) (fun et44 => ?_)
  · rw [if_pos et44] at h
    cases h
    exact r_return dX7_readProduct_88 rfl (Nat.zero_le _) ⟨rfl, rfl⟩
  · rw [if_neg (by rw [et44]; decide)] at h
    cases h
    exact r_return dX7_readProduct_61 rfl (Nat.zero_le _) ⟨rfl, rfl⟩
def fX7_readPart (N : Nat) (rec : RecT) (p0 : Int32) (S : PS) : Option PS :=
  (if (S.1 2 5) = 2 then
    lt ((S.2.2 1 2) : Nat) fun o22 =>
    bI (fX7_readNumber N 0 9999 S) fun x23 S24 =>
    gd (obj o22 8) <|
    bV (fX8_add N o22 x23 S24) fun S27 =>
    some S27
  else
    (if (S.1 2 5) = 1 then
      bV (fX7_readValue N  S) fun S20 =>
      some S20
    else
      bI (fX10_isSign N 40 S) fun x3 S4 =>
      (if x3 = 0 then
        bI (fX7_fail N 1 S4) fun x7 S8 =>
        some S8
      else
        bV (fX10_take N  S4) fun S11 =>
        bV (rec 0 (p0 + 1) S11) fun S14 =>
        bV (fX7_readSign N 41 S14) fun S17 =>
        some S17)))
set_option maxHeartbeats 4000000 in
set_option maxRecDepth 100000 in
theorem okX7_readPart (N : Nat) (rec : RecT) (dr D : Nat) (hrec : RecOK rec dr) (hD : dr + 1 ≤ D) (hB : 20 ≤ D) (p0 : Int32) (S : PS) (T : PS) (h : fX7_readPart N rec p0 S = some T) : CT mX7_readPart D 0 [.ref 1, .int p0] S (qV T) := by
  refine ct_of [some (.ref 1), some (.int p0)] rfl (fun _ => rfl) (fun _ => Nat.le_of_ble_eq_true rfl) ?_
  unfold fX7_readPart at h
  refine r_aload_n (x := 1) dX7_readPart_0 rfl ?_
  refine r_getfield (o := 1) (v := .ref 2) dX7_readPart_1 lX7_12 ck1 nC1 rfl ?_
  refine r_getfield (o := 2) (v := .int (S.1 2 5)) dX7_readPart_4 lX7_46 ck2 nC2 rfl ?_
  refine r_iconst (v := 2) dX7_readPart_7 rfl ?_
  refine r_icmp_ne (tgt := 29) dX7_readPart_8 (by decide) (fun c1 => ?_) (fun c1 => ?_)
  · rw [if_neg c1] at h
    refine r_aload_n (x := 1) dX7_readPart_29 rfl ?_
    refine r_getfield (o := 1) (v := .ref 2) dX7_readPart_30 lX7_12 ck1 nC1 rfl ?_
    refine r_getfield (o := 2) (v := .int (S.1 2 5)) dX7_readPart_33 lX7_46 ck2 nC2 rfl ?_
    refine r_iconst (v := 1) dX7_readPart_36 rfl ?_
    refine r_icmp_ne (tgt := 47) dX7_readPart_37 (by decide) (fun c2 => ?_) (fun c2 => ?_)
    · rw [if_neg c2] at h
      refine r_aload_n (x := 1) dX7_readPart_47 rfl ?_
      refine r_getfield (o := 1) (v := .ref 2) dX7_readPart_48 lX7_12 ck1 nC1 rfl ?_
      refine r_bipush (v := 40) dX7_readPart_51 rfl ?_
      obtain ⟨x3, S4, h5, h⟩ := bI_e h
      refine r_cVI (y := mX10_isSign) (As := [.int 40]) (rest := []) dX7_readPart_53 qX7_79 kX10_isSign rfl ob2 vc10 rfl (okX10_isSign N 40 S x3 S4 h5) (by omega) (Nat.zero_le _) rfl (Nat.le_of_ble_eq_true rfl) ?_
      refine r_if_eq (tgt := 82) dX7_readPart_56 (by decide) (fun c6 => ?_) (fun c6 => ?_)
      · rw [if_pos c6] at h
        refine r_aload_n (x := 1) dX7_readPart_82 rfl ?_
        refine r_iconst (v := 1) dX7_readPart_83 rfl ?_
        obtain ⟨x7, S8, h9, h⟩ := bI_e h
        refine r_cVI (y := mX7_fail) (As := [.int 1]) (rest := []) dX7_readPart_84 qX7_72 kX7_fail rfl ob1 vc7 rfl (okX7_fail N 1 S4 x7 S8 h9) (by omega) (Nat.zero_le _) rfl (Nat.le_of_ble_eq_true rfl) ?_
        refine r_pop_int dX7_readPart_87 ?_
        cases h
        exact r_return dX7_readPart_88 rfl (Nat.zero_le _) ⟨rfl, rfl⟩
      · rw [if_neg c6] at h
        refine r_aload_n (x := 1) dX7_readPart_59 rfl ?_
        refine r_getfield (o := 1) (v := .ref 2) dX7_readPart_60 lX7_12 ck1 nC1 rfl ?_
        obtain ⟨S11, h12, h⟩ := bV_e h
        refine r_cVV (y := mX10_take) (As := []) (rest := []) dX7_readPart_63 qX7_83 kX10_take rfl ob2 vc10 rfl (okX10_take N  S4 S11 h12) (by omega) (Nat.zero_le _) rfl (Nat.le_of_ble_eq_true rfl) ?_
        refine r_aload_n (x := 1) dX7_readPart_66 rfl ?_
        refine r_iload_n (x := p0) dX7_readPart_67 rfl ?_
        refine r_iconst (v := 1) dX7_readPart_68 rfl ?_
        refine r_iadd dX7_readPart_69 ?_
        obtain ⟨S14, h15, h⟩ := bV_e h
        refine r_cVV (y := mX7_readExpr) (As := [.int (p0 + 1)]) (rest := []) dX7_readPart_70 qX7_134 kX7_readExpr rfl ob1 vc7 rfl ((hrec 0 (p0 + 1) S11 S14 h15).1 rfl) (by omega) (Nat.zero_le _) rfl (Nat.le_of_ble_eq_true rfl) ?_
        refine r_aload_n (x := 1) dX7_readPart_73 rfl ?_
        refine r_bipush (v := 41) dX7_readPart_74 rfl ?_
        obtain ⟨S17, h18, h⟩ := bV_e h
        refine r_cVV (y := mX7_readSign) (As := [.int 41]) (rest := []) dX7_readPart_76 qX7_93 kX7_readSign rfl ob1 vc7 rfl (okX7_readSign N 41 S14 S17 h18) (by omega) (Nat.zero_le _) rfl (Nat.le_of_ble_eq_true rfl) ?_
        refine r_goto (tgt := 88) dX7_readPart_79 (by decide) ?_
        cases h
        exact r_return dX7_readPart_88 rfl (Nat.zero_le _) ⟨rfl, rfl⟩
    · rw [if_pos c2] at h
      refine r_aload_n (x := 1) dX7_readPart_40 rfl ?_
      obtain ⟨S20, h21, h⟩ := bV_e h
      refine r_cVV (y := mX7_readValue) (As := []) (rest := []) dX7_readPart_41 qX7_164 kX7_readValue rfl ob1 vc7 rfl (okX7_readValue N  S S20 h21) (by omega) (Nat.zero_le _) rfl (Nat.le_of_ble_eq_true rfl) ?_
      refine r_goto (tgt := 88) dX7_readPart_44 (by decide) ?_
      cases h
      exact r_return dX7_readPart_88 rfl (Nat.zero_le _) ⟨rfl, rfl⟩
  · rw [if_pos c1] at h
    refine r_aload_n (x := 1) dX7_readPart_11 rfl ?_
    refine r_getfield (o := 1) (v := .ref (S.2.2 1 2)) dX7_readPart_12 lX7_29 ck1 nC1 rfl ?_
    refine r_topr (fun o22 ho22 => ?_)
    replace h := lt_e ho22 h
    refine r_aload_n (x := 1) dX7_readPart_15 rfl ?_
    refine r_iconst (v := 0) dX7_readPart_16 rfl ?_
    refine r_sipush (v := 9999) dX7_readPart_17 rfl ?_
    obtain ⟨x23, S24, h25, h⟩ := bI_e h
    refine r_cVI (y := mX7_readNumber) (As := [.int 0, .int 9999]) (rest := [.ref o22]) dX7_readPart_20 qX7_89 kX7_readNumber rfl ob1 vc7 rfl (okX7_readNumber N 0 9999 S x23 S24 h25) (by omega) (Nat.zero_le _) rfl (Nat.le_of_ble_eq_true rfl) ?_
    obtain ⟨g29, h⟩ := gd_e h
    obtain ⟨S27, h28, h⟩ := bV_e h
    refine r_cVV (y := mX8_add) (As := [.int x23]) (rest := []) dX7_readPart_23 qX7_142 kX8_add rfl g29 vc8 rfl (okX8_add N o22 x23 S24 S27 h28) (by omega) (Nat.zero_le _) rfl (Nat.le_of_ble_eq_true rfl) ?_
    refine r_goto (tgt := 88) dX7_readPart_26 (by decide) ?_
    cases h
    exact r_return dX7_readPart_88 rfl (Nat.zero_le _) ⟨rfl, rfl⟩
def fRD (N : Nat) : Nat → Nat → Int32 → PS → Option PS
  | 0, _, _, _ => none
  | dd + 1, tag, p0, S => if tag = 0 then fX7_readExpr N (fRD N dd) p0 S else if tag = 1 then fX7_readAnd N (fRD N dd) p0 S else if tag = 2 then fX7_readNot N (fRD N dd) p0 S else if tag = 3 then fX7_readTest N (fRD N dd) p0 S else if tag = 4 then fX7_readSum N (fRD N dd) p0 S else if tag = 5 then fX7_readProduct N (fRD N dd) p0 S else if tag = 6 then fX7_readPart N (fRD N dd) p0 S else none
theorem okRD (N : Nat) : ∀ (dd tag : Nat) (p0 : Int32) (S T : PS), fRD N dd tag p0 S = some T → RC (20 + dd) tag p0 S T := by
  intro dd
  induction dd with
  | zero => intro tag p0 S T h; rw [fRD] at h; cases h
  | succ dd ih =>
    intro tag p0 S T h
    have hrec : RecOK (fRD N dd) (20 + dd) := ih
    refine ⟨fun e => ?_, fun e => ?_, fun e => ?_, fun e => ?_, fun e => ?_, fun e => ?_, fun e => ?_⟩
    · subst e
      simp only [fRD] at h
      exact okX7_readExpr N (fRD N dd) (20 + dd) (20 + (dd + 1)) hrec (by omega) (by omega) p0 S T (by simpa using h)
    · subst e
      simp only [fRD] at h
      exact okX7_readAnd N (fRD N dd) (20 + dd) (20 + (dd + 1)) hrec (by omega) (by omega) p0 S T (by simpa using h)
    · subst e
      simp only [fRD] at h
      exact okX7_readNot N (fRD N dd) (20 + dd) (20 + (dd + 1)) hrec (by omega) (by omega) p0 S T (by simpa using h)
    · subst e
      simp only [fRD] at h
      exact okX7_readTest N (fRD N dd) (20 + dd) (20 + (dd + 1)) hrec (by omega) (by omega) p0 S T (by simpa using h)
    · subst e
      simp only [fRD] at h
      exact okX7_readSum N (fRD N dd) (20 + dd) (20 + (dd + 1)) hrec (by omega) (by omega) p0 S T (by simpa using h)
    · subst e
      simp only [fRD] at h
      exact okX7_readProduct N (fRD N dd) (20 + dd) (20 + (dd + 1)) hrec (by omega) (by omega) p0 S T (by simpa using h)
    · subst e
      simp only [fRD] at h
      exact okX7_readPart N (fRD N dd) (20 + dd) (20 + (dd + 1)) hrec (by omega) (by omega) p0 S T (by simpa using h)
def fX7_readRule (N : Nat) (p0 : Nat) (S : PS) : Option PS :=
  gd (obj p0 8) <|
  (if (S.1 p0 3) = 0 then
    lt ((S.1, S.2.1, u2R S.2.2 1 2 p0) : PS) fun S3 =>
    lt ((S3.2.2 1 2) : Nat) fun o4 =>
    gd (obj o4 8) <|
    lt ((u2 S3.1 o4 3 1, S3.2) : PS) fun S6 =>
    bV (fX10_take N  S6) fun S8 =>
    bV (fRD N 60 0 0 S8) fun S11 =>
    bV (fX7_readSign N 59 S11) fun S14 =>
    some S14
  else
    bI (fX7_fail N 5 S) fun x16 S17 =>
    some S17)
set_option maxHeartbeats 4000000 in
set_option maxRecDepth 100000 in
theorem okX7_readRule (N : Nat) (p0 : Nat) (S : PS) (T : PS) (h : fX7_readRule N p0 S = some T) : CT mX7_readRule 81 0 [.ref 1, .ref p0] S (qV T) := by
  refine ct_of [some (.ref 1), some (.ref p0)] rfl (fun _ => rfl) (fun _ => Nat.le_of_ble_eq_true rfl) ?_
  unfold fX7_readRule at h
  refine r_aload_n (x := p0) dX7_readRule_0 rfl ?_
  obtain ⟨g1, h⟩ := gd_e h
  refine r_getfield (o := p0) (v := .int (S.1 p0 3)) dX7_readRule_1 lX7_128 g1.1 g1.2 rfl ?_
  refine r_if_eq (tgt := 14) dX7_readRule_4 (by decide) (fun c2 => ?_) (fun c2 => ?_)
  · rw [if_pos c2] at h
    refine r_aload_n (x := 1) dX7_readRule_14 rfl ?_
    refine r_aload_n (x := p0) dX7_readRule_15 rfl ?_
    refine r_putR dX7_readRule_16 lX7_29 ck1 nC1 ?_
    refine r_topS (fun S3 hS3 => ?_)
    replace h := lt_e hS3 h
    refine r_aload_n (x := 1) dX7_readRule_19 rfl ?_
    refine r_getfield (o := 1) (v := .ref (S3.2.2 1 2)) dX7_readRule_20 lX7_29 ck1 nC1 rfl ?_
    refine r_topr (fun o4 ho4 => ?_)
    replace h := lt_e ho4 h
    refine r_iconst (v := 1) dX7_readRule_23 rfl ?_
    obtain ⟨g5, h⟩ := gd_e h
    refine r_putZ dX7_readRule_24 lX7_128 g5.1 g5.2 (by decide) ?_
    refine r_topS (fun S6 hS6 => ?_)
    replace h := lt_e hS6 h
    refine r_aload_n (x := 1) dX7_readRule_27 rfl ?_
    refine r_getfield (o := 1) (v := .ref 2) dX7_readRule_28 lX7_12 ck1 nC1 rfl ?_
    obtain ⟨S8, h9, h⟩ := bV_e h
    refine r_cVV (y := mX10_take) (As := []) (rest := []) dX7_readRule_31 qX7_83 kX10_take rfl ob2 vc10 rfl (okX10_take N  S6 S8 h9) (by decide) (Nat.zero_le _) rfl (Nat.le_of_ble_eq_true rfl) ?_
    refine r_aload_n (x := 1) dX7_readRule_34 rfl ?_
    refine r_iconst (v := 0) dX7_readRule_35 rfl ?_
    obtain ⟨S11, h12, h⟩ := bV_e h
    refine r_cVV (y := mX7_readExpr) (As := [.int 0]) (rest := []) dX7_readRule_36 qX7_134 kX7_readExpr rfl ob1 vc7 rfl ((okRD N 60 0 0 S8 S11 h12).1 rfl) (by decide) (Nat.zero_le _) rfl (Nat.le_of_ble_eq_true rfl) ?_
    refine r_aload_n (x := 1) dX7_readRule_39 rfl ?_
    refine r_bipush (v := 59) dX7_readRule_40 rfl ?_
    obtain ⟨S14, h15, h⟩ := bV_e h
    refine r_cVV (y := mX7_readSign) (As := [.int 59]) (rest := []) dX7_readRule_42 qX7_93 kX7_readSign rfl ob1 vc7 rfl (okX7_readSign N 59 S11 S14 h15) (by decide) (Nat.zero_le _) rfl (Nat.le_of_ble_eq_true rfl) ?_
    cases h
    exact r_return dX7_readRule_45 rfl (Nat.zero_le _) ⟨rfl, rfl⟩
  · rw [if_neg c2] at h
    refine r_aload_n (x := 1) dX7_readRule_7 rfl ?_
    refine r_iconst (v := 5) dX7_readRule_8 rfl ?_
    obtain ⟨x16, S17, h18, h⟩ := bI_e h
    refine r_cVI (y := mX7_fail) (As := [.int 5]) (rest := []) dX7_readRule_9 qX7_72 kX7_fail rfl ob1 vc7 rfl (okX7_fail N 5 S x16 S17 h18) (by decide) (Nat.zero_le _) rfl (Nat.le_of_ble_eq_true rfl) ?_
    refine r_pop_int dX7_readRule_12 ?_
    cases h
    exact r_return dX7_readRule_13 rfl (Nat.zero_le _) ⟨rfl, rfl⟩
def fX7_read_27 (N : Nat) (v1 : Int32) : Nat → Int32 → PS → Option (Int32 × PS)
  | 0, _, _ => none
  | n + 1, v2, S =>
    (if 700 ≤ v2 then
      some (v2, S)
    else
      (if (S.1 1 3) = 0 then
        (if (S.1 2 5) = 0 then
          some (v2, S)
        else
          bI (fX10_isWord N 0 S) fun x14 S15 =>
          (if x14 = 0 then
            bI (fX10_isWord N 1 S15) fun x18 S19 =>
            (if x18 = 0 then
              bI (fX10_isWord N 2 S19) fun x22 S23 =>
              (if x22 = 0 then
                bI (fX10_isWord N 11 S23) fun x26 S27 =>
                (if x26 = 0 then
                  bI (fX7_fail N 1 S27) fun x30 S31 =>
                  lt (v2 + 1 : Int32) fun x33 =>
                  fX7_read_27 N v1 n x33 S31
                else
                  lt ((S27.2.2 1 1) : Nat) fun o34 =>
                  gd (obj o34 1) <|
                  bV (fX7_readRule N (sr o34 3) S27) fun S37 =>
                  lt (v2 + 1 : Int32) fun x39 =>
                  fX7_read_27 N v1 n x39 S37)
              else
                lt ((S23.2.2 1 1) : Nat) fun o40 =>
                gd (obj o40 1) <|
                bV (fX7_readRule N (sr o40 2) S23) fun S43 =>
                lt (v2 + 1 : Int32) fun x45 =>
                fX7_read_27 N v1 n x45 S43)
            else
              bV (fX7_readPipe N  S19) fun S47 =>
              lt (v2 + 1 : Int32) fun x49 =>
              fX7_read_27 N v1 n x49 S47)
          else
            bV (fX7_readCup N  S15) fun S51 =>
            lt (v2 + 1 : Int32) fun x53 =>
            fX7_read_27 N v1 n x53 S51))
      else
        some (v2, S)))
set_option maxHeartbeats 4000000 in
set_option maxRecDepth 100000 in
theorem okX7_read_27 (N : Nat) (v1 : Int32) (Q : OQ) (u : Nat) (hu : u ≤ 0) : ∀ (n : Nat) (v2 : Int32) (S : PS) (y2 : Int32) (T : PS), fX7_read_27 N v1 n v2 S = some (y2, T) → WP [] mX7_read 82 0 Q 153 [some (.ref 1), some (.int v1), some (.int y2)] [] T u → WP [] mX7_read 82 0 Q 27 [some (.ref 1), some (.int v1), some (.int v2)] [] S u := by
  intro n
  induction n with
  | zero => intro v2 S y2 T h; rw [fX7_read_27] at h; cases h
  | succ n ih =>
    intro v2 S y2 T h k0
    rw [fX7_read_27] at h
    refine r_iload_n (x := v2) dX7_read_27 rfl ?_
    refine r_sipush (v := 700) dX7_read_28 rfl ?_
    refine r_icmp_ge (tgt := 153) dX7_read_31 (by decide) (fun c11 => ?_) (fun c11 => ?_)
    · rw [if_pos c11] at h
      cases h
      exact k0
    · rw [if_neg c11] at h
      refine r_aload_n (x := 1) dX7_read_34 rfl ?_
      refine r_getfield (o := 1) (v := .int (S.1 1 3)) dX7_read_35 lX7_32 ck1 nC1 rfl ?_
      refine r_if_ne (tgt := 153) dX7_read_38 (by decide) (fun c12 => ?_) (fun c12 => ?_)
      · rw [if_neg c12] at h
        cases h
        exact k0
      · rw [if_pos c12] at h
        refine r_aload_n (x := 1) dX7_read_41 rfl ?_
        refine r_getfield (o := 1) (v := .ref 2) dX7_read_42 lX7_12 ck1 nC1 rfl ?_
        refine r_getfield (o := 2) (v := .int (S.1 2 5)) dX7_read_45 lX7_46 ck2 nC2 rfl ?_
        refine r_if_eq (tgt := 153) dX7_read_48 (by decide) (fun c13 => ?_) (fun c13 => ?_)
        · rw [if_pos c13] at h
          cases h
          exact k0
        · rw [if_neg c13] at h
          refine r_aload_n (x := 1) dX7_read_51 rfl ?_
          refine r_getfield (o := 1) (v := .ref 2) dX7_read_52 lX7_12 ck1 nC1 rfl ?_
          refine r_ldcS (n := 1001 + 0) (tx := "cup") dX7_read_55 (by decide) ?_
          obtain ⟨x14, S15, h16, h⟩ := bI_e h
          refine r_cVI (y := mX10_isWord) (As := [.ref (1001 + 0)]) (rest := []) dX7_read_57 qX7_51 kX10_isWord rfl ob2 vc10 rfl (okX10_isWord N 0 S x14 S15 h16) (by decide) hu rfl (Nat.le_of_ble_eq_true rfl) ?_
          refine r_if_eq (tgt := 70) dX7_read_60 (by decide) (fun c17 => ?_) (fun c17 => ?_)
          · rw [if_pos c17] at h
            refine r_aload_n (x := 1) dX7_read_70 rfl ?_
            refine r_getfield (o := 1) (v := .ref 2) dX7_read_71 lX7_12 ck1 nC1 rfl ?_
            refine r_ldcS (n := 1001 + 1) (tx := "pipe") dX7_read_74 (by decide) ?_
            obtain ⟨x18, S19, h20, h⟩ := bI_e h
            refine r_cVI (y := mX10_isWord) (As := [.ref (1001 + 1)]) (rest := []) dX7_read_76 qX7_51 kX10_isWord rfl ob2 vc10 rfl (okX10_isWord N 1 S15 x18 S19 h20) (by decide) hu rfl (Nat.le_of_ble_eq_true rfl) ?_
            refine r_if_eq (tgt := 89) dX7_read_79 (by decide) (fun c21 => ?_) (fun c21 => ?_)
            · rw [if_pos c21] at h
              refine r_aload_n (x := 1) dX7_read_89 rfl ?_
              refine r_getfield (o := 1) (v := .ref 2) dX7_read_90 lX7_12 ck1 nC1 rfl ?_
              refine r_ldcS (n := 1001 + 2) (tx := "leaks") dX7_read_93 (by decide) ?_
              obtain ⟨x22, S23, h24, h⟩ := bI_e h
              refine r_cVI (y := mX10_isWord) (As := [.ref (1001 + 2)]) (rest := []) dX7_read_95 qX7_51 kX10_isWord rfl ob2 vc10 rfl (okX10_isWord N 2 S19 x22 S23 h24) (by decide) hu rfl (Nat.le_of_ble_eq_true rfl) ?_
              refine r_if_eq (tgt := 115) dX7_read_98 (by decide) (fun c25 => ?_) (fun c25 => ?_)
              · rw [if_pos c25] at h
                refine r_aload_n (x := 1) dX7_read_115 rfl ?_
                refine r_getfield (o := 1) (v := .ref 2) dX7_read_116 lX7_12 ck1 nC1 rfl ?_
                refine r_ldcS (n := 1001 + 11) (tx := "frost") dX7_read_119 (by decide) ?_
                obtain ⟨x26, S27, h28, h⟩ := bI_e h
                refine r_cVI (y := mX10_isWord) (As := [.ref (1001 + 11)]) (rest := []) dX7_read_121 qX7_51 kX10_isWord rfl ob2 vc10 rfl (okX10_isWord N 11 S23 x26 S27 h28) (by decide) hu rfl (Nat.le_of_ble_eq_true rfl) ?_
                refine r_if_eq (tgt := 141) dX7_read_124 (by decide) (fun c29 => ?_) (fun c29 => ?_)
                · rw [if_pos c29] at h
                  refine r_aload_n (x := 1) dX7_read_141 rfl ?_
                  refine r_iconst (v := 1) dX7_read_142 rfl ?_
                  obtain ⟨x30, S31, h32, h⟩ := bI_e h
                  refine r_cVI (y := mX7_fail) (As := [.int 1]) (rest := []) dX7_read_143 qX7_72 kX7_fail rfl ob1 vc7 rfl (okX7_fail N 1 S27 x30 S31 h32) (by decide) hu rfl (Nat.le_of_ble_eq_true rfl) ?_
                  refine r_pop_int dX7_read_146 ?_
                  obtain ⟨x33, hx33⟩ : ∃ y : Int32, y = (v2 + 1 : Int32) := ⟨_, rfl⟩
                  replace h := lt_e hx33 h
                  refine r_iinc (x := v2) (v := x33) (L' := [some (.ref 1), some (.int v1), some (.int x33)]) dX7_read_147 rfl (by rw [hx33]; rfl) (Nat.le_of_ble_eq_true rfl) rfl rfl ?_
                  refine r_goto (tgt := 27) dX7_read_150 (by decide) ?_
                  exact ih _ _ _ _ h k0
                · rw [if_neg c29] at h
                  refine r_aload_n (x := 1) dX7_read_127 rfl ?_
                  refine r_aload_n (x := 1) dX7_read_128 rfl ?_
                  refine r_getfield (o := 1) (v := .ref (S27.2.2 1 1)) dX7_read_129 lX7_21 ck1 nC1 rfl ?_
                  refine r_topr (fun o34 ho34 => ?_)
                  replace h := lt_e ho34 h
                  obtain ⟨g35, h⟩ := gd_e h
                  refine r_getfield (o := o34) (v := .ref (sr o34 3)) dX7_read_132 lX7_70 g35.1 g35.2 rfl ?_
                  obtain ⟨S37, h38, h⟩ := bV_e h
                  refine r_cVV (y := mX7_readRule) (As := [.ref (sr o34 3)]) (rest := []) dX7_read_135 qX7_64 kX7_readRule rfl ob1 vc7 rfl (okX7_readRule N (sr o34 3) S27 S37 h38) (by decide) hu rfl (Nat.le_of_ble_eq_true rfl) ?_
                  refine r_goto (tgt := 147) dX7_read_138 (by decide) ?_
                  obtain ⟨x39, hx39⟩ : ∃ y : Int32, y = (v2 + 1 : Int32) := ⟨_, rfl⟩
                  replace h := lt_e hx39 h
                  refine r_iinc (x := v2) (v := x39) (L' := [some (.ref 1), some (.int v1), some (.int x39)]) dX7_read_147 rfl (by rw [hx39]; rfl) (Nat.le_of_ble_eq_true rfl) rfl rfl ?_
                  refine r_goto (tgt := 27) dX7_read_150 (by decide) ?_
                  exact ih _ _ _ _ h k0
              · rw [if_neg c25] at h
                refine r_aload_n (x := 1) dX7_read_101 rfl ?_
                refine r_aload_n (x := 1) dX7_read_102 rfl ?_
                refine r_getfield (o := 1) (v := .ref (S23.2.2 1 1)) dX7_read_103 lX7_21 ck1 nC1 rfl ?_
                refine r_topr (fun o40 ho40 => ?_)
                replace h := lt_e ho40 h
                obtain ⟨g41, h⟩ := gd_e h
                refine r_getfield (o := o40) (v := .ref (sr o40 2)) dX7_read_106 lX7_25 g41.1 g41.2 rfl ?_
                obtain ⟨S43, h44, h⟩ := bV_e h
                refine r_cVV (y := mX7_readRule) (As := [.ref (sr o40 2)]) (rest := []) dX7_read_109 qX7_64 kX7_readRule rfl ob1 vc7 rfl (okX7_readRule N (sr o40 2) S23 S43 h44) (by decide) hu rfl (Nat.le_of_ble_eq_true rfl) ?_
                refine r_goto (tgt := 147) dX7_read_112 (by decide) ?_
                obtain ⟨x45, hx45⟩ : ∃ y : Int32, y = (v2 + 1 : Int32) := ⟨_, rfl⟩
                replace h := lt_e hx45 h
                refine r_iinc (x := v2) (v := x45) (L' := [some (.ref 1), some (.int v1), some (.int x45)]) dX7_read_147 rfl (by rw [hx45]; rfl) (Nat.le_of_ble_eq_true rfl) rfl rfl ?_
                refine r_goto (tgt := 27) dX7_read_150 (by decide) ?_
                exact ih _ _ _ _ h k0
            · rw [if_neg c21] at h
              refine r_aload_n (x := 1) dX7_read_82 rfl ?_
              obtain ⟨S47, h48, h⟩ := bV_e h
              refine r_cVV (y := mX7_readPipe) (As := []) (rest := []) dX7_read_83 qX7_60 kX7_readPipe rfl ob1 vc7 rfl (okX7_readPipe N  S19 S47 h48) (by decide) hu rfl (Nat.le_of_ble_eq_true rfl) ?_
              refine r_goto (tgt := 147) dX7_read_86 (by decide) ?_
              obtain ⟨x49, hx49⟩ : ∃ y : Int32, y = (v2 + 1 : Int32) := ⟨_, rfl⟩
              replace h := lt_e hx49 h
              refine r_iinc (x := v2) (v := x49) (L' := [some (.ref 1), some (.int v1), some (.int x49)]) dX7_read_147 rfl (by rw [hx49]; rfl) (Nat.le_of_ble_eq_true rfl) rfl rfl ?_
              refine r_goto (tgt := 27) dX7_read_150 (by decide) ?_
              exact ih _ _ _ _ h k0
          · rw [if_neg c17] at h
            refine r_aload_n (x := 1) dX7_read_63 rfl ?_
            obtain ⟨S51, h52, h⟩ := bV_e h
            refine r_cVV (y := mX7_readCup) (As := []) (rest := []) dX7_read_64 qX7_55 kX7_readCup rfl ob1 vc7 rfl (okX7_readCup N  S15 S51 h52) (by decide) hu rfl (Nat.le_of_ble_eq_true rfl) ?_
            refine r_goto (tgt := 147) dX7_read_67 (by decide) ?_
            obtain ⟨x53, hx53⟩ : ∃ y : Int32, y = (v2 + 1 : Int32) := ⟨_, rfl⟩
            replace h := lt_e hx53 h
            refine r_iinc (x := v2) (v := x53) (L' := [some (.ref 1), some (.int v1), some (.int x53)]) dX7_read_147 rfl (by rw [hx53]; rfl) (Nat.le_of_ble_eq_true rfl) rfl rfl ?_
            refine r_goto (tgt := 27) dX7_read_150 (by decide) ?_
            exact ih _ _ _ _ h k0
def fX7_read (N : Nat) (p0 : Int32) (S : PS) : Option (Int32 × PS) :=
  lt ((S.2.2 1 1) : Nat) fun o1 =>
  gd (obj o1 1) <|
  bV (fX1_clear N o1 S) fun S3 =>
  lt ((u2 S3.1 1 3 0, S3.2) : PS) fun S6 =>
  lt ((u2 S6.1 1 4 (-1), S6.2) : PS) fun S7 =>
  bV (fX10_begin N p0 S7) fun S9 =>
  bT (fX7_read_27 N p0 N 0 S9) fun q54 =>
  lt (q54.1 : Int32) fun x55 =>
  lt (q54.2 : PS) fun S56 =>
  some ((S56.1 1 3), S56)
set_option maxHeartbeats 4000000 in
set_option maxRecDepth 100000 in
theorem okX7_read (N : Nat) (p0 : Int32) (S : PS) (r : Int32) (T : PS) (h : fX7_read N p0 S = some (r, T)) : CT mX7_read 82 0 [.ref 1, .int p0] S (qI r T) := by
  refine ct_of [some (.ref 1), some (.int p0), none] rfl (fun _ => rfl) (fun _ => Nat.le_of_ble_eq_true rfl) ?_
  unfold fX7_read at h
  refine r_aload_n (x := 1) dX7_read_0 rfl ?_
  refine r_getfield (o := 1) (v := .ref (S.2.2 1 1)) dX7_read_1 lX7_21 ck1 nC1 rfl ?_
  refine r_topr (fun o1 ho1 => ?_)
  replace h := lt_e ho1 h
  obtain ⟨g5, h⟩ := gd_e h
  obtain ⟨S3, h4, h⟩ := bV_e h
  refine r_cVV (y := mX1_clear) (As := []) (rest := []) dX7_read_4 qX7_39 kX1_clear rfl g5 vc1 rfl (okX1_clear N o1 S S3 h4) (by decide) (Nat.zero_le _) rfl (Nat.le_of_ble_eq_true rfl) ?_
  refine r_aload_n (x := 1) dX7_read_7 rfl ?_
  refine r_iconst (v := 0) dX7_read_8 rfl ?_
  refine r_putI dX7_read_9 lX7_32 ck1 nC1 ?_
  refine r_topS (fun S6 hS6 => ?_)
  replace h := lt_e hS6 h
  refine r_aload_n (x := 1) dX7_read_12 rfl ?_
  refine r_iconst (v := (-1)) dX7_read_13 rfl ?_
  refine r_putI dX7_read_14 lX7_36 ck1 nC1 ?_
  refine r_topS (fun S7 hS7 => ?_)
  replace h := lt_e hS7 h
  refine r_aload_n (x := 1) dX7_read_17 rfl ?_
  refine r_getfield (o := 1) (v := .ref 2) dX7_read_18 lX7_12 ck1 nC1 rfl ?_
  refine r_iload_n (x := p0) dX7_read_21 rfl ?_
  obtain ⟨S9, h10, h⟩ := bV_e h
  refine r_cVV (y := mX10_begin) (As := [.int p0]) (rest := []) dX7_read_22 qX7_42 kX10_begin rfl ob2 vc10 rfl (okX10_begin N p0 S7 S9 h10) (by decide) (Nat.zero_le _) rfl (Nat.le_of_ble_eq_true rfl) ?_
  refine r_iconst (v := 0) dX7_read_25 rfl ?_
  refine r_istore_n (L' := [some (.ref 1), some (.int p0), some (.int 0)]) dX7_read_26 (Nat.le_of_ble_eq_true rfl) rfl rfl ?_
  obtain ⟨⟨x55, S56⟩, h58, h⟩ := bT_e h
  dsimp only at h
  replace h := pl_s (pl_s (h))
  refine okX7_read_27 N p0 (qI r T) 0 (Nat.zero_le _) _ _ _ _ _ h58 ?_
  refine r_aload_n (x := 1) dX7_read_153 rfl ?_
  refine r_getfield (o := 1) (v := .int (S56.1 1 3)) dX7_read_154 lX7_32 ck1 nC1 rfl ?_
  cases h
  exact r_ireturn dX7_read_157 rfl (Nat.zero_le _) ⟨rfl, rfl⟩
def fX11_cave (N : Nat) (p0 : Int32) (S : PS) : Option ((Int32 ⊕ String) × PS) :=
  bU (fX11_needRange N p0 0 (S.1 2 1) S) fun S2 =>
  bI (fX7_read N p0 S2) fun x4 S5 =>
  lt ((u2 S5.1 2 1 0, S5.2) : PS) fun S7 =>
  (if x4 = 0 then
    lt ((S7.2.2 5 3) : Nat) fun o9 =>
    lt ((S7.2.2 1 1) : Nat) fun o10 =>
    lt ((S7.1, S7.2.1, u2R S7.2.2 5 3 o10) : PS) fun S11 =>
    lt ((S11.1, S11.2.1, u2R S11.2.2 1 1 o9) : PS) fun S12 =>
    lt ((u2 S12.1 0 10 (-1), S12.2) : PS) fun S13 =>
    lt ((S13.2.2 5 3) : Nat) fun o14 =>
    gd (obj o14 1) <|
    bV (fX6_begin N 3 (sr o14 1) S13) fun S17 =>
    lt ((u2 S17.1 0 9 0, S17.2) : PS) fun S19 =>
    some (.inl 0, S19)
  else
    lt ((u2 S7.1 0 10 (S7.1 1 4), S7.2) : PS) fun S20 =>
    lt ((u2 S20.1 23 0 ((S20.1 23 0) + 1), S20.2) : PS) fun S21 =>
    some (.inl x4, S21))
set_option maxHeartbeats 4000000 in
set_option maxRecDepth 100000 in
theorem okX11_cave (N : Nat) (p0 : Int32) (S : PS) (r : Int32 ⊕ String) (T : PS) (h : fX11_cave N p0 S = some (r, T)) : CT mX11_cave 83 8 [.ref 0, .int p0] S (qE r T) := by
  refine ct_of [some (.ref 0), some (.int p0), none, none] rfl (fun _ => rfl) (fun _ => Nat.le_of_ble_eq_true rfl) ?_
  unfold fX11_cave at h
  refine r_iload_n (x := p0) dX11_cave_0 rfl ?_
  refine r_iconst (v := 0) dX11_cave_1 rfl ?_
  refine r_aload_n (x := 0) dX11_cave_2 rfl ?_
  refine r_getfield (o := 0) (v := .ref 1) dX11_cave_3 lX11_10 ck0 nC0 rfl ?_
  refine r_getfield (o := 1) (v := .ref 2) dX11_cave_6 lX11_68 ck1 nC1 rfl ?_
  refine r_getfield (o := 2) (v := .int (S.1 2 1)) dX11_cave_9 lX11_72 ck2 nC2 rfl ?_
  obtain ⟨x1, S2, h3, hx1, kx1⟩ := bU_e h
  refine r_cSU (y := mX11_needRange) (As := [.int p0, .int 0, .int (S.1 2 1)]) (rest := []) dX11_cave_12 qX11_81 kX11_needRange rfl (okX11_needRange N p0 0 (S.1 2 1) S x1 S2 h3) (by decide) (by decide) rfl (Nat.le_of_ble_eq_true rfl) (fun ex1 => ?_) (fun Ex1 ex1 => ?_)
  · replace h := hx1 ex1
    refine r_aload_n (x := 0) dX11_cave_15 rfl ?_
    refine r_getfield (o := 0) (v := .ref 1) dX11_cave_16 lX11_10 ck0 nC0 rfl ?_
    refine r_iload_n (x := p0) dX11_cave_19 rfl ?_
    obtain ⟨x4, S5, h6, h⟩ := bI_e h
    refine r_cVI (y := mX7_read) (As := [.int p0]) (rest := []) dX11_cave_20 qX11_85 kX7_read rfl ob1 vc7 rfl (okX7_read N p0 S2 x4 S5 h6) (by decide) (by decide) rfl (Nat.le_of_ble_eq_true rfl) ?_
    refine r_istore_n (L' := [some (.ref 0), some (.int p0), some (.int x4), none]) dX11_cave_23 (Nat.le_of_ble_eq_true rfl) rfl rfl ?_
    refine r_aload_n (x := 0) dX11_cave_24 rfl ?_
    refine r_getfield (o := 0) (v := .ref 1) dX11_cave_25 lX11_10 ck0 nC0 rfl ?_
    refine r_getfield (o := 1) (v := .ref 2) dX11_cave_28 lX11_68 ck1 nC1 rfl ?_
    refine r_iconst (v := 0) dX11_cave_31 rfl ?_
    refine r_putI dX11_cave_32 lX11_72 ck2 nC2 ?_
    refine r_topS (fun S7 hS7 => ?_)
    replace h := lt_e hS7 h
    refine r_iload_n (x := x4) dX11_cave_35 rfl ?_
    refine r_if_eq (tgt := 62) dX11_cave_36 (by decide) (fun c8 => ?_) (fun c8 => ?_)
    · rw [if_pos c8] at h
      refine r_aload_n (x := 0) dX11_cave_62 rfl ?_
      refine r_getfield (o := 0) (v := .ref 5) dX11_cave_63 lX11_29 ck0 nC0 rfl ?_
      refine r_getfield (o := 5) (v := .ref (S7.2.2 5 3)) dX11_cave_66 lX11_92 ck5 nC5 rfl ?_
      refine r_topr (fun o9 ho9 => ?_)
      replace h := lt_e ho9 h
      refine r_astore_n (L' := [some (.ref 0), some (.int p0), some (.int x4), some (.ref o9)]) dX11_cave_69 (Nat.le_of_ble_eq_true rfl) rfl rfl ?_
      refine r_aload_n (x := 0) dX11_cave_70 rfl ?_
      refine r_getfield (o := 0) (v := .ref 5) dX11_cave_71 lX11_29 ck0 nC0 rfl ?_
      refine r_aload_n (x := 0) dX11_cave_74 rfl ?_
      refine r_getfield (o := 0) (v := .ref 1) dX11_cave_75 lX11_10 ck0 nC0 rfl ?_
      refine r_getfield (o := 1) (v := .ref (S7.2.2 1 1)) dX11_cave_78 lX11_96 ck1 nC1 rfl ?_
      refine r_topr (fun o10 ho10 => ?_)
      replace h := lt_e ho10 h
      refine r_putR dX11_cave_81 lX11_92 ck5 nC5 ?_
      refine r_topS (fun S11 hS11 => ?_)
      replace h := lt_e hS11 h
      refine r_aload_n (x := 0) dX11_cave_84 rfl ?_
      refine r_getfield (o := 0) (v := .ref 1) dX11_cave_85 lX11_10 ck0 nC0 rfl ?_
      refine r_aload_n (x := o9) dX11_cave_88 rfl ?_
      refine r_putR dX11_cave_89 lX11_96 ck1 nC1 ?_
      refine r_topS (fun S12 hS12 => ?_)
      replace h := lt_e hS12 h
      refine r_aload_n (x := 0) dX11_cave_92 rfl ?_
      refine r_iconst (v := (-1)) dX11_cave_93 rfl ?_
      refine r_putI dX11_cave_94 lX11_61 ck0 nC0 ?_
      refine r_topS (fun S13 hS13 => ?_)
      replace h := lt_e hS13 h
      refine r_aload_n (x := 0) dX11_cave_97 rfl ?_
      refine r_getfield (o := 0) (v := .ref 3) dX11_cave_98 lX11_19 ck0 nC0 rfl ?_
      refine r_aload_n (x := 0) dX11_cave_101 rfl ?_
      refine r_getfield (o := 0) (v := .ref 5) dX11_cave_102 lX11_29 ck0 nC0 rfl ?_
      refine r_getfield (o := 5) (v := .ref (S13.2.2 5 3)) dX11_cave_105 lX11_92 ck5 nC5 rfl ?_
      refine r_topr (fun o14 ho14 => ?_)
      replace h := lt_e ho14 h
      obtain ⟨g15, h⟩ := gd_e h
      refine r_getfield (o := o14) (v := .ref (sr o14 1)) dX11_cave_108 lX11_99 g15.1 g15.2 rfl ?_
      obtain ⟨S17, h18, h⟩ := bV_e h
      refine r_cVV (y := mX6_begin) (As := [.ref (sr o14 1)]) (rest := []) dX11_cave_111 qX11_105 kX6_begin rfl ob3 vc6 rfl (okX6_begin N 3 (sr o14 1) S13 S17 h18) (by decide) (by decide) rfl (Nat.le_of_ble_eq_true rfl) ?_
      refine r_aload_n (x := 0) dX11_cave_114 rfl ?_
      refine r_iconst (v := 0) dX11_cave_115 rfl ?_
      refine r_putZ dX11_cave_116 lX11_57 ck0 nC0 (by decide) ?_
      refine r_topS (fun S19 hS19 => ?_)
      replace h := lt_e hS19 h
      refine r_iconst (v := 0) dX11_cave_119 rfl ?_
      cases h
      exact r_ireturn dX11_cave_120 rfl (by decide) ⟨rfl, rfl⟩
    · rw [if_neg c8] at h
      refine r_aload_n (x := 0) dX11_cave_39 rfl ?_
      refine r_aload_n (x := 0) dX11_cave_40 rfl ?_
      refine r_getfield (o := 0) (v := .ref 1) dX11_cave_41 lX11_10 ck0 nC0 rfl ?_
      refine r_getfield (o := 1) (v := .int (S7.1 1 4)) dX11_cave_44 lX11_89 ck1 nC1 rfl ?_
      refine r_putI dX11_cave_47 lX11_61 ck0 nC0 ?_
      refine r_topS (fun S20 hS20 => ?_)
      replace h := lt_e hS20 h
      refine r_aload_n (x := 0) dX11_cave_50 rfl ?_
      refine r_getfield (o := 0) (v := .ref 23) dX11_cave_51 lX11_47 ck0 nC0 rfl ?_
      refine r_iconst (v := 0) dX11_cave_54 rfl ?_
      refine r_dup2 dX11_cave_55 ?_
      refine r_iaload (a := 23) (k9 := 0) dX11_cave_56 ck23 nC23 ⟨by decide, by decide⟩ ?_
      refine r_iconst (v := 1) dX11_cave_57 rfl ?_
      refine r_iadd dX11_cave_58 ?_
      refine r_iastore (a := 23) (k9 := 0) dX11_cave_59 ck23 nC23 ⟨by decide, by decide⟩ ?_
      refine r_topS (fun S21 hS21 => ?_)
      replace h := lt_e hS21 h
      refine r_iload_n (x := x4) dX11_cave_60 rfl ?_
      cases h
      exact r_ireturn dX11_cave_61 rfl (by decide) ⟨rfl, rfl⟩
  · cases kx1 Ex1 ex1
    exact ⟨rfl, rfl⟩
