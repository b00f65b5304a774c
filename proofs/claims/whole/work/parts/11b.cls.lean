def fX10_isDigit (N : Nat) (p0 : Int32) (S : PS) : Option (Int32 × PS) :=
  lt ((if p0 < 48 then 0 else (if 57 < p0 then 0 else 1)) : Int32) fun x3 =>
  gd (b01 x3) <|
  some (x3, S)
set_option maxHeartbeats 4000000 in
set_option maxRecDepth 100000 in
theorem okX10_isDigit (N : Nat) (p0 : Int32) (S : PS) (r : Int32) (T : PS) (h : fX10_isDigit N p0 S = some (r, T)) : CT mX10_isDigit 0 0 [.int p0] S (qI r T) := by
  refine ct_of [some (.int p0)] rfl (fun _ => rfl) (fun _ => Nat.le_of_ble_eq_true rfl) ?_
  unfold fX10_isDigit at h
  refine r_iload_n (x := p0) dX10_isDigit_0 rfl ?_
  refine r_bipush (v := 48) dX10_isDigit_1 rfl ?_
  obtain ⟨x3, hx3⟩ : ∃ y : Int32, y = ((if p0 < 48 then 0 else (if 57 < p0 then 0 else 1)) : Int32) := ⟨_, rfl⟩
  replace h := lt_e hx3 h
  have keyx3 : WP [] mX10_isDigit 0 0 (qI r T) 17 [some (.int p0)] (.int x3 :: []) S 0 := by
    obtain ⟨g4, h⟩ := gd_e h
    cases h
    exact r_zreturn dX10_isDigit_17 rfl (nar01 g4) (Nat.zero_le _) ⟨rfl, rfl⟩
  refine r_icmp_lt (tgt := 16) dX10_isDigit_3 (by decide) (fun c1 => ?_) (fun c1 => ?_)
  · refine r_iconst (v := 0) dX10_isDigit_16 rfl ?_
    exact r_tope (by rw [hx3, if_pos c1]) keyx3
  · refine r_iload_n (x := p0) dX10_isDigit_6 rfl ?_
    refine r_bipush (v := 57) dX10_isDigit_7 rfl ?_
    refine r_icmp_gt (tgt := 16) dX10_isDigit_9 (by decide) (fun c2 => ?_) (fun c2 => ?_)
    · refine r_iconst (v := 0) dX10_isDigit_16 rfl ?_
      exact r_tope (by rw [hx3, if_neg c1, if_pos c2]) keyx3
    · refine r_iconst (v := 1) dX10_isDigit_12 rfl ?_
      refine r_goto (tgt := 17) dX10_isDigit_13 (by decide) ?_
      exact r_tope (by rw [hx3, if_neg c1, if_neg c2]) keyx3
def fX11_feed (N : Nat) (p0 : Int32) (p1 : Int32) (p2 : Int32) (p3 : Int32) (p4 : Int32) (S : PS) : Option (Int32 × PS) :=
  (if ((S.1 2 1) + 20) ≤ 700 then
    bV (fX10_append N p0 S) fun S3 =>
    bV (fX10_append N p1 S3) fun S6 =>
    bV (fX10_append N p2 S6) fun S9 =>
    bV (fX10_append N p3 S9) fun S12 =>
    bV (fX10_append N p4 S12) fun S15 =>
    some ((S15.1 2 1), S15)
  else
    some ((-1), S))
set_option maxHeartbeats 4000000 in
set_option maxRecDepth 100000 in
theorem okX11_feed (N : Nat) (p0 : Int32) (p1 : Int32) (p2 : Int32) (p3 : Int32) (p4 : Int32) (S : PS) (r : Int32) (T : PS) (h : fX11_feed N p0 p1 p2 p3 p4 S = some (r, T)) : CT mX11_feed 1 0 [.ref 0, .int p0, .int p1, .int p2, .int p3, .int p4] S (qI r T) := by
  refine ct_of [some (.ref 0), some (.int p0), some (.int p1), some (.int p2), some (.int p3), some (.int p4), none] rfl (fun _ => rfl) (fun _ => Nat.le_of_ble_eq_true rfl) ?_
  unfold fX11_feed at h
  refine r_aload_n (x := 0) dX11_feed_0 rfl ?_
  refine r_getfield (o := 0) (v := .ref 1) dX11_feed_1 lX11_10 ck0 nC0 rfl ?_
  refine r_getfield (o := 1) (v := .ref 2) dX11_feed_4 lX11_68 ck1 nC1 rfl ?_
  refine r_astore (L' := [some (.ref 0), some (.int p0), some (.int p1), some (.int p2), some (.int p3), some (.int p4), some (.ref 2)]) dX11_feed_7 (Nat.le_of_ble_eq_true rfl) rfl rfl ?_
  refine r_aload (x := 2) dX11_feed_9 rfl ?_
  refine r_getfield (o := 2) (v := .int (S.1 2 1)) dX11_feed_11 lX11_72 ck2 nC2 rfl ?_
  refine r_bipush (v := 20) dX11_feed_14 rfl ?_
  refine r_iadd dX11_feed_16 ?_
  refine r_sipush (v := 700) dX11_feed_17 rfl ?_
  refine r_icmp_le (tgt := 25) dX11_feed_20 (by decide) (fun c1 => ?_) (fun c1 => ?_)
  · rw [if_pos c1] at h
    refine r_aload (x := 2) dX11_feed_25 rfl ?_
    refine r_iload_n (x := p0) dX11_feed_27 rfl ?_
    obtain ⟨S3, h4, h⟩ := bV_e h
    refine r_cVV (y := mX10_append) (As := [.int p0]) (rest := []) dX11_feed_28 qX11_77 kX10_append rfl ob2 vc10 rfl (okX10_append N p0 S S3 h4) (by decide) (Nat.zero_le _) rfl (Nat.le_of_ble_eq_true rfl) ?_
    refine r_aload (x := 2) dX11_feed_31 rfl ?_
    refine r_iload_n (x := p1) dX11_feed_33 rfl ?_
    obtain ⟨S6, h7, h⟩ := bV_e h
    refine r_cVV (y := mX10_append) (As := [.int p1]) (rest := []) dX11_feed_34 qX11_77 kX10_append rfl ob2 vc10 rfl (okX10_append N p1 S3 S6 h7) (by decide) (Nat.zero_le _) rfl (Nat.le_of_ble_eq_true rfl) ?_
    refine r_aload (x := 2) dX11_feed_37 rfl ?_
    refine r_iload_n (x := p2) dX11_feed_39 rfl ?_
    obtain ⟨S9, h10, h⟩ := bV_e h
    refine r_cVV (y := mX10_append) (As := [.int p2]) (rest := []) dX11_feed_40 qX11_77 kX10_append rfl ob2 vc10 rfl (okX10_append N p2 S6 S9 h10) (by decide) (Nat.zero_le _) rfl (Nat.le_of_ble_eq_true rfl) ?_
    refine r_aload (x := 2) dX11_feed_43 rfl ?_
    refine r_iload (x := p3) dX11_feed_45 rfl ?_
    obtain ⟨S12, h13, h⟩ := bV_e h
    refine r_cVV (y := mX10_append) (As := [.int p3]) (rest := []) dX11_feed_47 qX11_77 kX10_append rfl ob2 vc10 rfl (okX10_append N p3 S9 S12 h13) (by decide) (Nat.zero_le _) rfl (Nat.le_of_ble_eq_true rfl) ?_
    refine r_aload (x := 2) dX11_feed_50 rfl ?_
    refine r_iload (x := p4) dX11_feed_52 rfl ?_
    obtain ⟨S15, h16, h⟩ := bV_e h
    refine r_cVV (y := mX10_append) (As := [.int p4]) (rest := []) dX11_feed_54 qX11_77 kX10_append rfl ob2 vc10 rfl (okX10_append N p4 S12 S15 h16) (by decide) (Nat.zero_le _) rfl (Nat.le_of_ble_eq_true rfl) ?_
    refine r_aload (x := 2) dX11_feed_57 rfl ?_
    refine r_getfield (o := 2) (v := .int (S15.1 2 1)) dX11_feed_59 lX11_72 ck2 nC2 rfl ?_
    cases h
    exact r_ireturn dX11_feed_62 rfl (Nat.zero_le _) ⟨rfl, rfl⟩
  · rw [if_neg c1] at h
    refine r_iconst (v := (-1)) dX11_feed_23 rfl ?_
    cases h
    exact r_ireturn dX11_feed_24 rfl (Nat.zero_le _) ⟨rfl, rfl⟩
def fX11_fault (N : Nat)  (S : PS) : Option (Int32 × PS) :=
  some ((S.1 0 10), S)
set_option maxHeartbeats 4000000 in
set_option maxRecDepth 100000 in
theorem okX11_fault (N : Nat)  (S : PS) (r : Int32) (T : PS) (h : fX11_fault N  S = some (r, T)) : CT mX11_fault 0 0 [.ref 0] S (qI r T) := by
  refine ct_of [some (.ref 0)] rfl (fun _ => rfl) (fun _ => Nat.le_of_ble_eq_true rfl) ?_
  unfold fX11_fault at h
  refine r_aload_n (x := 0) dX11_fault_0 rfl ?_
  refine r_getfield (o := 0) (v := .int (S.1 0 10)) dX11_fault_1 lX11_61 ck0 nC0 rfl ?_
  cases h
  exact r_ireturn dX11_fault_4 rfl (Nat.zero_le _) ⟨rfl, rfl⟩
def fX11_forget (N : Nat)  (S : PS) : Option PS :=
  lt ((u2 S.1 10 3 0, S.2) : PS) fun S1 =>
  some S1
set_option maxHeartbeats 4000000 in
set_option maxRecDepth 100000 in
theorem okX11_forget (N : Nat)  (S : PS) (T : PS) (h : fX11_forget N  S = some T) : CT mX11_forget 0 0 [.ref 0] S (qV T) := by
  refine ct_of [some (.ref 0)] rfl (fun _ => rfl) (fun _ => Nat.le_of_ble_eq_true rfl) ?_
  unfold fX11_forget at h
  refine r_aload_n (x := 0) dX11_forget_0 rfl ?_
  refine r_getfield (o := 0) (v := .ref 3) dX11_forget_1 lX11_19 ck0 nC0 rfl ?_
  refine r_getfield (o := 3) (v := .ref 10) dX11_forget_4 lX11_147 ck3 nC3 rfl ?_
  refine r_iconst (v := 0) dX11_forget_7 rfl ?_
  refine r_putI dX11_forget_8 lX11_151 ck10 nC10 ?_
  refine r_topS (fun S1 hS1 => ?_)
  replace h := lt_e hS1 h
  cases h
  exact r_return dX11_forget_11 rfl (Nat.zero_le _) ⟨rfl, rfl⟩
def fX11_image (N : Nat)  (S : PS) : Option PS :=
  bV (fX6_copy N 4 3 S) fun S2 =>
  lt ((u2 S2.1 0 9 1, S2.2) : PS) fun S4 =>
  some S4
set_option maxHeartbeats 4000000 in
set_option maxRecDepth 100000 in
theorem okX11_image (N : Nat)  (S : PS) (T : PS) (h : fX11_image N  S = some T) : CT mX11_image 5 0 [.ref 0] S (qV T) := by
  refine ct_of [some (.ref 0)] rfl (fun _ => rfl) (fun _ => Nat.le_of_ble_eq_true rfl) ?_
  unfold fX11_image at h
  refine r_aload_n (x := 0) dX11_image_0 rfl ?_
  refine r_getfield (o := 0) (v := .ref 4) dX11_image_1 lX11_23 ck0 nC0 rfl ?_
  refine r_aload_n (x := 0) dX11_image_4 rfl ?_
  refine r_getfield (o := 0) (v := .ref 3) dX11_image_5 lX11_19 ck0 nC0 rfl ?_
  obtain ⟨S2, h3, h⟩ := bV_e h
  refine r_cVV (y := mX6_copy) (As := [.ref 3]) (rest := []) dX11_image_8 qX11_348 kX6_copy rfl ob4 vc6 rfl (okX6_copy N 4 3 S S2 h3) (by decide) (Nat.zero_le _) rfl (Nat.le_of_ble_eq_true rfl) ?_
  refine r_aload_n (x := 0) dX11_image_11 rfl ?_
  refine r_iconst (v := 1) dX11_image_12 rfl ?_
  refine r_putZ dX11_image_13 lX11_57 ck0 nC0 (by decide) ?_
  refine r_topS (fun S4 hS4 => ?_)
  replace h := lt_e hS4 h
  cases h
  exact r_return dX11_image_16 rfl (Nat.zero_le _) ⟨rfl, rfl⟩
def fX11_restore (N : Nat)  (S : PS) : Option (Int32 × PS) :=
  (if (S.1 0 9) = 0 then
    some (0, S)
  else
    bV (fX6_copy N 3 4 S) fun S3 =>
    some (1, S3))
set_option maxHeartbeats 4000000 in
set_option maxRecDepth 100000 in
theorem okX11_restore (N : Nat)  (S : PS) (r : Int32) (T : PS) (h : fX11_restore N  S = some (r, T)) : CT mX11_restore 5 0 [.ref 0] S (qI r T) := by
  refine ct_of [some (.ref 0)] rfl (fun _ => rfl) (fun _ => Nat.le_of_ble_eq_true rfl) ?_
  unfold fX11_restore at h
  refine r_aload_n (x := 0) dX11_restore_0 rfl ?_
  refine r_getfield (o := 0) (v := .int (S.1 0 9)) dX11_restore_1 lX11_57 ck0 nC0 rfl ?_
  refine r_if_ne (tgt := 9) dX11_restore_4 (by decide) (fun c1 => ?_) (fun c1 => ?_)
  · rw [if_neg c1] at h
    refine r_aload_n (x := 0) dX11_restore_9 rfl ?_
    refine r_getfield (o := 0) (v := .ref 3) dX11_restore_10 lX11_19 ck0 nC0 rfl ?_
    refine r_aload_n (x := 0) dX11_restore_13 rfl ?_
    refine r_getfield (o := 0) (v := .ref 4) dX11_restore_14 lX11_23 ck0 nC0 rfl ?_
    obtain ⟨S3, h4, h⟩ := bV_e h
    refine r_cVV (y := mX6_copy) (As := [.ref 4]) (rest := []) dX11_restore_17 qX11_348 kX6_copy rfl ob3 vc6 rfl (okX6_copy N 3 4 S S3 h4) (by decide) (Nat.zero_le _) rfl (Nat.le_of_ble_eq_true rfl) ?_
    refine r_iconst (v := 1) dX11_restore_20 rfl ?_
    cases h
    exact r_zreturn dX11_restore_21 rfl rfl (Nat.zero_le _) ⟨rfl, rfl⟩
  · rw [if_pos c1] at h
    refine r_iconst (v := 0) dX11_restore_7 rfl ?_
    cases h
    exact r_zreturn dX11_restore_8 rfl rfl (Nat.zero_le _) ⟨rfl, rfl⟩
def fX11_needCup (N : Nat) (p0 : Int32) (S : PS) : Option ((Unit ⊕ String) × PS) :=
  (if p0 < 0 then
    some (.inr nNSE, S)
  else
    lt ((S.2.2 5 3) : Nat) fun o2 =>
    gd (obj o2 1) <|
    (if p0 < (S.1 o2 4) then
      some (.inl (), S)
    else
      some (.inr nNSE, S)))
set_option maxHeartbeats 4000000 in
set_option maxRecDepth 100000 in
theorem okX11_needCup (N : Nat) (p0 : Int32) (S : PS) (r : Unit ⊕ String) (T : PS) (h : fX11_needCup N p0 S = some (r, T)) : CT mX11_needCup 6 1 [.ref 0, .int p0] S (qU r T) := by
  refine ct_of [some (.ref 0), some (.int p0)] rfl (fun _ => rfl) (fun _ => Nat.le_of_ble_eq_true rfl) ?_
  unfold fX11_needCup at h
  refine r_iload_n (x := p0) dX11_needCup_0 rfl ?_
  refine r_if_lt (tgt := 18) dX11_needCup_1 (by decide) (fun c1 => ?_) (fun c1 => ?_)
  · rw [if_pos c1] at h
    cases h
    exact r_thrN (is := 354) (text := "no such cup") rfl dX11_needCup_18 dX11_needCup_21 dX11_needCup_22 dX11_needCup_25 dX11_needCup_28 (by decide) (by decide) (by decide) (Nat.le_of_ble_eq_true rfl) ⟨rfl, rfl⟩
  · rw [if_neg c1] at h
    refine r_iload_n (x := p0) dX11_needCup_4 rfl ?_
    refine r_aload_n (x := 0) dX11_needCup_5 rfl ?_
    refine r_getfield (o := 0) (v := .ref 5) dX11_needCup_6 lX11_29 ck0 nC0 rfl ?_
    refine r_getfield (o := 5) (v := .ref (S.2.2 5 3)) dX11_needCup_9 lX11_92 ck5 nC5 rfl ?_
    refine r_topr (fun o2 ho2 => ?_)
    replace h := lt_e ho2 h
    obtain ⟨g3, h⟩ := gd_e h
    refine r_getfield (o := o2) (v := .int (S.1 o2 4)) dX11_needCup_12 lX11_113 g3.1 g3.2 rfl ?_
    refine r_icmp_lt (tgt := 29) dX11_needCup_15 (by decide) (fun c4 => ?_) (fun c4 => ?_)
    · rw [if_pos c4] at h
      cases h
      exact r_return dX11_needCup_29 rfl (by decide) ⟨rfl, rfl⟩
    · rw [if_neg c4] at h
      cases h
      exact r_thrN (is := 354) (text := "no such cup") rfl dX11_needCup_18 dX11_needCup_21 dX11_needCup_22 dX11_needCup_25 dX11_needCup_28 (by decide) (by decide) (by decide) (Nat.le_of_ble_eq_true rfl) ⟨rfl, rfl⟩
def fX11_needWhat (N : Nat) (p0 : Int32) (p1 : Int32) (S : PS) : Option ((Unit ⊕ String) × PS) :=
  (if p0 < 0 then
    some (.inr nNSE, S)
  else
    (if p0 ≤ p1 then
      some (.inl (), S)
    else
      some (.inr nNSE, S)))
set_option maxHeartbeats 4000000 in
set_option maxRecDepth 100000 in
theorem okX11_needWhat (N : Nat) (p0 : Int32) (p1 : Int32) (S : PS) (r : Unit ⊕ String) (T : PS) (h : fX11_needWhat N p0 p1 S = some (r, T)) : CT mX11_needWhat 6 1 [.int p0, .int p1] S (qU r T) := by
  refine ct_of [some (.int p0), some (.int p1)] rfl (fun _ => rfl) (fun _ => Nat.le_of_ble_eq_true rfl) ?_
  unfold fX11_needWhat at h
  refine r_iload_n (x := p0) dX11_needWhat_0 rfl ?_
  refine r_if_lt (tgt := 9) dX11_needWhat_1 (by decide) (fun c1 => ?_) (fun c1 => ?_)
  · rw [if_pos c1] at h
    cases h
    exact r_thrN (is := 357) (text := "no such what") rfl dX11_needWhat_9 dX11_needWhat_12 dX11_needWhat_13 dX11_needWhat_16 dX11_needWhat_19 (by decide) (by decide) (by decide) (Nat.le_of_ble_eq_true rfl) ⟨rfl, rfl⟩
  · rw [if_neg c1] at h
    refine r_iload_n (x := p0) dX11_needWhat_4 rfl ?_
    refine r_iload_n (x := p1) dX11_needWhat_5 rfl ?_
    refine r_icmp_le (tgt := 20) dX11_needWhat_6 (by decide) (fun c2 => ?_) (fun c2 => ?_)
    · rw [if_pos c2] at h
      cases h
      exact r_return dX11_needWhat_20 rfl (by decide) ⟨rfl, rfl⟩
    · rw [if_neg c2] at h
      cases h
      exact r_thrN (is := 357) (text := "no such what") rfl dX11_needWhat_9 dX11_needWhat_12 dX11_needWhat_13 dX11_needWhat_16 dX11_needWhat_19 (by decide) (by decide) (by decide) (Nat.le_of_ble_eq_true rfl) ⟨rfl, rfl⟩
def fX11_needRange (N : Nat) (p0 : Int32) (p1 : Int32) (p2 : Int32) (S : PS) : Option ((Unit ⊕ String) × PS) :=
  (if p0 < p1 then
    some (.inr nIAE, S)
  else
    (if p0 ≤ p2 then
      some (.inl (), S)
    else
      some (.inr nIAE, S)))
set_option maxHeartbeats 4000000 in
set_option maxRecDepth 100000 in
theorem okX11_needRange (N : Nat) (p0 : Int32) (p1 : Int32) (p2 : Int32) (S : PS) (r : Unit ⊕ String) (T : PS) (h : fX11_needRange N p0 p1 p2 S = some (r, T)) : CT mX11_needRange 6 1 [.int p0, .int p1, .int p2] S (qU r T) := by
  refine ct_of [some (.int p0), some (.int p1), some (.int p2)] rfl (fun _ => rfl) (fun _ => Nat.le_of_ble_eq_true rfl) ?_
  unfold fX11_needRange at h
  refine r_iload_n (x := p0) dX11_needRange_0 rfl ?_
  refine r_iload_n (x := p1) dX11_needRange_1 rfl ?_
  refine r_icmp_lt (tgt := 10) dX11_needRange_2 (by decide) (fun c1 => ?_) (fun c1 => ?_)
  · rw [if_pos c1] at h
    cases h
    exact r_thrI (is := 359) (text := "out of range") rfl dX11_needRange_10 dX11_needRange_13 dX11_needRange_14 dX11_needRange_17 dX11_needRange_20 (by decide) (by decide) (by decide) (Nat.le_of_ble_eq_true rfl) ⟨rfl, rfl⟩
  · rw [if_neg c1] at h
    refine r_iload_n (x := p0) dX11_needRange_5 rfl ?_
    refine r_iload_n (x := p2) dX11_needRange_6 rfl ?_
    refine r_icmp_le (tgt := 21) dX11_needRange_7 (by decide) (fun c2 => ?_) (fun c2 => ?_)
    · rw [if_pos c2] at h
      cases h
      exact r_return dX11_needRange_21 rfl (by decide) ⟨rfl, rfl⟩
    · rw [if_neg c2] at h
      cases h
      exact r_thrI (is := 359) (text := "out of range") rfl dX11_needRange_10 dX11_needRange_13 dX11_needRange_14 dX11_needRange_17 dX11_needRange_20 (by decide) (by decide) (by decide) (Nat.le_of_ble_eq_true rfl) ⟨rfl, rfl⟩
def fX11_needCups (N : Nat) (p0 : Int32) (S : PS) : Option ((Unit ⊕ String) × PS) :=
  (if p0 < 0 then
    some (.inr nIAE, S)
  else
    lt ((S.2.2 5 3) : Nat) fun o2 =>
    gd (obj o2 1) <|
    (if p0 < (1 <<< ((S.1 o2 4) &&& 31)) then
      some (.inl (), S)
    else
      some (.inr nIAE, S)))
set_option maxHeartbeats 4000000 in
set_option maxRecDepth 100000 in
theorem okX11_needCups (N : Nat) (p0 : Int32) (S : PS) (r : Unit ⊕ String) (T : PS) (h : fX11_needCups N p0 S = some (r, T)) : CT mX11_needCups 6 1 [.ref 0, .int p0] S (qU r T) := by
  refine ct_of [some (.ref 0), some (.int p0)] rfl (fun _ => rfl) (fun _ => Nat.le_of_ble_eq_true rfl) ?_
  unfold fX11_needCups at h
  refine r_iload_n (x := p0) dX11_needCups_0 rfl ?_
  refine r_if_lt (tgt := 20) dX11_needCups_1 (by decide) (fun c1 => ?_) (fun c1 => ?_)
  · rw [if_pos c1] at h
    cases h
    exact r_thrI (is := 361) (text := "not bits of cups") rfl dX11_needCups_20 dX11_needCups_23 dX11_needCups_24 dX11_needCups_27 dX11_needCups_30 (by decide) (by decide) (by decide) (Nat.le_of_ble_eq_true rfl) ⟨rfl, rfl⟩
  · rw [if_neg c1] at h
    refine r_iload_n (x := p0) dX11_needCups_4 rfl ?_
    refine r_iconst (v := 1) dX11_needCups_5 rfl ?_
    refine r_aload_n (x := 0) dX11_needCups_6 rfl ?_
    refine r_getfield (o := 0) (v := .ref 5) dX11_needCups_7 lX11_29 ck0 nC0 rfl ?_
    refine r_getfield (o := 5) (v := .ref (S.2.2 5 3)) dX11_needCups_10 lX11_92 ck5 nC5 rfl ?_
    refine r_topr (fun o2 ho2 => ?_)
    replace h := lt_e ho2 h
    obtain ⟨g3, h⟩ := gd_e h
    refine r_getfield (o := o2) (v := .int (S.1 o2 4)) dX11_needCups_13 lX11_113 g3.1 g3.2 rfl ?_
    refine r_ishl dX11_needCups_16 ?_
    refine r_icmp_lt (tgt := 31) dX11_needCups_17 (by decide) (fun c4 => ?_) (fun c4 => ?_)
    · rw [if_pos c4] at h
      cases h
      exact r_return dX11_needCups_31 rfl (by decide) ⟨rfl, rfl⟩
    · rw [if_neg c4] at h
      cases h
      exact r_thrI (is := 361) (text := "not bits of cups") rfl dX11_needCups_20 dX11_needCups_23 dX11_needCups_24 dX11_needCups_27 dX11_needCups_30 (by decide) (by decide) (by decide) (Nat.le_of_ble_eq_true rfl) ⟨rfl, rfl⟩
def fX11_refuseAct (N : Nat)  (S : PS) : Option (Int32 × PS) :=
  lt ((u2 S.1 23 1 ((S.1 23 1) + 1), S.2) : PS) fun S1 =>
  some ((-1), S1)
set_option maxHeartbeats 4000000 in
set_option maxRecDepth 100000 in
theorem okX11_refuseAct (N : Nat)  (S : PS) (r : Int32) (T : PS) (h : fX11_refuseAct N  S = some (r, T)) : CT mX11_refuseAct 0 0 [.ref 0] S (qI r T) := by
  refine ct_of [some (.ref 0)] rfl (fun _ => rfl) (fun _ => Nat.le_of_ble_eq_true rfl) ?_
  unfold fX11_refuseAct at h
  refine r_aload_n (x := 0) dX11_refuseAct_0 rfl ?_
  refine r_getfield (o := 0) (v := .ref 23) dX11_refuseAct_1 lX11_47 ck0 nC0 rfl ?_
  refine r_iconst (v := 1) dX11_refuseAct_4 rfl ?_
  refine r_dup2 dX11_refuseAct_5 ?_
  refine r_iaload (a := 23) (k9 := 1) dX11_refuseAct_6 ck23 nC23 ⟨by decide, by decide⟩ ?_
  refine r_iconst (v := 1) dX11_refuseAct_7 rfl ?_
  refine r_iadd dX11_refuseAct_8 ?_
  refine r_iastore (a := 23) (k9 := 1) dX11_refuseAct_9 ck23 nC23 ⟨by decide, by decide⟩ ?_
  refine r_topS (fun S1 hS1 => ?_)
  replace h := lt_e hS1 h
  refine r_iconst (v := (-1)) dX11_refuseAct_10 rfl ?_
  cases h
  exact r_ireturn dX11_refuseAct_11 rfl (Nat.zero_le _) ⟨rfl, rfl⟩
def fX11_alikeCouples_31 (N : Nat) (v3 : Int32) : Nat → Int32 → Int32 → PS → Option (Int32 × Int32 × PS)
  | 0, _, _, _ => none
  | n + 1, v2, v4, S =>
    lt ((S.2.2 5 3) : Nat) fun o5 =>
    gd (obj o5 1) <|
    (if (S.1 o5 4) ≤ v4 then
      some (v2, v4, S)
    else
      gd (inr v3 9) <|
      gd (inr v4 9) <|
      (if (S.1 50 (ix v3)) = (S.1 50 (ix v4)) then
        gd (inr v3 9) <|
        gd (inr v4 9) <|
        lt ((if (S.1 51 (ix v3)) = (S.1 51 (ix v4)) then 1 else 0) : Int32) fun x28 =>
        (if x28 = 0 then
          lt (v4 + 1 : Int32) fun x30 =>
          fX11_alikeCouples_31 N v3 n v2 x30 S
        else
          lt ((S.2.2 5 3) : Nat) fun o31 =>
          gd (obj o31 1) <|
          gd (arr (sr o31 0) 1 9) <|
          gd (inr v3 9) <|
          lt ((S.2.2 5 3) : Nat) fun o35 =>
          gd (obj o35 1) <|
          gd (arr (sr o35 0) 1 9) <|
          gd (inr v4 9) <|
          (if (S.1 (sr o31 0) (ix v3)) = (S.1 (sr o35 0) (ix v4)) then
            lt (v2 + 1 : Int32) fun x41 =>
            lt (v4 + 1 : Int32) fun x42 =>
            fX11_alikeCouples_31 N v3 n x41 x42 S
          else
            lt (v4 + 1 : Int32) fun x40 =>
            fX11_alikeCouples_31 N v3 n v2 x40 S))
      else
        (if (0 : Int32) = 0 then
          lt (v4 + 1 : Int32) fun x12 =>
          fX11_alikeCouples_31 N v3 n v2 x12 S
        else
          lt ((S.2.2 5 3) : Nat) fun o13 =>
          gd (obj o13 1) <|
          gd (arr (sr o13 0) 1 9) <|
          gd (inr v3 9) <|
          lt ((S.2.2 5 3) : Nat) fun o17 =>
          gd (obj o17 1) <|
          gd (arr (sr o17 0) 1 9) <|
          gd (inr v4 9) <|
          (if (S.1 (sr o13 0) (ix v3)) = (S.1 (sr o17 0) (ix v4)) then
            lt (v2 + 1 : Int32) fun x23 =>
            lt (v4 + 1 : Int32) fun x24 =>
            fX11_alikeCouples_31 N v3 n x23 x24 S
          else
            lt (v4 + 1 : Int32) fun x22 =>
            fX11_alikeCouples_31 N v3 n v2 x22 S))))
set_option maxHeartbeats 4000000 in
set_option maxRecDepth 100000 in
theorem okX11_alikeCouples_31 (N : Nat) (v3 : Int32) (Q : OQ) (u : Nat) (hu : u ≤ 0) : ∀ (n : Nat) (v2 : Int32) (v4 : Int32) (S : PS) (y2 : Int32) (y4 : Int32) (T : PS), fX11_alikeCouples_31 N v3 n v2 v4 S = some (y2, y4, T) → WP [] mX11_alikeCouples 0 0 Q 127 [some (.ref 0), some (.ref 18), some (.int y2), some (.int v3), some (.int y4), none] [] T u → WP [] mX11_alikeCouples 0 0 Q 31 [some (.ref 0), some (.ref 18), some (.int v2), some (.int v3), some (.int v4), none] [] S u := by
  intro n
  induction n with
  | zero => intro v2 v4 S y2 y4 T h; rw [fX11_alikeCouples_31] at h; cases h
  | succ n ih =>
    intro v2 v4 S y2 y4 T h k0
    rw [fX11_alikeCouples_31] at h
    refine r_iload (x := v4) dX11_alikeCouples_31 rfl ?_
    refine r_aload_n (x := 0) dX11_alikeCouples_33 rfl ?_
    refine r_getfield (o := 0) (v := .ref 5) dX11_alikeCouples_34 lX11_29 ck0 nC0 rfl ?_
    refine r_getfield (o := 5) (v := .ref (S.2.2 5 3)) dX11_alikeCouples_37 lX11_92 ck5 nC5 rfl ?_
    refine r_topr (fun o5 ho5 => ?_)
    replace h := lt_e ho5 h
    obtain ⟨g6, h⟩ := gd_e h
    refine r_getfield (o := o5) (v := .int (S.1 o5 4)) dX11_alikeCouples_40 lX11_113 g6.1 g6.2 rfl ?_
    refine r_icmp_ge (tgt := 127) dX11_alikeCouples_43 (by decide) (fun c7 => ?_) (fun c7 => ?_)
    · rw [if_pos c7] at h
      cases h
      exact k0
    · rw [if_neg c7] at h
      refine r_aload_n (x := 18) dX11_alikeCouples_46 rfl ?_
      refine r_getfield (o := 18) (v := .ref 50) dX11_alikeCouples_47 lX11_159 ck18 nC18 rfl ?_
      refine r_iload_n (x := v3) dX11_alikeCouples_50 rfl ?_
      obtain ⟨g8, h⟩ := gd_e h
      refine r_iaload (a := 50) dX11_alikeCouples_51 ck50 nC50 (inr_IX g8) ?_
      refine r_aload_n (x := 18) dX11_alikeCouples_52 rfl ?_
      refine r_getfield (o := 18) (v := .ref 50) dX11_alikeCouples_53 lX11_159 ck18 nC18 rfl ?_
      refine r_iload (x := v4) dX11_alikeCouples_56 rfl ?_
      obtain ⟨g9, h⟩ := gd_e h
      refine r_iaload (a := 50) dX11_alikeCouples_58 ck50 nC50 (inr_IX g9) ?_
      refine r_icmp_ne (tgt := 82) dX11_alikeCouples_59 (by decide) (fun c10 => ?_) (fun c10 => ?_)
      · rw [if_neg c10] at h
        refine r_iconst (v := 0) dX11_alikeCouples_82 rfl ?_
        refine r_istore (L' := [some (.ref 0), some (.ref 18), some (.int v2), some (.int v3), some (.int v4), some (.int 0)]) dX11_alikeCouples_83 (Nat.le_of_ble_eq_true rfl) rfl rfl ?_
        refine r_iload (x := 0) dX11_alikeCouples_85 rfl ?_
        refine r_if_eq (tgt := 121) dX11_alikeCouples_87 (by decide) (fun c11 => ?_) (fun c11 => ?_)
        · rw [if_pos c11] at h
          obtain ⟨x12, hx12⟩ : ∃ y : Int32, y = (v4 + 1 : Int32) := ⟨_, rfl⟩
          replace h := lt_e hx12 h
          refine r_iinc (x := v4) (v := x12) (L' := [some (.ref 0), some (.ref 18), some (.int v2), some (.int v3), some (.int x12), some (.int 0)]) dX11_alikeCouples_121 rfl (by rw [hx12]; rfl) (Nat.le_of_ble_eq_true rfl) rfl rfl ?_
          refine r_goto (tgt := 31) dX11_alikeCouples_124 (by decide) ?_
          refine r_drop [true, true, true, true, true, false] rfl ?_
          exact ih _ _ _ _ _ _ h k0
        · rw [if_neg c11] at h
          refine r_aload_n (x := 0) dX11_alikeCouples_90 rfl ?_
          refine r_getfield (o := 0) (v := .ref 5) dX11_alikeCouples_91 lX11_29 ck0 nC0 rfl ?_
          refine r_getfield (o := 5) (v := .ref (S.2.2 5 3)) dX11_alikeCouples_94 lX11_92 ck5 nC5 rfl ?_
          refine r_topr (fun o13 ho13 => ?_)
          replace h := lt_e ho13 h
          obtain ⟨g14, h⟩ := gd_e h
          refine r_getfield (o := o13) (v := .ref (sr o13 0)) dX11_alikeCouples_97 lX11_165 g14.1 g14.2 rfl ?_
          refine r_iload_n (x := v3) dX11_alikeCouples_100 rfl ?_
          obtain ⟨g15, h⟩ := gd_e h
          obtain ⟨g16, h⟩ := gd_e h
          refine r_iaload (a := (sr o13 0)) dX11_alikeCouples_101 g15.1 g15.2 (inr_IX g16) ?_
          refine r_aload_n (x := 0) dX11_alikeCouples_102 rfl ?_
          refine r_getfield (o := 0) (v := .ref 5) dX11_alikeCouples_103 lX11_29 ck0 nC0 rfl ?_
          refine r_getfield (o := 5) (v := .ref (S.2.2 5 3)) dX11_alikeCouples_106 lX11_92 ck5 nC5 rfl ?_
          refine r_topr (fun o17 ho17 => ?_)
          replace h := lt_e ho17 h
          obtain ⟨g18, h⟩ := gd_e h
          refine r_getfield (o := o17) (v := .ref (sr o17 0)) dX11_alikeCouples_109 lX11_165 g18.1 g18.2 rfl ?_
          refine r_iload (x := v4) dX11_alikeCouples_112 rfl ?_
          obtain ⟨g19, h⟩ := gd_e h
          obtain ⟨g20, h⟩ := gd_e h
          refine r_iaload (a := (sr o17 0)) dX11_alikeCouples_114 g19.1 g19.2 (inr_IX g20) ?_
          refine r_icmp_ne (tgt := 121) dX11_alikeCouples_115 (by decide) (fun c21 => ?_) (fun c21 => ?_)
          · rw [if_neg c21] at h
            obtain ⟨x22, hx22⟩ : ∃ y : Int32, y = (v4 + 1 : Int32) := ⟨_, rfl⟩
            replace h := lt_e hx22 h
            refine r_iinc (x := v4) (v := x22) (L' := [some (.ref 0), some (.ref 18), some (.int v2), some (.int v3), some (.int x22), some (.int 0)]) dX11_alikeCouples_121 rfl (by rw [hx22]; rfl) (Nat.le_of_ble_eq_true rfl) rfl rfl ?_
            refine r_goto (tgt := 31) dX11_alikeCouples_124 (by decide) ?_
            refine r_drop [true, true, true, true, true, false] rfl ?_
            exact ih _ _ _ _ _ _ h k0
          · rw [if_pos c21] at h
            obtain ⟨x23, hx23⟩ : ∃ y : Int32, y = (v2 + 1 : Int32) := ⟨_, rfl⟩
            replace h := lt_e hx23 h
            refine r_iinc (x := v2) (v := x23) (L' := [some (.ref 0), some (.ref 18), some (.int x23), some (.int v3), some (.int v4), some (.int 0)]) dX11_alikeCouples_118 rfl (by rw [hx23]; rfl) (Nat.le_of_ble_eq_true rfl) rfl rfl ?_
            obtain ⟨x24, hx24⟩ : ∃ y : Int32, y = (v4 + 1 : Int32) := ⟨_, rfl⟩
            replace h := lt_e hx24 h
            refine r_iinc (x := v4) (v := x24) (L' := [some (.ref 0), some (.ref 18), some (.int x23), some (.int v3), some (.int x24), some (.int 0)]) dX11_alikeCouples_121 rfl (by rw [hx24]; rfl) (Nat.le_of_ble_eq_true rfl) rfl rfl ?_
            refine r_goto (tgt := 31) dX11_alikeCouples_124 (by decide) ?_
            refine r_drop [true, true, true, true, true, false] rfl ?_
            exact ih _ _ _ _ _ _ h k0
      · rw [if_pos c10] at h
        refine r_aload_n (x := 18) dX11_alikeCouples_62 rfl ?_
        refine r_getfield (o := 18) (v := .ref 51) dX11_alikeCouples_63 lX11_162 ck18 nC18 rfl ?_
        refine r_iload_n (x := v3) dX11_alikeCouples_66 rfl ?_
        obtain ⟨g25, h⟩ := gd_e h
        refine r_iaload (a := 51) dX11_alikeCouples_67 ck51 nC51 (inr_IX g25) ?_
        refine r_aload_n (x := 18) dX11_alikeCouples_68 rfl ?_
        refine r_getfield (o := 18) (v := .ref 51) dX11_alikeCouples_69 lX11_162 ck18 nC18 rfl ?_
        refine r_iload (x := v4) dX11_alikeCouples_72 rfl ?_
        obtain ⟨g26, h⟩ := gd_e h
        refine r_iaload (a := 51) dX11_alikeCouples_74 ck51 nC51 (inr_IX g26) ?_
        obtain ⟨x28, hx28⟩ : ∃ y : Int32, y = ((if (S.1 51 (ix v3)) = (S.1 51 (ix v4)) then 1 else 0) : Int32) := ⟨_, rfl⟩
        replace h := lt_e hx28 h
        have keyx28 : WP [] mX11_alikeCouples 0 0 Q 83 [some (.ref 0), some (.ref 18), some (.int v2), some (.int v3), some (.int v4), none] (.int x28 :: []) S u := by
          refine r_istore (L' := [some (.ref 0), some (.ref 18), some (.int v2), some (.int v3), some (.int v4), some (.int x28)]) dX11_alikeCouples_83 (Nat.le_of_ble_eq_true rfl) rfl rfl ?_
          refine r_iload (x := x28) dX11_alikeCouples_85 rfl ?_
          refine r_if_eq (tgt := 121) dX11_alikeCouples_87 (by decide) (fun c29 => ?_) (fun c29 => ?_)
          · rw [if_pos c29] at h
            obtain ⟨x30, hx30⟩ : ∃ y : Int32, y = (v4 + 1 : Int32) := ⟨_, rfl⟩
            replace h := lt_e hx30 h
            refine r_iinc (x := v4) (v := x30) (L' := [some (.ref 0), some (.ref 18), some (.int v2), some (.int v3), some (.int x30), some (.int x28)]) dX11_alikeCouples_121 rfl (by rw [hx30]; rfl) (Nat.le_of_ble_eq_true rfl) rfl rfl ?_
            refine r_goto (tgt := 31) dX11_alikeCouples_124 (by decide) ?_
            refine r_drop [true, true, true, true, true, false] rfl ?_
            exact ih _ _ _ _ _ _ h k0
          · rw [if_neg c29] at h
            refine r_aload_n (x := 0) dX11_alikeCouples_90 rfl ?_
            refine r_getfield (o := 0) (v := .ref 5) dX11_alikeCouples_91 lX11_29 ck0 nC0 rfl ?_
            refine r_getfield (o := 5) (v := .ref (S.2.2 5 3)) dX11_alikeCouples_94 lX11_92 ck5 nC5 rfl ?_
            refine r_topr (fun o31 ho31 => ?_)
            replace h := lt_e ho31 h
            obtain ⟨g32, h⟩ := gd_e h
            refine r_getfield (o := o31) (v := .ref (sr o31 0)) dX11_alikeCouples_97 lX11_165 g32.1 g32.2 rfl ?_
            refine r_iload_n (x := v3) dX11_alikeCouples_100 rfl ?_
            obtain ⟨g33, h⟩ := gd_e h
            obtain ⟨g34, h⟩ := gd_e h
            refine r_iaload (a := (sr o31 0)) dX11_alikeCouples_101 g33.1 g33.2 (inr_IX g34) ?_
            refine r_aload_n (x := 0) dX11_alikeCouples_102 rfl ?_
            refine r_getfield (o := 0) (v := .ref 5) dX11_alikeCouples_103 lX11_29 ck0 nC0 rfl ?_
            refine r_getfield (o := 5) (v := .ref (S.2.2 5 3)) dX11_alikeCouples_106 lX11_92 ck5 nC5 rfl ?_
            refine r_topr (fun o35 ho35 => ?_)
            replace h := lt_e ho35 h
            obtain ⟨g36, h⟩ := gd_e h
            refine r_getfield (o := o35) (v := .ref (sr o35 0)) dX11_alikeCouples_109 lX11_165 g36.1 g36.2 rfl ?_
            refine r_iload (x := v4) dX11_alikeCouples_112 rfl ?_
            obtain ⟨g37, h⟩ := gd_e h
            obtain ⟨g38, h⟩ := gd_e h
            refine r_iaload (a := (sr o35 0)) dX11_alikeCouples_114 g37.1 g37.2 (inr_IX g38) ?_
            refine r_icmp_ne (tgt := 121) dX11_alikeCouples_115 (by decide) (fun c39 => ?_) (fun c39 => ?_)
            · rw [if_neg c39] at h
              obtain ⟨x40, hx40⟩ : ∃ y : Int32, y = (v4 + 1 : Int32) := ⟨_, rfl⟩
              replace h := lt_e hx40 h
              refine r_iinc (x := v4) (v := x40) (L' := [some (.ref 0), some (.ref 18), some (.int v2), some (.int v3), some (.int x40), some (.int x28)]) dX11_alikeCouples_121 rfl (by rw [hx40]; rfl) (Nat.le_of_ble_eq_true rfl) rfl rfl ?_
              refine r_goto (tgt := 31) dX11_alikeCouples_124 (by decide) ?_
              refine r_drop [true, true, true, true, true, false] rfl ?_
              exact ih _ _ _ _ _ _ h k0
            · rw [if_pos c39] at h
              obtain ⟨x41, hx41⟩ : ∃ y : Int32, y = (v2 + 1 : Int32) := ⟨_, rfl⟩
              replace h := lt_e hx41 h
              refine r_iinc (x := v2) (v := x41) (L' := [some (.ref 0), some (.ref 18), some (.int x41), some (.int v3), some (.int v4), some (.int x28)]) dX11_alikeCouples_118 rfl (by rw [hx41]; rfl) (Nat.le_of_ble_eq_true rfl) rfl rfl ?_
              obtain ⟨x42, hx42⟩ : ∃ y : Int32, y = (v4 + 1 : Int32) := ⟨_, rfl⟩
              replace h := lt_e hx42 h
              refine r_iinc (x := v4) (v := x42) (L' := [some (.ref 0), some (.ref 18), some (.int x41), some (.int v3), some (.int x42), some (.int x28)]) dX11_alikeCouples_121 rfl (by rw [hx42]; rfl) (Nat.le_of_ble_eq_true rfl) rfl rfl ?_
              refine r_goto (tgt := 31) dX11_alikeCouples_124 (by decide) ?_
              refine r_drop [true, true, true, true, true, false] rfl ?_
              exact ih _ _ _ _ _ _ h k0
        refine r_icmp_ne (tgt := 82) dX11_alikeCouples_75 (by decide) (fun c27 => ?_) (fun c27 => ?_)
        · refine r_iconst (v := 0) dX11_alikeCouples_82 rfl ?_
          exact r_tope (by rw [hx28, if_neg c27]) keyx28
        · refine r_iconst (v := 1) dX11_alikeCouples_78 rfl ?_
          refine r_goto (tgt := 83) dX11_alikeCouples_79 (by decide) ?_
          exact r_tope (by rw [hx28, if_pos c27]) keyx28
def fX11_alikeCouples_12 (N : Nat)  : Nat → Int32 → Int32 → PS → Option (Int32 × Int32 × PS)
  | 0, _, _, _ => none
  | n + 1, v2, v3, S =>
    lt ((S.2.2 5 3) : Nat) fun o1 =>
    gd (obj o1 1) <|
    (if (S.1 o1 4) ≤ v3 then
      some (v2, v3, S)
    else
      lt ((v3 + 1) : Int32) fun x4 =>
      bT (fX11_alikeCouples_31 N v3 N v2 x4 S) fun q43 =>
      lt (q43.1 : Int32) fun x44 =>
      lt (q43.2.1 : Int32) fun x45 =>
      lt (q43.2.2 : PS) fun S46 =>
      lt (v3 + 1 : Int32) fun x49 =>
      fX11_alikeCouples_12 N  n x44 x49 S46)
set_option maxHeartbeats 4000000 in
set_option maxRecDepth 100000 in
theorem okX11_alikeCouples_12 (N : Nat)  (Q : OQ) (u : Nat) (hu : u ≤ 0) : ∀ (n : Nat) (v2 : Int32) (v3 : Int32) (S : PS) (y2 : Int32) (y3 : Int32) (T : PS), fX11_alikeCouples_12 N  n v2 v3 S = some (y2, y3, T) → WP [] mX11_alikeCouples 0 0 Q 133 [some (.ref 0), some (.ref 18), some (.int y2), some (.int y3), none, none] [] T u → WP [] mX11_alikeCouples 0 0 Q 12 [some (.ref 0), some (.ref 18), some (.int v2), some (.int v3), none, none] [] S u := by
  intro n
  induction n with
  | zero => intro v2 v3 S y2 y3 T h; rw [fX11_alikeCouples_12] at h; cases h
  | succ n ih =>
    intro v2 v3 S y2 y3 T h k0
    rw [fX11_alikeCouples_12] at h
    refine r_iload_n (x := v3) dX11_alikeCouples_12 rfl ?_
    refine r_aload_n (x := 0) dX11_alikeCouples_13 rfl ?_
    refine r_getfield (o := 0) (v := .ref 5) dX11_alikeCouples_14 lX11_29 ck0 nC0 rfl ?_
    refine r_getfield (o := 5) (v := .ref (S.2.2 5 3)) dX11_alikeCouples_17 lX11_92 ck5 nC5 rfl ?_
    refine r_topr (fun o1 ho1 => ?_)
    replace h := lt_e ho1 h
    obtain ⟨g2, h⟩ := gd_e h
    refine r_getfield (o := o1) (v := .int (S.1 o1 4)) dX11_alikeCouples_20 lX11_113 g2.1 g2.2 rfl ?_
    refine r_icmp_ge (tgt := 133) dX11_alikeCouples_23 (by decide) (fun c3 => ?_) (fun c3 => ?_)
    · rw [if_pos c3] at h
      cases h
      exact k0
    · rw [if_neg c3] at h
      refine r_iload_n (x := v3) dX11_alikeCouples_26 rfl ?_
      refine r_iconst (v := 1) dX11_alikeCouples_27 rfl ?_
      refine r_iadd dX11_alikeCouples_28 ?_
      refine r_topi (fun x4 hx4 => ?_)
      replace h := lt_e hx4 h
      refine r_istore (L' := [some (.ref 0), some (.ref 18), some (.int v2), some (.int v3), some (.int x4), none]) dX11_alikeCouples_29 (Nat.le_of_ble_eq_true rfl) rfl rfl ?_
      obtain ⟨⟨x44, x45, S46⟩, h48, h⟩ := bT_e h
      dsimp only at h
      replace h := pl_s (pl_s (pl_s (h)))
      refine okX11_alikeCouples_31 N v3 Q u hu _ _ _ _ _ _ _ h48 ?_
      obtain ⟨x49, hx49⟩ : ∃ y : Int32, y = (v3 + 1 : Int32) := ⟨_, rfl⟩
      replace h := lt_e hx49 h
      refine r_iinc (x := v3) (v := x49) (L' := [some (.ref 0), some (.ref 18), some (.int x44), some (.int x49), some (.int x45), none]) dX11_alikeCouples_127 rfl (by rw [hx49]; rfl) (Nat.le_of_ble_eq_true rfl) rfl rfl ?_
      refine r_goto (tgt := 12) dX11_alikeCouples_130 (by decide) ?_
      refine r_drop [true, true, true, true, false, true] rfl ?_
      exact ih _ _ _ _ _ _ h k0
def fX11_alikeCouples (N : Nat)  (S : PS) : Option (Int32 × PS) :=
  bT (fX11_alikeCouples_12 N  N 0 0 S) fun q50 =>
  lt (q50.1 : Int32) fun x51 =>
  lt (q50.2.1 : Int32) fun x52 =>
  lt (q50.2.2 : PS) fun S53 =>
  some (x51, S53)
set_option maxHeartbeats 4000000 in
set_option maxRecDepth 100000 in
theorem okX11_alikeCouples (N : Nat)  (S : PS) (r : Int32) (T : PS) (h : fX11_alikeCouples N  S = some (r, T)) : CT mX11_alikeCouples 0 0 [.ref 0] S (qI r T) := by
  refine ct_of [some (.ref 0), none, none, none, none, none] rfl (fun _ => rfl) (fun _ => Nat.le_of_ble_eq_true rfl) ?_
  unfold fX11_alikeCouples at h
  refine r_aload_n (x := 0) dX11_alikeCouples_0 rfl ?_
  refine r_getfield (o := 0) (v := .ref 3) dX11_alikeCouples_1 lX11_19 ck0 nC0 rfl ?_
  refine r_getfield (o := 3) (v := .ref 18) dX11_alikeCouples_4 lX11_116 ck3 nC3 rfl ?_
  refine r_astore_n (L' := [some (.ref 0), some (.ref 18), none, none, none, none]) dX11_alikeCouples_7 (Nat.le_of_ble_eq_true rfl) rfl rfl ?_
  refine r_iconst (v := 0) dX11_alikeCouples_8 rfl ?_
  refine r_istore_n (L' := [some (.ref 0), some (.ref 18), some (.int 0), none, none, none]) dX11_alikeCouples_9 (Nat.le_of_ble_eq_true rfl) rfl rfl ?_
  refine r_iconst (v := 0) dX11_alikeCouples_10 rfl ?_
  refine r_istore_n (L' := [some (.ref 0), some (.ref 18), some (.int 0), some (.int 0), none, none]) dX11_alikeCouples_11 (Nat.le_of_ble_eq_true rfl) rfl rfl ?_
  obtain ⟨⟨x51, x52, S53⟩, h55, h⟩ := bT_e h
  dsimp only at h
  replace h := pl_s (pl_s (pl_s (h)))
  refine okX11_alikeCouples_12 N  (qI r T) 0 (Nat.zero_le _) _ _ _ _ _ _ _ h55 ?_
  refine r_iload_n (x := x51) dX11_alikeCouples_133 rfl ?_
  cases h
  exact r_ireturn dX11_alikeCouples_134 rfl (Nat.zero_le _) ⟨rfl, rfl⟩
def fX11_draw (N : Nat) (p0 : Int32) (S : PS) : Option (Int32 × PS) :=
  lt ((u2 S.1 0 11 (((S.1 0 11) * 1103515245) + 12345), S.2) : PS) fun S1 =>
  (if p0 ≤ 0 then
    some (0, S1)
  else
    gd (¬ p0 = 0) <|
    some (((((S1.1 0 11) >>> ((16 : Int32) &&& 31)) &&& 32767) - (((S1.1 0 11) >>> ((16 : Int32) &&& 31)) &&& 32767) / p0 * p0), S1))
set_option maxHeartbeats 4000000 in
set_option maxRecDepth 100000 in
theorem okX11_draw (N : Nat) (p0 : Int32) (S : PS) (r : Int32) (T : PS) (h : fX11_draw N p0 S = some (r, T)) : CT mX11_draw 0 0 [.ref 0, .int p0] S (qI r T) := by
  refine ct_of [some (.ref 0), some (.int p0)] rfl (fun _ => rfl) (fun _ => Nat.le_of_ble_eq_true rfl) ?_
  unfold fX11_draw at h
  refine r_aload_n (x := 0) dX11_draw_0 rfl ?_
  refine r_aload_n (x := 0) dX11_draw_1 rfl ?_
  refine r_getfield (o := 0) (v := .int (S.1 0 11)) dX11_draw_2 lX11_65 ck0 nC0 rfl ?_
  refine r_ldcw (v := 1103515245) dX11_draw_5 kX11_366 ?_
  refine r_imul dX11_draw_8 ?_
  refine r_sipush (v := 12345) dX11_draw_9 rfl ?_
  refine r_iadd dX11_draw_12 ?_
  refine r_putI dX11_draw_13 lX11_65 ck0 nC0 ?_
  refine r_topS (fun S1 hS1 => ?_)
  replace h := lt_e hS1 h
  refine r_iload_n (x := p0) dX11_draw_16 rfl ?_
  refine r_if_le (tgt := 36) dX11_draw_17 (by decide) (fun c2 => ?_) (fun c2 => ?_)
  · rw [if_pos c2] at h
    refine r_iconst (v := 0) dX11_draw_36 rfl ?_
    cases h
    exact r_ireturn dX11_draw_37 rfl (Nat.zero_le _) ⟨rfl, rfl⟩
  · rw [if_neg c2] at h
    refine r_aload_n (x := 0) dX11_draw_20 rfl ?_
    refine r_getfield (o := 0) (v := .int (S1.1 0 11)) dX11_draw_21 lX11_65 ck0 nC0 rfl ?_
    refine r_bipush (v := 16) dX11_draw_24 rfl ?_
    refine r_ishr dX11_draw_26 ?_
    refine r_sipush (v := 32767) dX11_draw_27 rfl ?_
    refine r_iand dX11_draw_30 ?_
    refine r_iload_n (x := p0) dX11_draw_31 rfl ?_
    obtain ⟨g3, h⟩ := gd_e h
    refine r_irem dX11_draw_32 g3 ?_
    refine r_goto (tgt := 37) dX11_draw_33 (by decide) ?_
    cases h
    exact r_ireturn dX11_draw_37 rfl (Nat.zero_le _) ⟨rfl, rfl⟩
def fX11_mostOf_4 (N : Nat) (v1 : Nat) : Nat → Int32 → Int32 → PS → Option (Int32 × Int32 × PS)
  | 0, _, _, _ => none
  | n + 1, v2, v3, S =>
    lt ((S.2.2 5 3) : Nat) fun o1 =>
    gd (obj o1 1) <|
    (if (S.1 o1 4) ≤ v3 then
      some (v2, v3, S)
    else
      (if v2 = (-1) then
        lt (v3 + 1 : Int32) fun x5 =>
        fX11_mostOf_4 N v1 n v3 x5 S
      else
        gd (arr v1 1 (ck v1).2) <|
        gd (inr v3 (ck v1).2) <|
        gd (arr v1 1 (ck v1).2) <|
        gd (inr v2 (ck v1).2) <|
        (if (S.1 v1 (ix v3)) ≤ (S.1 v1 (ix v2)) then
          lt (v3 + 1 : Int32) fun x11 =>
          fX11_mostOf_4 N v1 n v2 x11 S
        else
          lt (v3 + 1 : Int32) fun x12 =>
          fX11_mostOf_4 N v1 n v3 x12 S)))
set_option maxHeartbeats 4000000 in
set_option maxRecDepth 100000 in
theorem okX11_mostOf_4 (N : Nat) (v1 : Nat) (Q : OQ) (u : Nat) (hu : u ≤ 0) : ∀ (n : Nat) (v2 : Int32) (v3 : Int32) (S : PS) (y2 : Int32) (y3 : Int32) (T : PS), fX11_mostOf_4 N v1 n v2 v3 S = some (y2, y3, T) → WP [] mX11_mostOf 0 0 Q 40 [some (.ref 0), some (.ref v1), some (.int y2), some (.int y3)] [] T u → WP [] mX11_mostOf 0 0 Q 4 [some (.ref 0), some (.ref v1), some (.int v2), some (.int v3)] [] S u := by
  intro n
  induction n with
  | zero => intro v2 v3 S y2 y3 T h; rw [fX11_mostOf_4] at h; cases h
  | succ n ih =>
    intro v2 v3 S y2 y3 T h k0
    rw [fX11_mostOf_4] at h
    refine r_iload_n (x := v3) dX11_mostOf_4 rfl ?_
    refine r_aload_n (x := 0) dX11_mostOf_5 rfl ?_
    refine r_getfield (o := 0) (v := .ref 5) dX11_mostOf_6 lX11_29 ck0 nC0 rfl ?_
    refine r_getfield (o := 5) (v := .ref (S.2.2 5 3)) dX11_mostOf_9 lX11_92 ck5 nC5 rfl ?_
    refine r_topr (fun o1 ho1 => ?_)
    replace h := lt_e ho1 h
    obtain ⟨g2, h⟩ := gd_e h
    refine r_getfield (o := o1) (v := .int (S.1 o1 4)) dX11_mostOf_12 lX11_113 g2.1 g2.2 rfl ?_
    refine r_icmp_ge (tgt := 40) dX11_mostOf_15 (by decide) (fun c3 => ?_) (fun c3 => ?_)
    · rw [if_pos c3] at h
      cases h
      exact k0
    · rw [if_neg c3] at h
      refine r_iload_n (x := v2) dX11_mostOf_18 rfl ?_
      refine r_iconst (v := (-1)) dX11_mostOf_19 rfl ?_
      refine r_icmp_eq (tgt := 32) dX11_mostOf_20 (by decide) (fun c4 => ?_) (fun c4 => ?_)
      · rw [if_pos c4] at h
        refine r_iload_n (x := v3) dX11_mostOf_32 rfl ?_
        refine r_istore_n (L' := [some (.ref 0), some (.ref v1), some (.int v3), some (.int v3)]) dX11_mostOf_33 (Nat.le_of_ble_eq_true rfl) rfl rfl ?_
        obtain ⟨x5, hx5⟩ : ∃ y : Int32, y = (v3 + 1 : Int32) := ⟨_, rfl⟩
        replace h := lt_e hx5 h
        refine r_iinc (x := v3) (v := x5) (L' := [some (.ref 0), some (.ref v1), some (.int v3), some (.int x5)]) dX11_mostOf_34 rfl (by rw [hx5]; rfl) (Nat.le_of_ble_eq_true rfl) rfl rfl ?_
        refine r_goto (tgt := 4) dX11_mostOf_37 (by decide) ?_
        exact ih _ _ _ _ _ _ h k0
      · rw [if_neg c4] at h
        refine r_aload_n (x := v1) dX11_mostOf_23 rfl ?_
        refine r_iload_n (x := v3) dX11_mostOf_24 rfl ?_
        obtain ⟨g6, h⟩ := gd_e h
        obtain ⟨g7, h⟩ := gd_e h
        refine r_iaload (a := v1) dX11_mostOf_25 g6.1 g6.2 (inr_IX g7) ?_
        refine r_aload_n (x := v1) dX11_mostOf_26 rfl ?_
        refine r_iload_n (x := v2) dX11_mostOf_27 rfl ?_
        obtain ⟨g8, h⟩ := gd_e h
        obtain ⟨g9, h⟩ := gd_e h
        refine r_iaload (a := v1) dX11_mostOf_28 g8.1 g8.2 (inr_IX g9) ?_
        refine r_icmp_le (tgt := 34) dX11_mostOf_29 (by decide) (fun c10 => ?_) (fun c10 => ?_)
        · rw [if_pos c10] at h
          obtain ⟨x11, hx11⟩ : ∃ y : Int32, y = (v3 + 1 : Int32) := ⟨_, rfl⟩
          replace h := lt_e hx11 h
          refine r_iinc (x := v3) (v := x11) (L' := [some (.ref 0), some (.ref v1), some (.int v2), some (.int x11)]) dX11_mostOf_34 rfl (by rw [hx11]; rfl) (Nat.le_of_ble_eq_true rfl) rfl rfl ?_
          refine r_goto (tgt := 4) dX11_mostOf_37 (by decide) ?_
          exact ih _ _ _ _ _ _ h k0
        · rw [if_neg c10] at h
          refine r_iload_n (x := v3) dX11_mostOf_32 rfl ?_
          refine r_istore_n (L' := [some (.ref 0), some (.ref v1), some (.int v3), some (.int v3)]) dX11_mostOf_33 (Nat.le_of_ble_eq_true rfl) rfl rfl ?_
          obtain ⟨x12, hx12⟩ : ∃ y : Int32, y = (v3 + 1 : Int32) := ⟨_, rfl⟩
          replace h := lt_e hx12 h
          refine r_iinc (x := v3) (v := x12) (L' := [some (.ref 0), some (.ref v1), some (.int v3), some (.int x12)]) dX11_mostOf_34 rfl (by rw [hx12]; rfl) (Nat.le_of_ble_eq_true rfl) rfl rfl ?_
          refine r_goto (tgt := 4) dX11_mostOf_37 (by decide) ?_
          exact ih _ _ _ _ _ _ h k0
def fX11_mostOf (N : Nat) (p0 : Nat) (S : PS) : Option (Int32 × PS) :=
  bT (fX11_mostOf_4 N p0 N (-1) 0 S) fun q13 =>
  lt (q13.1 : Int32) fun x14 =>
  lt (q13.2.1 : Int32) fun x15 =>
  lt (q13.2.2 : PS) fun S16 =>
  some (x14, S16)
set_option maxHeartbeats 4000000 in
set_option maxRecDepth 100000 in
theorem okX11_mostOf (N : Nat) (p0 : Nat) (S : PS) (r : Int32) (T : PS) (h : fX11_mostOf N p0 S = some (r, T)) : CT mX11_mostOf 0 0 [.ref 0, .ref p0] S (qI r T) := by
  refine ct_of [some (.ref 0), some (.ref p0), none, none] rfl (fun _ => rfl) (fun _ => Nat.le_of_ble_eq_true rfl) ?_
  unfold fX11_mostOf at h
  refine r_iconst (v := (-1)) dX11_mostOf_0 rfl ?_
  refine r_istore_n (L' := [some (.ref 0), some (.ref p0), some (.int (-1)), none]) dX11_mostOf_1 (Nat.le_of_ble_eq_true rfl) rfl rfl ?_
  refine r_iconst (v := 0) dX11_mostOf_2 rfl ?_
  refine r_istore_n (L' := [some (.ref 0), some (.ref p0), some (.int (-1)), some (.int 0)]) dX11_mostOf_3 (Nat.le_of_ble_eq_true rfl) rfl rfl ?_
  obtain ⟨⟨x14, x15, S16⟩, h18, h⟩ := bT_e h
  dsimp only at h
  replace h := pl_s (pl_s (pl_s (h)))
  refine okX11_mostOf_4 N p0 (qI r T) 0 (Nat.zero_le _) _ _ _ _ _ _ _ h18 ?_
  refine r_iload_n (x := x14) dX11_mostOf_40 rfl ?_
  cases h
  exact r_ireturn dX11_mostOf_41 rfl (Nat.zero_le _) ⟨rfl, rfl⟩
def fX11_dryCups_4 (N : Nat) (v1 : Nat) : Nat → Int32 → Int32 → PS → Option (Int32 × Int32 × PS)
  | 0, _, _, _ => none
  | n + 1, v2, v3, S =>
    lt ((S.2.2 5 3) : Nat) fun o1 =>
    gd (obj o1 1) <|
    (if (S.1 o1 4) ≤ v3 then
      some (v2, v3, S)
    else
      gd (obj v1 2) <|
      gd (arr (sr v1 1) 1 9) <|
      gd (inr v3 9) <|
      (if (S.1 (sr v1 1) (ix v3)) = 0 then
        lt ((v2 ||| (1 <<< (v3 &&& 31))) : Int32) fun x9 =>
        lt (v3 + 1 : Int32) fun x10 =>
        fX11_dryCups_4 N v1 n x9 x10 S
      else
        lt (v3 + 1 : Int32) fun x8 =>
        fX11_dryCups_4 N v1 n v2 x8 S))
set_option maxHeartbeats 4000000 in
set_option maxRecDepth 100000 in
theorem okX11_dryCups_4 (N : Nat) (v1 : Nat) (Q : OQ) (u : Nat) (hu : u ≤ 0) : ∀ (n : Nat) (v2 : Int32) (v3 : Int32) (S : PS) (y2 : Int32) (y3 : Int32) (T : PS), fX11_dryCups_4 N v1 n v2 v3 S = some (y2, y3, T) → WP [] mX11_dryCups 0 0 Q 39 [some (.ref 0), some (.ref v1), some (.int y2), some (.int y3)] [] T u → WP [] mX11_dryCups 0 0 Q 4 [some (.ref 0), some (.ref v1), some (.int v2), some (.int v3)] [] S u := by
  intro n
  induction n with
  | zero => intro v2 v3 S y2 y3 T h; rw [fX11_dryCups_4] at h; cases h
  | succ n ih =>
    intro v2 v3 S y2 y3 T h k0
    rw [fX11_dryCups_4] at h
    refine r_iload_n (x := v3) dX11_dryCups_4 rfl ?_
    refine r_aload_n (x := 0) dX11_dryCups_5 rfl ?_
    refine r_getfield (o := 0) (v := .ref 5) dX11_dryCups_6 lX11_29 ck0 nC0 rfl ?_
    refine r_getfield (o := 5) (v := .ref (S.2.2 5 3)) dX11_dryCups_9 lX11_92 ck5 nC5 rfl ?_
    refine r_topr (fun o1 ho1 => ?_)
    replace h := lt_e ho1 h
    obtain ⟨g2, h⟩ := gd_e h
    refine r_getfield (o := o1) (v := .int (S.1 o1 4)) dX11_dryCups_12 lX11_113 g2.1 g2.2 rfl ?_
    refine r_icmp_ge (tgt := 39) dX11_dryCups_15 (by decide) (fun c3 => ?_) (fun c3 => ?_)
    · rw [if_pos c3] at h
      cases h
      exact k0
    · rw [if_neg c3] at h
      refine r_aload_n (x := v1) dX11_dryCups_18 rfl ?_
      obtain ⟨g4, h⟩ := gd_e h
      refine r_getfield (o := v1) (v := .ref (sr v1 1)) dX11_dryCups_19 lX11_162 g4.1 g4.2 rfl ?_
      refine r_iload_n (x := v3) dX11_dryCups_22 rfl ?_
      obtain ⟨g5, h⟩ := gd_e h
      obtain ⟨g6, h⟩ := gd_e h
      refine r_iaload (a := (sr v1 1)) dX11_dryCups_23 g5.1 g5.2 (inr_IX g6) ?_
      refine r_if_ne (tgt := 33) dX11_dryCups_24 (by decide) (fun c7 => ?_) (fun c7 => ?_)
      · rw [if_neg c7] at h
        obtain ⟨x8, hx8⟩ : ∃ y : Int32, y = (v3 + 1 : Int32) := ⟨_, rfl⟩
        replace h := lt_e hx8 h
        refine r_iinc (x := v3) (v := x8) (L' := [some (.ref 0), some (.ref v1), some (.int v2), some (.int x8)]) dX11_dryCups_33 rfl (by rw [hx8]; rfl) (Nat.le_of_ble_eq_true rfl) rfl rfl ?_
        refine r_goto (tgt := 4) dX11_dryCups_36 (by decide) ?_
        exact ih _ _ _ _ _ _ h k0
      · rw [if_pos c7] at h
        refine r_iload_n (x := v2) dX11_dryCups_27 rfl ?_
        refine r_iconst (v := 1) dX11_dryCups_28 rfl ?_
        refine r_iload_n (x := v3) dX11_dryCups_29 rfl ?_
        refine r_ishl dX11_dryCups_30 ?_
        refine r_ior dX11_dryCups_31 ?_
        refine r_topi (fun x9 hx9 => ?_)
        replace h := lt_e hx9 h
        refine r_istore_n (L' := [some (.ref 0), some (.ref v1), some (.int x9), some (.int v3)]) dX11_dryCups_32 (Nat.le_of_ble_eq_true rfl) rfl rfl ?_
        obtain ⟨x10, hx10⟩ : ∃ y : Int32, y = (v3 + 1 : Int32) := ⟨_, rfl⟩
        replace h := lt_e hx10 h
        refine r_iinc (x := v3) (v := x10) (L' := [some (.ref 0), some (.ref v1), some (.int x9), some (.int x10)]) dX11_dryCups_33 rfl (by rw [hx10]; rfl) (Nat.le_of_ble_eq_true rfl) rfl rfl ?_
        refine r_goto (tgt := 4) dX11_dryCups_36 (by decide) ?_
        exact ih _ _ _ _ _ _ h k0
def fX11_dryCups (N : Nat) (p0 : Nat) (S : PS) : Option (Int32 × PS) :=
  bT (fX11_dryCups_4 N p0 N 0 0 S) fun q11 =>
  lt (q11.1 : Int32) fun x12 =>
  lt (q11.2.1 : Int32) fun x13 =>
  lt (q11.2.2 : PS) fun S14 =>
  some (x12, S14)
set_option maxHeartbeats 4000000 in
set_option maxRecDepth 100000 in
theorem okX11_dryCups (N : Nat) (p0 : Nat) (S : PS) (r : Int32) (T : PS) (h : fX11_dryCups N p0 S = some (r, T)) : CT mX11_dryCups 0 0 [.ref 0, .ref p0] S (qI r T) := by
  refine ct_of [some (.ref 0), some (.ref p0), none, none] rfl (fun _ => rfl) (fun _ => Nat.le_of_ble_eq_true rfl) ?_
  unfold fX11_dryCups at h
  refine r_iconst (v := 0) dX11_dryCups_0 rfl ?_
  refine r_istore_n (L' := [some (.ref 0), some (.ref p0), some (.int 0), none]) dX11_dryCups_1 (Nat.le_of_ble_eq_true rfl) rfl rfl ?_
  refine r_iconst (v := 0) dX11_dryCups_2 rfl ?_
  refine r_istore_n (L' := [some (.ref 0), some (.ref p0), some (.int 0), some (.int 0)]) dX11_dryCups_3 (Nat.le_of_ble_eq_true rfl) rfl rfl ?_
  obtain ⟨⟨x12, x13, S14⟩, h16, h⟩ := bT_e h
  dsimp only at h
  replace h := pl_s (pl_s (pl_s (h)))
  refine okX11_dryCups_4 N p0 (qI r T) 0 (Nat.zero_le _) _ _ _ _ _ _ _ h16 ?_
  refine r_iload_n (x := x12) dX11_dryCups_39 rfl ?_
  cases h
  exact r_ireturn dX11_dryCups_40 rfl (Nat.zero_le _) ⟨rfl, rfl⟩
def fX11_has (N : Nat) (p0 : Int32) (p1 : Int32) (S : PS) : Option (Int32 × PS) :=
  lt ((if ((p0 >>> (p1 &&& 31)) &&& 1) = 1 then 1 else 0) : Int32) fun x2 =>
  gd (b01 x2) <|
  some (x2, S)
set_option maxHeartbeats 4000000 in
set_option maxRecDepth 100000 in
theorem okX11_has (N : Nat) (p0 : Int32) (p1 : Int32) (S : PS) (r : Int32) (T : PS) (h : fX11_has N p0 p1 S = some (r, T)) : CT mX11_has 0 0 [.int p0, .int p1] S (qI r T) := by
  refine ct_of [some (.int p0), some (.int p1)] rfl (fun _ => rfl) (fun _ => Nat.le_of_ble_eq_true rfl) ?_
  unfold fX11_has at h
  refine r_iload_n (x := p0) dX11_has_0 rfl ?_
  refine r_iload_n (x := p1) dX11_has_1 rfl ?_
  refine r_ishr dX11_has_2 ?_
  refine r_iconst (v := 1) dX11_has_3 rfl ?_
  refine r_iand dX11_has_4 ?_
  refine r_iconst (v := 1) dX11_has_5 rfl ?_
  obtain ⟨x2, hx2⟩ : ∃ y : Int32, y = ((if ((p0 >>> (p1 &&& 31)) &&& 1) = 1 then 1 else 0) : Int32) := ⟨_, rfl⟩
  replace h := lt_e hx2 h
  have keyx2 : WP [] mX11_has 0 0 (qI r T) 14 [some (.int p0), some (.int p1)] (.int x2 :: []) S 0 := by
    obtain ⟨g3, h⟩ := gd_e h
    cases h
    exact r_zreturn dX11_has_14 rfl (nar01 g3) (Nat.zero_le _) ⟨rfl, rfl⟩
  refine r_icmp_ne (tgt := 13) dX11_has_6 (by decide) (fun c1 => ?_) (fun c1 => ?_)
  · refine r_iconst (v := 0) dX11_has_13 rfl ?_
    exact r_tope (by rw [hx2, if_neg c1]) keyx2
  · refine r_iconst (v := 1) dX11_has_9 rfl ?_
    refine r_goto (tgt := 14) dX11_has_10 (by decide) ?_
    exact r_tope (by rw [hx2, if_pos c1]) keyx2
def fX11_bitOf (N : Nat) (p0 : Int32) (S : PS) : Option (Int32 × PS) :=
  lt ((if p0 < 0 then 0 else (if 9 ≤ p0 then 0 else (1 <<< (p0 &&& 31)))) : Int32) fun x3 =>
  some (x3, S)
set_option maxHeartbeats 4000000 in
set_option maxRecDepth 100000 in
theorem okX11_bitOf (N : Nat) (p0 : Int32) (S : PS) (r : Int32) (T : PS) (h : fX11_bitOf N p0 S = some (r, T)) : CT mX11_bitOf 0 0 [.int p0] S (qI r T) := by
  refine ct_of [some (.int p0)] rfl (fun _ => rfl) (fun _ => Nat.le_of_ble_eq_true rfl) ?_
  unfold fX11_bitOf at h
  refine r_iload_n (x := p0) dX11_bitOf_0 rfl ?_
  obtain ⟨x3, hx3⟩ : ∃ y : Int32, y = ((if p0 < 0 then 0 else (if 9 ≤ p0 then 0 else (1 <<< (p0 &&& 31)))) : Int32) := ⟨_, rfl⟩
  replace h := lt_e hx3 h
  have keyx3 : WP [] mX11_bitOf 0 0 (qI r T) 17 [some (.int p0)] (.int x3 :: []) S 0 := by
    cases h
    exact r_ireturn dX11_bitOf_17 rfl (Nat.zero_le _) ⟨rfl, rfl⟩
  refine r_if_lt (tgt := 16) dX11_bitOf_1 (by decide) (fun c1 => ?_) (fun c1 => ?_)
  · refine r_iconst (v := 0) dX11_bitOf_16 rfl ?_
    exact r_tope (by rw [hx3, if_pos c1]) keyx3
  · refine r_iload_n (x := p0) dX11_bitOf_4 rfl ?_
    refine r_bipush (v := 9) dX11_bitOf_5 rfl ?_
    refine r_icmp_ge (tgt := 16) dX11_bitOf_7 (by decide) (fun c2 => ?_) (fun c2 => ?_)
    · refine r_iconst (v := 0) dX11_bitOf_16 rfl ?_
      exact r_tope (by rw [hx3, if_neg c1, if_pos c2]) keyx3
    · refine r_iconst (v := 1) dX11_bitOf_10 rfl ?_
      refine r_iload_n (x := p0) dX11_bitOf_11 rfl ?_
      refine r_ishl dX11_bitOf_12 ?_
      refine r_goto (tgt := 17) dX11_bitOf_13 (by decide) ?_
      exact r_tope (by rw [hx3, if_neg c1, if_neg c2]) keyx3
def fJ6_bitCount_0f7a4 (N : Nat) (p0 : Int32) (S : PS) : Option (Int32 × PS) :=
  lt ((p0 - (((p0.toUInt32 >>> ((1 : Int32).toUInt32 &&& Int32.toUInt32 31)).toInt32) &&& 1431655765)) : Int32) fun x1 =>
  lt (((x1 &&& 858993459) + (((x1.toUInt32 >>> ((2 : Int32).toUInt32 &&& Int32.toUInt32 31)).toInt32) &&& 858993459)) : Int32) fun x2 =>
  lt (((x2 + ((x2.toUInt32 >>> ((4 : Int32).toUInt32 &&& Int32.toUInt32 31)).toInt32)) &&& 252645135) : Int32) fun x3 =>
  lt ((x3 + ((x3.toUInt32 >>> ((8 : Int32).toUInt32 &&& Int32.toUInt32 31)).toInt32)) : Int32) fun x4 =>
  lt ((x4 + ((x4.toUInt32 >>> ((16 : Int32).toUInt32 &&& Int32.toUInt32 31)).toInt32)) : Int32) fun x5 =>
  some ((x5 &&& 63), S)
set_option maxHeartbeats 4000000 in
set_option maxRecDepth 100000 in
theorem okJ6_bitCount_0f7a4 (N : Nat) (p0 : Int32) (S : PS) (r : Int32) (T : PS) (h : fJ6_bitCount_0f7a4 N p0 S = some (r, T)) : CT mJ6_bitCount_0f7a4 0 0 [.int p0] S (qI r T) := by
  refine ct_of [some (.int p0)] rfl (fun _ => rfl) (fun _ => Nat.le_of_ble_eq_true rfl) ?_
  unfold fJ6_bitCount_0f7a4 at h
  refine r_iload_n (x := p0) dJ6_bitCount_0f7a4_0 rfl ?_
  refine r_iload_n (x := p0) dJ6_bitCount_0f7a4_1 rfl ?_
  refine r_iconst (v := 1) dJ6_bitCount_0f7a4_2 rfl ?_
  refine r_iushr dJ6_bitCount_0f7a4_3 ?_
  refine r_ldcw (v := 1431655765) dJ6_bitCount_0f7a4_4 kJ6_265 ?_
  refine r_iand dJ6_bitCount_0f7a4_7 ?_
  refine r_isub dJ6_bitCount_0f7a4_8 ?_
  refine r_topi (fun x1 hx1 => ?_)
  replace h := lt_e hx1 h
  refine r_istore_n (L' := [some (.int x1)]) dJ6_bitCount_0f7a4_9 (Nat.le_of_ble_eq_true rfl) rfl rfl ?_
  refine r_iload_n (x := x1) dJ6_bitCount_0f7a4_10 rfl ?_
  refine r_ldcw (v := 858993459) dJ6_bitCount_0f7a4_11 kJ6_266 ?_
  refine r_iand dJ6_bitCount_0f7a4_14 ?_
  refine r_iload_n (x := x1) dJ6_bitCount_0f7a4_15 rfl ?_
  refine r_iconst (v := 2) dJ6_bitCount_0f7a4_16 rfl ?_
  refine r_iushr dJ6_bitCount_0f7a4_17 ?_
  refine r_ldcw (v := 858993459) dJ6_bitCount_0f7a4_18 kJ6_266 ?_
  refine r_iand dJ6_bitCount_0f7a4_21 ?_
  refine r_iadd dJ6_bitCount_0f7a4_22 ?_
  refine r_topi (fun x2 hx2 => ?_)
  replace h := lt_e hx2 h
  refine r_istore_n (L' := [some (.int x2)]) dJ6_bitCount_0f7a4_23 (Nat.le_of_ble_eq_true rfl) rfl rfl ?_
  refine r_iload_n (x := x2) dJ6_bitCount_0f7a4_24 rfl ?_
  refine r_iload_n (x := x2) dJ6_bitCount_0f7a4_25 rfl ?_
  refine r_iconst (v := 4) dJ6_bitCount_0f7a4_26 rfl ?_
  refine r_iushr dJ6_bitCount_0f7a4_27 ?_
  refine r_iadd dJ6_bitCount_0f7a4_28 ?_
  refine r_ldcw (v := 252645135) dJ6_bitCount_0f7a4_29 kJ6_267 ?_
  refine r_iand dJ6_bitCount_0f7a4_32 ?_
  refine r_topi (fun x3 hx3 => ?_)
  replace h := lt_e hx3 h
  refine r_istore_n (L' := [some (.int x3)]) dJ6_bitCount_0f7a4_33 (Nat.le_of_ble_eq_true rfl) rfl rfl ?_
  refine r_iload_n (x := x3) dJ6_bitCount_0f7a4_34 rfl ?_
  refine r_iload_n (x := x3) dJ6_bitCount_0f7a4_35 rfl ?_
  refine r_bipush (v := 8) dJ6_bitCount_0f7a4_36 rfl ?_
  refine r_iushr dJ6_bitCount_0f7a4_38 ?_
  refine r_iadd dJ6_bitCount_0f7a4_39 ?_
  refine r_topi (fun x4 hx4 => ?_)
  replace h := lt_e hx4 h
  refine r_istore_n (L' := [some (.int x4)]) dJ6_bitCount_0f7a4_40 (Nat.le_of_ble_eq_true rfl) rfl rfl ?_
  refine r_iload_n (x := x4) dJ6_bitCount_0f7a4_41 rfl ?_
  refine r_iload_n (x := x4) dJ6_bitCount_0f7a4_42 rfl ?_
  refine r_bipush (v := 16) dJ6_bitCount_0f7a4_43 rfl ?_
  refine r_iushr dJ6_bitCount_0f7a4_45 ?_
  refine r_iadd dJ6_bitCount_0f7a4_46 ?_
  refine r_topi (fun x5 hx5 => ?_)
  replace h := lt_e hx5 h
  refine r_istore_n (L' := [some (.int x5)]) dJ6_bitCount_0f7a4_47 (Nat.le_of_ble_eq_true rfl) rfl rfl ?_
  refine r_iload_n (x := x5) dJ6_bitCount_0f7a4_48 rfl ?_
  refine r_bipush (v := 63) dJ6_bitCount_0f7a4_49 rfl ?_
  refine r_iand dJ6_bitCount_0f7a4_51 ?_
  cases h
  exact r_ireturn dJ6_bitCount_0f7a4_52 rfl (Nat.zero_le _) ⟨rfl, rfl⟩
def fJ13_bitCount_95d88 (N : Nat) (p0 : Int64) (S : PS) : Option (Int32 × PS) :=
  lt ((p0 - (((p0.toUInt64 >>> ((1 : Int32).toInt64.toUInt64 &&& Int64.toUInt64 63)).toInt64) &&& 6148914691236517205)) : Int64) fun x1 =>
  lt (((x1 &&& 3689348814741910323) + (((x1.toUInt64 >>> ((2 : Int32).toInt64.toUInt64 &&& Int64.toUInt64 63)).toInt64) &&& 3689348814741910323)) : Int64) fun x2 =>
  lt (((x2 + ((x2.toUInt64 >>> ((4 : Int32).toInt64.toUInt64 &&& Int64.toUInt64 63)).toInt64)) &&& 1085102592571150095) : Int64) fun x3 =>
  lt ((x3 + ((x3.toUInt64 >>> ((8 : Int32).toInt64.toUInt64 &&& Int64.toUInt64 63)).toInt64)) : Int64) fun x4 =>
  lt ((x4 + ((x4.toUInt64 >>> ((16 : Int32).toInt64.toUInt64 &&& Int64.toUInt64 63)).toInt64)) : Int64) fun x5 =>
  lt ((x5 + ((x5.toUInt64 >>> ((32 : Int32).toInt64.toUInt64 &&& Int64.toUInt64 63)).toInt64)) : Int64) fun x6 =>
  some ((x6.toInt32 &&& 127), S)
set_option maxHeartbeats 4000000 in
set_option maxRecDepth 100000 in
theorem okJ13_bitCount_95d88 (N : Nat) (p0 : Int64) (S : PS) (r : Int32) (T : PS) (h : fJ13_bitCount_95d88 N p0 S = some (r, T)) : CT mJ13_bitCount_95d88 0 0 [.long p0] S (qI r T) := by
  refine ct_of [some (.long p0), none] rfl (fun _ => rfl) (fun _ => Nat.le_of_ble_eq_true rfl) ?_
  unfold fJ13_bitCount_95d88 at h
  refine r_lload_n (x := p0) dJ13_bitCount_95d88_0 rfl ?_
  refine r_lload_n (x := p0) dJ13_bitCount_95d88_1 rfl ?_
  refine r_iconst (v := 1) dJ13_bitCount_95d88_2 rfl ?_
  refine r_lushr dJ13_bitCount_95d88_3 ?_
  refine r_ldc2 (v := 6148914691236517205) dJ13_bitCount_95d88_4 kJ13_314 ?_
  refine r_land dJ13_bitCount_95d88_7 ?_
  refine r_lsub dJ13_bitCount_95d88_8 ?_
  refine r_topl (fun x1 hx1 => ?_)
  replace h := lt_e hx1 h
  refine r_lstore_n (L' := [some (.long x1), none]) dJ13_bitCount_95d88_9 (Nat.le_of_ble_eq_true rfl) rfl rfl ?_
  refine r_lload_n (x := x1) dJ13_bitCount_95d88_10 rfl ?_
  refine r_ldc2 (v := 3689348814741910323) dJ13_bitCount_95d88_11 kJ13_316 ?_
  refine r_land dJ13_bitCount_95d88_14 ?_
  refine r_lload_n (x := x1) dJ13_bitCount_95d88_15 rfl ?_
  refine r_iconst (v := 2) dJ13_bitCount_95d88_16 rfl ?_
  refine r_lushr dJ13_bitCount_95d88_17 ?_
  refine r_ldc2 (v := 3689348814741910323) dJ13_bitCount_95d88_18 kJ13_316 ?_
  refine r_land dJ13_bitCount_95d88_21 ?_
  refine r_ladd dJ13_bitCount_95d88_22 ?_
  refine r_topl (fun x2 hx2 => ?_)
  replace h := lt_e hx2 h
  refine r_lstore_n (L' := [some (.long x2), none]) dJ13_bitCount_95d88_23 (Nat.le_of_ble_eq_true rfl) rfl rfl ?_
  refine r_lload_n (x := x2) dJ13_bitCount_95d88_24 rfl ?_
  refine r_lload_n (x := x2) dJ13_bitCount_95d88_25 rfl ?_
  refine r_iconst (v := 4) dJ13_bitCount_95d88_26 rfl ?_
  refine r_lushr dJ13_bitCount_95d88_27 ?_
  refine r_ladd dJ13_bitCount_95d88_28 ?_
  refine r_ldc2 (v := 1085102592571150095) dJ13_bitCount_95d88_29 kJ13_318 ?_
  refine r_land dJ13_bitCount_95d88_32 ?_
  refine r_topl (fun x3 hx3 => ?_)
  replace h := lt_e hx3 h
  refine r_lstore_n (L' := [some (.long x3), none]) dJ13_bitCount_95d88_33 (Nat.le_of_ble_eq_true rfl) rfl rfl ?_
  refine r_lload_n (x := x3) dJ13_bitCount_95d88_34 rfl ?_
  refine r_lload_n (x := x3) dJ13_bitCount_95d88_35 rfl ?_
  refine r_bipush (v := 8) dJ13_bitCount_95d88_36 rfl ?_
  refine r_lushr dJ13_bitCount_95d88_38 ?_
  refine r_ladd dJ13_bitCount_95d88_39 ?_
  refine r_topl (fun x4 hx4 => ?_)
  replace h := lt_e hx4 h
  refine r_lstore_n (L' := [some (.long x4), none]) dJ13_bitCount_95d88_40 (Nat.le_of_ble_eq_true rfl) rfl rfl ?_
  refine r_lload_n (x := x4) dJ13_bitCount_95d88_41 rfl ?_
  refine r_lload_n (x := x4) dJ13_bitCount_95d88_42 rfl ?_
  refine r_bipush (v := 16) dJ13_bitCount_95d88_43 rfl ?_
  refine r_lushr dJ13_bitCount_95d88_45 ?_
  refine r_ladd dJ13_bitCount_95d88_46 ?_
  refine r_topl (fun x5 hx5 => ?_)
  replace h := lt_e hx5 h
  refine r_lstore_n (L' := [some (.long x5), none]) dJ13_bitCount_95d88_47 (Nat.le_of_ble_eq_true rfl) rfl rfl ?_
  refine r_lload_n (x := x5) dJ13_bitCount_95d88_48 rfl ?_
  refine r_lload_n (x := x5) dJ13_bitCount_95d88_49 rfl ?_
  refine r_bipush (v := 32) dJ13_bitCount_95d88_50 rfl ?_
  refine r_lushr dJ13_bitCount_95d88_52 ?_
  refine r_ladd dJ13_bitCount_95d88_53 ?_
  refine r_topl (fun x6 hx6 => ?_)
  replace h := lt_e hx6 h
  refine r_lstore_n (L' := [some (.long x6), none]) dJ13_bitCount_95d88_54 (Nat.le_of_ble_eq_true rfl) rfl rfl ?_
  refine r_lload_n (x := x6) dJ13_bitCount_95d88_55 rfl ?_
  refine r_l2i dJ13_bitCount_95d88_56 ?_
  refine r_bipush (v := 127) dJ13_bitCount_95d88_57 rfl ?_
  refine r_iand dJ13_bitCount_95d88_59 ?_
  cases h
  exact r_ireturn dJ13_bitCount_95d88_60 rfl (Nat.zero_le _) ⟨rfl, rfl⟩
def fJ7_fill_d0a16_6 (N : Nat) (v0 : Nat) (v1 : Int64) (v4 : Int32) : Nat → Int32 → PS → Option (Int32 × PS)
  | 0, _, _ => none
  | n + 1, v3, S =>
    (if v4 ≤ v3 then
      some (v3, S)
    else
      gd (arr v0 4 (ck v0).2) <|
      gd (inr v3 (ck v0).2) <|
      lt ((S.1, u2L S.2.1 v0 (ix v3) v1, S.2.2) : PS) fun S6 =>
      lt (v3 + 1 : Int32) fun x7 =>
      fJ7_fill_d0a16_6 N v0 v1 v4 n x7 S6)
set_option maxHeartbeats 4000000 in
set_option maxRecDepth 100000 in
theorem okJ7_fill_d0a16_6 (N : Nat) (v0 : Nat) (v1 : Int64) (v4 : Int32) (Q : OQ) (u : Nat) (hu : u ≤ 0) : ∀ (n : Nat) (v3 : Int32) (S : PS) (y3 : Int32) (T : PS), fJ7_fill_d0a16_6 N v0 v1 v4 n v3 S = some (y3, T) → WP [] mJ7_fill_d0a16 0 0 Q 22 [some (.ref v0), some (.long v1), none, some (.int y3), some (.int v4)] [] T u → WP [] mJ7_fill_d0a16 0 0 Q 6 [some (.ref v0), some (.long v1), none, some (.int v3), some (.int v4)] [] S u := by
  intro n
  induction n with
  | zero => intro v3 S y3 T h; rw [fJ7_fill_d0a16_6] at h; cases h
  | succ n ih =>
    intro v3 S y3 T h k0
    rw [fJ7_fill_d0a16_6] at h
    refine r_iload_n (x := v3) dJ7_fill_d0a16_6 rfl ?_
    refine r_iload (x := v4) dJ7_fill_d0a16_7 rfl ?_
    refine r_icmp_ge (tgt := 22) dJ7_fill_d0a16_9 (by decide) (fun c3 => ?_) (fun c3 => ?_)
    · rw [if_pos c3] at h
      cases h
      exact k0
    · rw [if_neg c3] at h
      refine r_aload_n (x := v0) dJ7_fill_d0a16_12 rfl ?_
      refine r_iload_n (x := v3) dJ7_fill_d0a16_13 rfl ?_
      refine r_lload_n (x := v1) dJ7_fill_d0a16_14 rfl ?_
      obtain ⟨g4, h⟩ := gd_e h
      obtain ⟨g5, h⟩ := gd_e h
      refine r_lastore (a := v0) dJ7_fill_d0a16_15 g4.1 g4.2 (inr_IX g5) ?_
      refine r_topS (fun S6 hS6 => ?_)
      replace h := lt_e hS6 h
      obtain ⟨x7, hx7⟩ : ∃ y : Int32, y = (v3 + 1 : Int32) := ⟨_, rfl⟩
      replace h := lt_e hx7 h
      refine r_iinc (x := v3) (v := x7) (L' := [some (.ref v0), some (.long v1), none, some (.int x7), some (.int v4)]) dJ7_fill_d0a16_16 rfl (by rw [hx7]; rfl) (Nat.le_of_ble_eq_true rfl) rfl rfl ?_
      refine r_goto (tgt := 6) dJ7_fill_d0a16_19 (by decide) ?_
      exact ih _ _ _ _ h k0
def fJ7_fill_d0a16 (N : Nat) (p0 : Nat) (p1 : Int64) (S : PS) : Option PS :=
  gd (arr p0 4 (ck p0).2) <|
  lt ((Int32.ofNat (ck p0).2) : Int32) fun x2 =>
  bT (fJ7_fill_d0a16_6 N p0 p1 x2 N 0 S) fun q8 =>
  lt (q8.1 : Int32) fun x9 =>
  lt (q8.2 : PS) fun S10 =>
  some S10
set_option maxHeartbeats 4000000 in
set_option maxRecDepth 100000 in
theorem okJ7_fill_d0a16 (N : Nat) (p0 : Nat) (p1 : Int64) (S : PS) (T : PS) (h : fJ7_fill_d0a16 N p0 p1 S = some T) : CT mJ7_fill_d0a16 0 0 [.ref p0, .long p1] S (qV T) := by
  refine ct_of [some (.ref p0), some (.long p1), none, none, none] rfl (fun _ => rfl) (fun _ => Nat.le_of_ble_eq_true rfl) ?_
  unfold fJ7_fill_d0a16 at h
  refine r_iconst (v := 0) dJ7_fill_d0a16_0 rfl ?_
  refine r_istore_n (L' := [some (.ref p0), some (.long p1), none, some (.int 0), none]) dJ7_fill_d0a16_1 (Nat.le_of_ble_eq_true rfl) rfl rfl ?_
  refine r_aload_n (x := p0) dJ7_fill_d0a16_2 rfl ?_
  obtain ⟨g1, h⟩ := gd_e h
  refine r_alen (v := (Int32.ofNat (ck p0).2)) dJ7_fill_d0a16_3 g1.1 (by decide) g1.2 rfl ?_
  refine r_topi (fun x2 hx2 => ?_)
  replace h := lt_e hx2 h
  refine r_istore (L' := [some (.ref p0), some (.long p1), none, some (.int 0), some (.int x2)]) dJ7_fill_d0a16_4 (Nat.le_of_ble_eq_true rfl) rfl rfl ?_
  obtain ⟨⟨x9, S10⟩, h12, h⟩ := bT_e h
  dsimp only at h
  replace h := pl_s (pl_s (h))
  refine okJ7_fill_d0a16_6 N p0 p1 x2 (qV T) 0 (Nat.zero_le _) _ _ _ _ _ h12 ?_
  cases h
  exact r_return dJ7_fill_d0a16_22 rfl (Nat.zero_le _) ⟨rfl, rfl⟩
def fJ7_fill_53178_5 (N : Nat) (v0 : Nat) (v1 : Int32) (v3 : Int32) : Nat → Int32 → PS → Option (Int32 × PS)
  | 0, _, _ => none
  | n + 1, v2, S =>
    (if v3 ≤ v2 then
      some (v2, S)
    else
      gd (arr v0 1 (ck v0).2) <|
      gd (inr v2 (ck v0).2) <|
      lt ((u2 S.1 v0 (ix v2) v1, S.2) : PS) fun S6 =>
      lt (v2 + 1 : Int32) fun x7 =>
      fJ7_fill_53178_5 N v0 v1 v3 n x7 S6)
set_option maxHeartbeats 4000000 in
set_option maxRecDepth 100000 in
theorem okJ7_fill_53178_5 (N : Nat) (v0 : Nat) (v1 : Int32) (v3 : Int32) (Q : OQ) (u : Nat) (hu : u ≤ 0) : ∀ (n : Nat) (v2 : Int32) (S : PS) (y2 : Int32) (T : PS), fJ7_fill_53178_5 N v0 v1 v3 n v2 S = some (y2, T) → WP [] mJ7_fill_53178 0 0 Q 20 [some (.ref v0), some (.int v1), some (.int y2), some (.int v3)] [] T u → WP [] mJ7_fill_53178 0 0 Q 5 [some (.ref v0), some (.int v1), some (.int v2), some (.int v3)] [] S u := by
  intro n
  induction n with
  | zero => intro v2 S y2 T h; rw [fJ7_fill_53178_5] at h; cases h
  | succ n ih =>
    intro v2 S y2 T h k0
    rw [fJ7_fill_53178_5] at h
    refine r_iload_n (x := v2) dJ7_fill_53178_5 rfl ?_
    refine r_iload_n (x := v3) dJ7_fill_53178_6 rfl ?_
    refine r_icmp_ge (tgt := 20) dJ7_fill_53178_7 (by decide) (fun c3 => ?_) (fun c3 => ?_)
    · rw [if_pos c3] at h
      cases h
      exact k0
    · rw [if_neg c3] at h
      refine r_aload_n (x := v0) dJ7_fill_53178_10 rfl ?_
      refine r_iload_n (x := v2) dJ7_fill_53178_11 rfl ?_
      refine r_iload_n (x := v1) dJ7_fill_53178_12 rfl ?_
      obtain ⟨g4, h⟩ := gd_e h
      obtain ⟨g5, h⟩ := gd_e h
      refine r_iastore (a := v0) dJ7_fill_53178_13 g4.1 g4.2 (inr_IX g5) ?_
      refine r_topS (fun S6 hS6 => ?_)
      replace h := lt_e hS6 h
      obtain ⟨x7, hx7⟩ : ∃ y : Int32, y = (v2 + 1 : Int32) := ⟨_, rfl⟩
      replace h := lt_e hx7 h
      refine r_iinc (x := v2) (v := x7) (L' := [some (.ref v0), some (.int v1), some (.int x7), some (.int v3)]) dJ7_fill_53178_14 rfl (by rw [hx7]; rfl) (Nat.le_of_ble_eq_true rfl) rfl rfl ?_
      refine r_goto (tgt := 5) dJ7_fill_53178_17 (by decide) ?_
      exact ih _ _ _ _ h k0
def fJ7_fill_53178 (N : Nat) (p0 : Nat) (p1 : Int32) (S : PS) : Option PS :=
  gd (arr p0 1 (ck p0).2) <|
  lt ((Int32.ofNat (ck p0).2) : Int32) fun x2 =>
  bT (fJ7_fill_53178_5 N p0 p1 x2 N 0 S) fun q8 =>
  lt (q8.1 : Int32) fun x9 =>
  lt (q8.2 : PS) fun S10 =>
  some S10
set_option maxHeartbeats 4000000 in
set_option maxRecDepth 100000 in
theorem okJ7_fill_53178 (N : Nat) (p0 : Nat) (p1 : Int32) (S : PS) (T : PS) (h : fJ7_fill_53178 N p0 p1 S = some T) : CT mJ7_fill_53178 0 0 [.ref p0, .int p1] S (qV T) := by
  refine ct_of [some (.ref p0), some (.int p1), none, none] rfl (fun _ => rfl) (fun _ => Nat.le_of_ble_eq_true rfl) ?_
  unfold fJ7_fill_53178 at h
  refine r_iconst (v := 0) dJ7_fill_53178_0 rfl ?_
  refine r_istore_n (L' := [some (.ref p0), some (.int p1), some (.int 0), none]) dJ7_fill_53178_1 (Nat.le_of_ble_eq_true rfl) rfl rfl ?_
  refine r_aload_n (x := p0) dJ7_fill_53178_2 rfl ?_
  obtain ⟨g1, h⟩ := gd_e h
  refine r_alen (v := (Int32.ofNat (ck p0).2)) dJ7_fill_53178_3 g1.1 (by decide) g1.2 rfl ?_
  refine r_topi (fun x2 hx2 => ?_)
  replace h := lt_e hx2 h
  refine r_istore_n (L' := [some (.ref p0), some (.int p1), some (.int 0), some (.int x2)]) dJ7_fill_53178_4 (Nat.le_of_ble_eq_true rfl) rfl rfl ?_
  obtain ⟨⟨x9, S10⟩, h12, h⟩ := bT_e h
  dsimp only at h
  replace h := pl_s (pl_s (h))
  refine okJ7_fill_53178_5 N p0 p1 x2 (qV T) 0 (Nat.zero_le _) _ _ _ _ _ h12 ?_
  cases h
  exact r_return dJ7_fill_53178_20 rfl (Nat.zero_le _) ⟨rfl, rfl⟩
def fX0_keep (N : Nat) (p : Nat) (p0 : Nat) (S : PS) : Option PS :=
  gd (obj p 0) <|
  (if (S.1 p 1) = 40 then
    gd (obj p 0) <|
    gd (obj p 0) <|
    gd (obj p 0) <|
    gd (arr (sr p 0) 1 1920) <|
    gd (arr (sr p 0) 1 1920) <|
    gd (arr (sr p 0) 1 1920) <|
    gd ((0 ≤ (48 : Int32) ∧ 0 ≤ (0 : Int32) ∧ 0 ≤ (((1920 : Int32) - 48) : Int32)) ∧ ix 48 + ix ((1920 : Int32) - 48) ≤ 1920 ∧ ix 0 + ix ((1920 : Int32) - 48) ≤ 1920) <|
    lt ((urow S.1 (sr p 0) (va_cpy (S.1 (sr p 0)) (S.1 (sr p 0)) (ix 48) (ix 0) (ix ((1920 : Int32) - 48))), S.2) : PS) fun S19 =>
    gd (obj p 0) <|
    gd (obj p 0) <|
    lt ((u2 S19.1 p 1 ((S19.1 p 1) - 1), S19.2) : PS) fun S22 =>
    gd (obj p 0) <|
    gd (obj p 0) <|
    gd (obj p0 2) <|
    bV (fX2_save N p0 (sr p 0) ((S22.1 p 1) * 48) S22) fun S26 =>
    gd (obj p 0) <|
    gd (obj p 0) <|
    lt ((u2 S26.1 p 1 ((S26.1 p 1) + 1), S26.2) : PS) fun S31 =>
    some S31
  else
    gd (obj p 0) <|
    gd (obj p 0) <|
    gd (obj p0 2) <|
    bV (fX2_save N p0 (sr p 0) ((S.1 p 1) * 48) S) fun S6 =>
    gd (obj p 0) <|
    gd (obj p 0) <|
    lt ((u2 S6.1 p 1 ((S6.1 p 1) + 1), S6.2) : PS) fun S11 =>
    some S11)
set_option maxHeartbeats 4000000 in
set_option maxRecDepth 100000 in
theorem okX0_keep (N : Nat) (p : Nat) (p0 : Nat) (S : PS) (T : PS) (h : fX0_keep N p p0 S = some T) : CT mX0_keep 4 0 [.ref p, .ref p0] S (qV T) := by
  refine ct_of [some (.ref p), some (.ref p0)] rfl (fun _ => rfl) (fun _ => Nat.le_of_ble_eq_true rfl) ?_
  unfold fX0_keep at h
  refine r_aload_n (x := p) dX0_keep_0 rfl ?_
  obtain ⟨g1, h⟩ := gd_e h
  refine r_getfield (o := p) (v := .int (S.1 p 1)) dX0_keep_1 lX0_17 g1.1 g1.2 rfl ?_
  refine r_bipush (v := 40) dX0_keep_4 rfl ?_
  refine r_icmp_ne (tgt := 41) dX0_keep_6 (by decide) (fun c2 => ?_) (fun c2 => ?_)
  · rw [if_neg c2] at h
    refine r_aload_n (x := p0) dX0_keep_41 rfl ?_
    refine r_aload_n (x := p) dX0_keep_42 rfl ?_
    obtain ⟨g3, h⟩ := gd_e h
    refine r_getfield (o := p) (v := .ref (sr p 0)) dX0_keep_43 lX0_11 g3.1 g3.2 rfl ?_
    refine r_aload_n (x := p) dX0_keep_46 rfl ?_
    obtain ⟨g4, h⟩ := gd_e h
    refine r_getfield (o := p) (v := .int (S.1 p 1)) dX0_keep_47 lX0_17 g4.1 g4.2 rfl ?_
    refine r_bipush (v := 48) dX0_keep_50 rfl ?_
    refine r_imul dX0_keep_52 ?_
    obtain ⟨g8, h⟩ := gd_e h
    obtain ⟨S6, h7, h⟩ := bV_e h
    refine r_cVV (y := mX2_save) (As := [.ref (sr p 0), .int ((S.1 p 1) * 48)]) (rest := []) dX0_keep_53 qX0_27 kX2_save rfl g8 vc2 rfl (okX2_save N p0 (sr p 0) ((S.1 p 1) * 48) S S6 h7) (by decide) (Nat.zero_le _) rfl (Nat.le_of_ble_eq_true rfl) ?_
    refine r_aload_n (x := p) dX0_keep_56 rfl ?_
    refine r_dup_ref dX0_keep_57 ?_
    obtain ⟨g9, h⟩ := gd_e h
    refine r_getfield (o := p) (v := .int (S6.1 p 1)) dX0_keep_58 lX0_17 g9.1 g9.2 rfl ?_
    refine r_iconst (v := 1) dX0_keep_61 rfl ?_
    refine r_iadd dX0_keep_62 ?_
    obtain ⟨g10, h⟩ := gd_e h
    refine r_putI dX0_keep_63 lX0_17 g10.1 g10.2 ?_
    refine r_topS (fun S11 hS11 => ?_)
    replace h := lt_e hS11 h
    cases h
    exact r_return dX0_keep_66 rfl (Nat.zero_le _) ⟨rfl, rfl⟩
  · rw [if_pos c2] at h
    refine r_aload_n (x := p) dX0_keep_9 rfl ?_
    obtain ⟨g12, h⟩ := gd_e h
    refine r_getfield (o := p) (v := .ref (sr p 0)) dX0_keep_10 lX0_11 g12.1 g12.2 rfl ?_
    refine r_bipush (v := 48) dX0_keep_13 rfl ?_
    refine r_aload_n (x := p) dX0_keep_15 rfl ?_
    obtain ⟨g13, h⟩ := gd_e h
    refine r_getfield (o := p) (v := .ref (sr p 0)) dX0_keep_16 lX0_11 g13.1 g13.2 rfl ?_
    refine r_iconst (v := 0) dX0_keep_19 rfl ?_
    refine r_aload_n (x := p) dX0_keep_20 rfl ?_
    obtain ⟨g14, h⟩ := gd_e h
    refine r_getfield (o := p) (v := .ref (sr p 0)) dX0_keep_21 lX0_11 g14.1 g14.2 rfl ?_
    obtain ⟨g15, h⟩ := gd_e h
    refine r_alen (v := 1920) dX0_keep_24 g15.1 (by decide) g15.2 rfl ?_
    refine r_bipush (v := 48) dX0_keep_25 rfl ?_
    refine r_isub dX0_keep_27 ?_
    obtain ⟨g16, h⟩ := gd_e h
    obtain ⟨g17, h⟩ := gd_e h
    obtain ⟨g18, h⟩ := gd_e h
    refine r_arraycopy (a := (sr p 0)) (b := (sr p 0)) dX0_keep_28 qX0_21 ⟨g16.1, g16.2⟩ ⟨g17.1, g17.2⟩ g18 (by decide) (Nat.le_of_ble_eq_true rfl) ?_
    refine r_topS (fun S19 hS19 => ?_)
    replace h := lt_e hS19 h
    refine r_aload_n (x := p) dX0_keep_31 rfl ?_
    refine r_dup_ref dX0_keep_32 ?_
    obtain ⟨g20, h⟩ := gd_e h
    refine r_getfield (o := p) (v := .int (S19.1 p 1)) dX0_keep_33 lX0_17 g20.1 g20.2 rfl ?_
    refine r_iconst (v := 1) dX0_keep_36 rfl ?_
    refine r_isub dX0_keep_37 ?_
    obtain ⟨g21, h⟩ := gd_e h
    refine r_putI dX0_keep_38 lX0_17 g21.1 g21.2 ?_
    refine r_topS (fun S22 hS22 => ?_)
    replace h := lt_e hS22 h
    refine r_aload_n (x := p0) dX0_keep_41 rfl ?_
    refine r_aload_n (x := p) dX0_keep_42 rfl ?_
    obtain ⟨g23, h⟩ := gd_e h
    refine r_getfield (o := p) (v := .ref (sr p 0)) dX0_keep_43 lX0_11 g23.1 g23.2 rfl ?_
    refine r_aload_n (x := p) dX0_keep_46 rfl ?_
    obtain ⟨g24, h⟩ := gd_e h
    refine r_getfield (o := p) (v := .int (S22.1 p 1)) dX0_keep_47 lX0_17 g24.1 g24.2 rfl ?_
    refine r_bipush (v := 48) dX0_keep_50 rfl ?_
    refine r_imul dX0_keep_52 ?_
    obtain ⟨g28, h⟩ := gd_e h
    obtain ⟨S26, h27, h⟩ := bV_e h
    refine r_cVV (y := mX2_save) (As := [.ref (sr p 0), .int ((S22.1 p 1) * 48)]) (rest := []) dX0_keep_53 qX0_27 kX2_save rfl g28 vc2 rfl (okX2_save N p0 (sr p 0) ((S22.1 p 1) * 48) S22 S26 h27) (by decide) (Nat.zero_le _) rfl (Nat.le_of_ble_eq_true rfl) ?_
    refine r_aload_n (x := p) dX0_keep_56 rfl ?_
    refine r_dup_ref dX0_keep_57 ?_
    obtain ⟨g29, h⟩ := gd_e h
    refine r_getfield (o := p) (v := .int (S26.1 p 1)) dX0_keep_58 lX0_17 g29.1 g29.2 rfl ?_
    refine r_iconst (v := 1) dX0_keep_61 rfl ?_
    refine r_iadd dX0_keep_62 ?_
    obtain ⟨g30, h⟩ := gd_e h
    refine r_putI dX0_keep_63 lX0_17 g30.1 g30.2 ?_
    refine r_topS (fun S31 hS31 => ?_)
    replace h := lt_e hS31 h
    cases h
    exact r_return dX0_keep_66 rfl (Nat.zero_le _) ⟨rfl, rfl⟩
def fX0_takeBack (N : Nat) (p : Nat) (p0 : Nat) (S : PS) : Option PS :=
  gd (obj p 0) <|
  (if (S.1 p 1) ≤ 0 then
    some S
  else
    gd (obj p 0) <|
    gd (obj p 0) <|
    lt ((u2 S.1 p 1 ((S.1 p 1) - 1), S.2) : PS) fun S5 =>
    gd (obj p 0) <|
    gd (obj p 0) <|
    gd (obj p0 2) <|
    bV (fX2_load N p0 (sr p 0) ((S5.1 p 1) * 48) S5) fun S9 =>
    some S9)
set_option maxHeartbeats 4000000 in
set_option maxRecDepth 100000 in
theorem okX0_takeBack (N : Nat) (p : Nat) (p0 : Nat) (S : PS) (T : PS) (h : fX0_takeBack N p p0 S = some T) : CT mX0_takeBack 4 0 [.ref p, .ref p0] S (qV T) := by
  refine ct_of [some (.ref p), some (.ref p0)] rfl (fun _ => rfl) (fun _ => Nat.le_of_ble_eq_true rfl) ?_
  unfold fX0_takeBack at h
  refine r_aload_n (x := p) dX0_takeBack_0 rfl ?_
  obtain ⟨g1, h⟩ := gd_e h
  refine r_getfield (o := p) (v := .int (S.1 p 1)) dX0_takeBack_1 lX0_17 g1.1 g1.2 rfl ?_
  refine r_if_le (tgt := 32) dX0_takeBack_4 (by decide) (fun c2 => ?_) (fun c2 => ?_)
  · rw [if_pos c2] at h
    cases h
    exact r_return dX0_takeBack_32 rfl (Nat.zero_le _) ⟨rfl, rfl⟩
  · rw [if_neg c2] at h
    refine r_aload_n (x := p) dX0_takeBack_7 rfl ?_
    refine r_dup_ref dX0_takeBack_8 ?_
    obtain ⟨g3, h⟩ := gd_e h
    refine r_getfield (o := p) (v := .int (S.1 p 1)) dX0_takeBack_9 lX0_17 g3.1 g3.2 rfl ?_
    refine r_iconst (v := 1) dX0_takeBack_12 rfl ?_
    refine r_isub dX0_takeBack_13 ?_
    obtain ⟨g4, h⟩ := gd_e h
    refine r_putI dX0_takeBack_14 lX0_17 g4.1 g4.2 ?_
    refine r_topS (fun S5 hS5 => ?_)
    replace h := lt_e hS5 h
    refine r_aload_n (x := p0) dX0_takeBack_17 rfl ?_
    refine r_aload_n (x := p) dX0_takeBack_18 rfl ?_
    obtain ⟨g6, h⟩ := gd_e h
    refine r_getfield (o := p) (v := .ref (sr p 0)) dX0_takeBack_19 lX0_11 g6.1 g6.2 rfl ?_
    refine r_aload_n (x := p) dX0_takeBack_22 rfl ?_
    obtain ⟨g7, h⟩ := gd_e h
    refine r_getfield (o := p) (v := .int (S5.1 p 1)) dX0_takeBack_23 lX0_17 g7.1 g7.2 rfl ?_
    refine r_bipush (v := 48) dX0_takeBack_26 rfl ?_
    refine r_imul dX0_takeBack_28 ?_
    obtain ⟨g11, h⟩ := gd_e h
    obtain ⟨S9, h10, h⟩ := bV_e h
    refine r_cVV (y := mX2_load) (As := [.ref (sr p 0), .int ((S5.1 p 1) * 48)]) (rest := []) dX0_takeBack_29 qX0_31 kX2_load rfl g11 vc2 rfl (okX2_load N p0 (sr p 0) ((S5.1 p 1) * 48) S5 S9 h10) (by decide) (Nat.zero_le _) rfl (Nat.le_of_ble_eq_true rfl) ?_
    cases h
    exact r_return dX0_takeBack_32 rfl (Nat.zero_le _) ⟨rfl, rfl⟩
def fX2_clear (N : Nat) (p : Nat) (S : PS) : Option PS :=
  gd (obj p 2) <|
  bV (fJ7_fill_53178 N (sr p 0) 1 S) fun S3 =>
  gd (obj p 2) <|
  bV (fJ7_fill_53178 N (sr p 1) 0 S3) fun S7 =>
  gd (obj p 2) <|
  bV (fJ7_fill_53178 N (sr p 2) (-1) S7) fun S11 =>
  gd (obj p 2) <|
  bV (fJ7_fill_53178 N (sr p 3) (-1) S11) fun S15 =>
  gd (obj p 2) <|
  bV (fJ7_fill_53178 N (sr p 4) 0 S15) fun S19 =>
  gd (obj p 2) <|
  lt ((u2 S19.1 p 6 0, S19.2) : PS) fun S22 =>
  gd (obj p 2) <|
  lt ((u2 S22.1 p 7 0, S22.2) : PS) fun S24 =>
  gd (obj p 2) <|
  lt ((u2 S24.1 p 8 0, S24.2) : PS) fun S26 =>
  some S26
set_option maxHeartbeats 4000000 in
set_option maxRecDepth 100000 in
theorem okX2_clear (N : Nat) (p : Nat) (S : PS) (T : PS) (h : fX2_clear N p S = some T) : CT mX2_clear 1 0 [.ref p] S (qV T) := by
  refine ct_of [some (.ref p)] rfl (fun _ => rfl) (fun _ => Nat.le_of_ble_eq_true rfl) ?_
  unfold fX2_clear at h
  refine r_aload_n (x := p) dX2_clear_0 rfl ?_
  obtain ⟨g1, h⟩ := gd_e h
  refine r_getfield (o := p) (v := .ref (sr p 0)) dX2_clear_1 lX2_9 g1.1 g1.2 rfl ?_
  refine r_iconst (v := 1) dX2_clear_4 rfl ?_
  obtain ⟨S3, h4, h⟩ := bV_e h
  refine r_cSV (y := mJ7_fill_53178) (As := [.ref (sr p 0), .int 1]) (rest := []) dX2_clear_5 qX2_43 kJ7_fill_53178 rfl (okJ7_fill_53178 N (sr p 0) 1 S S3 h4) (by decide) (Nat.zero_le _) rfl (Nat.le_of_ble_eq_true rfl) ?_
  refine r_aload_n (x := p) dX2_clear_8 rfl ?_
  obtain ⟨g5, h⟩ := gd_e h
  refine r_getfield (o := p) (v := .ref (sr p 1)) dX2_clear_9 lX2_15 g5.1 g5.2 rfl ?_
  refine r_iconst (v := 0) dX2_clear_12 rfl ?_
  obtain ⟨S7, h8, h⟩ := bV_e h
  refine r_cSV (y := mJ7_fill_53178) (As := [.ref (sr p 1), .int 0]) (rest := []) dX2_clear_13 qX2_43 kJ7_fill_53178 rfl (okJ7_fill_53178 N (sr p 1) 0 S3 S7 h8) (by decide) (Nat.zero_le _) rfl (Nat.le_of_ble_eq_true rfl) ?_
  refine r_aload_n (x := p) dX2_clear_16 rfl ?_
  obtain ⟨g9, h⟩ := gd_e h
  refine r_getfield (o := p) (v := .ref (sr p 2)) dX2_clear_17 lX2_18 g9.1 g9.2 rfl ?_
  refine r_iconst (v := (-1)) dX2_clear_20 rfl ?_
  obtain ⟨S11, h12, h⟩ := bV_e h
  refine r_cSV (y := mJ7_fill_53178) (As := [.ref (sr p 2), .int (-1)]) (rest := []) dX2_clear_21 qX2_43 kJ7_fill_53178 rfl (okJ7_fill_53178 N (sr p 2) (-1) S7 S11 h12) (by decide) (Nat.zero_le _) rfl (Nat.le_of_ble_eq_true rfl) ?_
  refine r_aload_n (x := p) dX2_clear_24 rfl ?_
  obtain ⟨g13, h⟩ := gd_e h
  refine r_getfield (o := p) (v := .ref (sr p 3)) dX2_clear_25 lX2_21 g13.1 g13.2 rfl ?_
  refine r_iconst (v := (-1)) dX2_clear_28 rfl ?_
  obtain ⟨S15, h16, h⟩ := bV_e h
  refine r_cSV (y := mJ7_fill_53178) (As := [.ref (sr p 3), .int (-1)]) (rest := []) dX2_clear_29 qX2_43 kJ7_fill_53178 rfl (okJ7_fill_53178 N (sr p 3) (-1) S11 S15 h16) (by decide) (Nat.zero_le _) rfl (Nat.le_of_ble_eq_true rfl) ?_
  refine r_aload_n (x := p) dX2_clear_32 rfl ?_
  obtain ⟨g17, h⟩ := gd_e h
  refine r_getfield (o := p) (v := .ref (sr p 4)) dX2_clear_33 lX2_24 g17.1 g17.2 rfl ?_
  refine r_iconst (v := 0) dX2_clear_36 rfl ?_
  obtain ⟨S19, h20, h⟩ := bV_e h
  refine r_cSV (y := mJ7_fill_53178) (As := [.ref (sr p 4), .int 0]) (rest := []) dX2_clear_37 qX2_43 kJ7_fill_53178 rfl (okJ7_fill_53178 N (sr p 4) 0 S15 S19 h20) (by decide) (Nat.zero_le _) rfl (Nat.le_of_ble_eq_true rfl) ?_
  refine r_aload_n (x := p) dX2_clear_40 rfl ?_
  refine r_iconst (v := 0) dX2_clear_41 rfl ?_
  obtain ⟨g21, h⟩ := gd_e h
  refine r_putI dX2_clear_42 lX2_30 g21.1 g21.2 ?_
  refine r_topS (fun S22 hS22 => ?_)
  replace h := lt_e hS22 h
  refine r_aload_n (x := p) dX2_clear_45 rfl ?_
  refine r_iconst (v := 0) dX2_clear_46 rfl ?_
  obtain ⟨g23, h⟩ := gd_e h
  refine r_putI dX2_clear_47 lX2_34 g23.1 g23.2 ?_
  refine r_topS (fun S24 hS24 => ?_)
  replace h := lt_e hS24 h
  refine r_aload_n (x := p) dX2_clear_50 rfl ?_
  refine r_iconst (v := 0) dX2_clear_51 rfl ?_
  obtain ⟨g25, h⟩ := gd_e h
  refine r_putI dX2_clear_52 lX2_37 g25.1 g25.2 ?_
  refine r_topS (fun S26 hS26 => ?_)
  replace h := lt_e hS26 h
  cases h
  exact r_return dX2_clear_55 rfl (Nat.zero_le _) ⟨rfl, rfl⟩
def fX2_isPlugged (N : Nat) (p : Nat) (p0 : Int32) (S : PS) : Option (Int32 × PS) :=
  gd (obj p 2) <|
  bI (fX11_has N (S.1 p 7) p0 S) fun x2 S3 =>
  gd (b01 x2) <|
  some (x2, S3)
set_option maxHeartbeats 4000000 in
set_option maxRecDepth 100000 in
theorem okX2_isPlugged (N : Nat) (p : Nat) (p0 : Int32) (S : PS) (r : Int32) (T : PS) (h : fX2_isPlugged N p p0 S = some (r, T)) : CT mX2_isPlugged 1 0 [.ref p, .int p0] S (qI r T) := by
  refine ct_of [some (.ref p), some (.int p0)] rfl (fun _ => rfl) (fun _ => Nat.le_of_ble_eq_true rfl) ?_
  unfold fX2_isPlugged at h
  refine r_aload_n (x := p) dX2_isPlugged_0 rfl ?_
  obtain ⟨g1, h⟩ := gd_e h
  refine r_getfield (o := p) (v := .int (S.1 p 7)) dX2_isPlugged_1 lX2_34 g1.1 g1.2 rfl ?_
  refine r_iload_n (x := p0) dX2_isPlugged_4 rfl ?_
  obtain ⟨x2, S3, h4, h⟩ := bI_e h
  refine r_cNI (y := mX11_has) (As := [.int (S.1 p 7), .int p0]) (rest := []) (host := "DripCups") dX2_isPlugged_5 (by decide) kX11_has rfl (okX11_has N (S.1 p 7) p0 S x2 S3 h4) (by decide) (Nat.zero_le _) rfl (Nat.le_of_ble_eq_true rfl) ?_
  obtain ⟨g5, h⟩ := gd_e h
  cases h
  exact r_zreturn dX2_isPlugged_8 rfl (nar01 g5) (Nat.zero_le _) ⟨rfl, rfl⟩
def fX2_setPlugged (N : Nat) (p : Nat) (p0 : Int32) (p1 : Int32) (S : PS) : Option PS :=
  (if p1 = 0 then
    gd (obj p 2) <|
    bI (fX11_bitOf N p0 S) fun x3 S4 =>
    gd (obj p 2) <|
    lt ((u2 S4.1 p 7 ((S.1 p 7) &&& (x3 ^^^ (-1))), S4.2) : PS) fun S7 =>
    some S7
  else
    gd (obj p 2) <|
    bI (fX11_bitOf N p0 S) fun x9 S10 =>
    gd (obj p 2) <|
    lt ((u2 S10.1 p 7 ((S.1 p 7) ||| x9), S10.2) : PS) fun S13 =>
    some S13)
set_option maxHeartbeats 4000000 in
set_option maxRecDepth 100000 in
theorem okX2_setPlugged (N : Nat) (p : Nat) (p0 : Int32) (p1 : Int32) (S : PS) (T : PS) (h : fX2_setPlugged N p p0 p1 S = some T) : CT mX2_setPlugged 1 0 [.ref p, .int p0, .int p1] S (qV T) := by
  refine ct_of [some (.ref p), some (.int p0), some (.int p1)] rfl (fun _ => rfl) (fun _ => Nat.le_of_ble_eq_true rfl) ?_
  unfold fX2_setPlugged at h
  refine r_aload_n (x := p) dX2_setPlugged_0 rfl ?_
  refine r_iload_n (x := p1) dX2_setPlugged_1 rfl ?_
  refine r_if_eq (tgt := 17) dX2_setPlugged_2 (by decide) (fun c1 => ?_) (fun c1 => ?_)
  · rw [if_pos c1] at h
    refine r_aload_n (x := p) dX2_setPlugged_17 rfl ?_
    obtain ⟨g2, h⟩ := gd_e h
    refine r_getfield (o := p) (v := .int (S.1 p 7)) dX2_setPlugged_18 lX2_34 g2.1 g2.2 rfl ?_
    refine r_iload_n (x := p0) dX2_setPlugged_21 rfl ?_
    obtain ⟨x3, S4, h5, h⟩ := bI_e h
    refine r_cNI (y := mX11_bitOf) (As := [.int p0]) (rest := [.int (S.1 p 7), .ref p]) (host := "DripCups") dX2_setPlugged_22 (by decide) kX11_bitOf rfl (okX11_bitOf N p0 S x3 S4 h5) (by decide) (Nat.zero_le _) rfl (Nat.le_of_ble_eq_true rfl) ?_
    refine r_iconst (v := (-1)) dX2_setPlugged_25 rfl ?_
    refine r_ixor dX2_setPlugged_26 ?_
    refine r_iand dX2_setPlugged_27 ?_
    obtain ⟨g6, h⟩ := gd_e h
    refine r_putI dX2_setPlugged_28 lX2_34 g6.1 g6.2 ?_
    refine r_topS (fun S7 hS7 => ?_)
    replace h := lt_e hS7 h
    cases h
    exact r_return dX2_setPlugged_31 rfl (Nat.zero_le _) ⟨rfl, rfl⟩
  · rw [if_neg c1] at h
    refine r_aload_n (x := p) dX2_setPlugged_5 rfl ?_
    obtain ⟨g8, h⟩ := gd_e h
    refine r_getfield (o := p) (v := .int (S.1 p 7)) dX2_setPlugged_6 lX2_34 g8.1 g8.2 rfl ?_
    refine r_iload_n (x := p0) dX2_setPlugged_9 rfl ?_
    obtain ⟨x9, S10, h11, h⟩ := bI_e h
    refine r_cNI (y := mX11_bitOf) (As := [.int p0]) (rest := [.int (S.1 p 7), .ref p]) (host := "DripCups") dX2_setPlugged_10 (by decide) kX11_bitOf rfl (okX11_bitOf N p0 S x9 S10 h11) (by decide) (Nat.zero_le _) rfl (Nat.le_of_ble_eq_true rfl) ?_
    refine r_ior dX2_setPlugged_13 ?_
    refine r_goto (tgt := 28) dX2_setPlugged_14 (by decide) ?_
    obtain ⟨g12, h⟩ := gd_e h
    refine r_putI dX2_setPlugged_28 lX2_34 g12.1 g12.2 ?_
    refine r_topS (fun S13 hS13 => ?_)
    replace h := lt_e hS13 h
    cases h
    exact r_return dX2_setPlugged_31 rfl (Nat.zero_le _) ⟨rfl, rfl⟩
def fX2_setInto (N : Nat) (p : Nat) (p0 : Int32) (p1 : Int32) (S : PS) : Option PS :=
  gd (obj p 2) <|
  gd (arr (sr p 2) 1 9) <|
  gd (inr p0 9) <|
  lt ((u2 S.1 (sr p 2) (ix p0) p1, S.2) : PS) fun S4 =>
  gd (obj p 2) <|
  gd (arr (sr p 3) 1 9) <|
  gd (inr p0 9) <|
  lt ((u2 S4.1 (sr p 3) (ix p0) (-1), S4.2) : PS) fun S8 =>
  gd (obj p 2) <|
  bI (fX11_bitOf N p0 S8) fun x10 S11 =>
  gd (obj p 2) <|
  lt ((u2 S11.1 p 8 ((S8.1 p 8) &&& (x10 ^^^ (-1))), S11.2) : PS) fun S14 =>
  some S14
set_option maxHeartbeats 4000000 in
set_option maxRecDepth 100000 in
theorem okX2_setInto (N : Nat) (p : Nat) (p0 : Int32) (p1 : Int32) (S : PS) (T : PS) (h : fX2_setInto N p p0 p1 S = some T) : CT mX2_setInto 1 0 [.ref p, .int p0, .int p1] S (qV T) := by
  refine ct_of [some (.ref p), some (.int p0), some (.int p1)] rfl (fun _ => rfl) (fun _ => Nat.le_of_ble_eq_true rfl) ?_
  unfold fX2_setInto at h
  refine r_aload_n (x := p) dX2_setInto_0 rfl ?_
  obtain ⟨g1, h⟩ := gd_e h
  refine r_getfield (o := p) (v := .ref (sr p 2)) dX2_setInto_1 lX2_18 g1.1 g1.2 rfl ?_
  refine r_iload_n (x := p0) dX2_setInto_4 rfl ?_
  refine r_iload_n (x := p1) dX2_setInto_5 rfl ?_
  obtain ⟨g2, h⟩ := gd_e h
  obtain ⟨g3, h⟩ := gd_e h
  refine r_iastore (a := (sr p 2)) dX2_setInto_6 g2.1 g2.2 (inr_IX g3) ?_
  refine r_topS (fun S4 hS4 => ?_)
  replace h := lt_e hS4 h
  refine r_aload_n (x := p) dX2_setInto_7 rfl ?_
  obtain ⟨g5, h⟩ := gd_e h
  refine r_getfield (o := p) (v := .ref (sr p 3)) dX2_setInto_8 lX2_21 g5.1 g5.2 rfl ?_
  refine r_iload_n (x := p0) dX2_setInto_11 rfl ?_
  refine r_iconst (v := (-1)) dX2_setInto_12 rfl ?_
  obtain ⟨g6, h⟩ := gd_e h
  obtain ⟨g7, h⟩ := gd_e h
  refine r_iastore (a := (sr p 3)) dX2_setInto_13 g6.1 g6.2 (inr_IX g7) ?_
  refine r_topS (fun S8 hS8 => ?_)
  replace h := lt_e hS8 h
  refine r_aload_n (x := p) dX2_setInto_14 rfl ?_
  refine r_dup_ref dX2_setInto_15 ?_
  obtain ⟨g9, h⟩ := gd_e h
  refine r_getfield (o := p) (v := .int (S8.1 p 8)) dX2_setInto_16 lX2_37 g9.1 g9.2 rfl ?_
  refine r_iload_n (x := p0) dX2_setInto_19 rfl ?_
  obtain ⟨x10, S11, h12, h⟩ := bI_e h
  refine r_cNI (y := mX11_bitOf) (As := [.int p0]) (rest := [.int (S8.1 p 8), .ref p]) (host := "DripCups") dX2_setInto_20 (by decide) kX11_bitOf rfl (okX11_bitOf N p0 S8 x10 S11 h12) (by decide) (Nat.zero_le _) rfl (Nat.le_of_ble_eq_true rfl) ?_
  refine r_iconst (v := (-1)) dX2_setInto_23 rfl ?_
  refine r_ixor dX2_setInto_24 ?_
  refine r_iand dX2_setInto_25 ?_
  obtain ⟨g13, h⟩ := gd_e h
  refine r_putI dX2_setInto_26 lX2_37 g13.1 g13.2 ?_
  refine r_topS (fun S14 hS14 => ?_)
  replace h := lt_e hS14 h
  cases h
  exact r_return dX2_setInto_29 rfl (Nat.zero_le _) ⟨rfl, rfl⟩
def fX2_straightBelow (N : Nat) (p : Nat) (p0 : Int32) (S : PS) : Option (Int32 × PS) :=
  gd (obj p 2) <|
  gd (arr (sr p 2) 1 9) <|
  gd (inr p0 9) <|
  bI (fX11_bitOf N (S.1 (sr p 2) (ix p0)) S) fun x4 S5 =>
  gd (obj p 2) <|
  gd (arr (sr p 3) 1 9) <|
  gd (inr p0 9) <|
  bI (fX11_bitOf N (S5.1 (sr p 3) (ix p0)) S5) fun x10 S11 =>
  some ((x4 ||| x10), S11)
set_option maxHeartbeats 4000000 in
set_option maxRecDepth 100000 in
theorem okX2_straightBelow (N : Nat) (p : Nat) (p0 : Int32) (S : PS) (r : Int32) (T : PS) (h : fX2_straightBelow N p p0 S = some (r, T)) : CT mX2_straightBelow 1 0 [.ref p, .int p0] S (qI r T) := by
  refine ct_of [some (.ref p), some (.int p0)] rfl (fun _ => rfl) (fun _ => Nat.le_of_ble_eq_true rfl) ?_
  unfold fX2_straightBelow at h
  refine r_aload_n (x := p) dX2_straightBelow_0 rfl ?_
  obtain ⟨g1, h⟩ := gd_e h
  refine r_getfield (o := p) (v := .ref (sr p 2)) dX2_straightBelow_1 lX2_18 g1.1 g1.2 rfl ?_
  refine r_iload_n (x := p0) dX2_straightBelow_4 rfl ?_
  obtain ⟨g2, h⟩ := gd_e h
  obtain ⟨g3, h⟩ := gd_e h
  refine r_iaload (a := (sr p 2)) dX2_straightBelow_5 g2.1 g2.2 (inr_IX g3) ?_
  obtain ⟨x4, S5, h6, h⟩ := bI_e h
  refine r_cNI (y := mX11_bitOf) (As := [.int (S.1 (sr p 2) (ix p0))]) (rest := []) (host := "DripCups") dX2_straightBelow_6 (by decide) kX11_bitOf rfl (okX11_bitOf N (S.1 (sr p 2) (ix p0)) S x4 S5 h6) (by decide) (Nat.zero_le _) rfl (Nat.le_of_ble_eq_true rfl) ?_
  refine r_aload_n (x := p) dX2_straightBelow_9 rfl ?_
  obtain ⟨g7, h⟩ := gd_e h
  refine r_getfield (o := p) (v := .ref (sr p 3)) dX2_straightBelow_10 lX2_21 g7.1 g7.2 rfl ?_
  refine r_iload_n (x := p0) dX2_straightBelow_13 rfl ?_
  obtain ⟨g8, h⟩ := gd_e h
  obtain ⟨g9, h⟩ := gd_e h
  refine r_iaload (a := (sr p 3)) dX2_straightBelow_14 g8.1 g8.2 (inr_IX g9) ?_
  obtain ⟨x10, S11, h12, h⟩ := bI_e h
  refine r_cNI (y := mX11_bitOf) (As := [.int (S5.1 (sr p 3) (ix p0))]) (rest := [.int x4]) (host := "DripCups") dX2_straightBelow_15 (by decide) kX11_bitOf rfl (okX11_bitOf N (S5.1 (sr p 3) (ix p0)) S5 x10 S11 h12) (by decide) (Nat.zero_le _) rfl (Nat.le_of_ble_eq_true rfl) ?_
  refine r_ior dX2_straightBelow_18 ?_
  cases h
  exact r_ireturn dX2_straightBelow_19 rfl (Nat.zero_le _) ⟨rfl, rfl⟩
def fX2_allBelow_10 (N : Nat) (v0 : Nat) (v1 : Int32) : Nat → Int32 → Int32 → PS → Option (Int32 × Int32 × PS)
  | 0, _, _, _ => none
  | n + 1, v2, v3, S =>
    (if 9 ≤ v3 then
      some (v2, v3, S)
    else
      bI (fX11_has N v2 v3 S) fun x7 S8 =>
      (if x7 = 0 then
        lt (v3 + 1 : Int32) fun x11 =>
        fX2_allBelow_10 N v0 v1 n v2 x11 S8
      else
        gd (obj v0 2) <|
        bI (fX2_straightBelow N v0 v3 S8) fun x12 S13 =>
        lt ((v2 ||| x12) : Int32) fun x16 =>
        lt (v3 + 1 : Int32) fun x17 =>
        fX2_allBelow_10 N v0 v1 n x16 x17 S13))
set_option maxHeartbeats 4000000 in
set_option maxRecDepth 100000 in
theorem okX2_allBelow_10 (N : Nat) (v0 : Nat) (v1 : Int32) (Q : OQ) (u : Nat) (hu : u ≤ 0) : ∀ (n : Nat) (v2 : Int32) (v3 : Int32) (S : PS) (y2 : Int32) (y3 : Int32) (T : PS), fX2_allBelow_10 N v0 v1 n v2 v3 S = some (y2, y3, T) → WP [] mX2_allBelow 2 0 Q 38 [some (.ref v0), some (.int v1), some (.int y2), some (.int y3)] [] T u → WP [] mX2_allBelow 2 0 Q 10 [some (.ref v0), some (.int v1), some (.int v2), some (.int v3)] [] S u := by
  intro n
  induction n with
  | zero => intro v2 v3 S y2 y3 T h; rw [fX2_allBelow_10] at h; cases h
  | succ n ih =>
    intro v2 v3 S y2 y3 T h k0
    rw [fX2_allBelow_10] at h
    refine r_iload_n (x := v3) dX2_allBelow_10 rfl ?_
    refine r_bipush (v := 9) dX2_allBelow_11 rfl ?_
    refine r_icmp_ge (tgt := 38) dX2_allBelow_13 (by decide) (fun c6 => ?_) (fun c6 => ?_)
    · rw [if_pos c6] at h
      cases h
      exact k0
    · rw [if_neg c6] at h
      refine r_iload_n (x := v2) dX2_allBelow_16 rfl ?_
      refine r_iload_n (x := v3) dX2_allBelow_17 rfl ?_
      obtain ⟨x7, S8, h9, h⟩ := bI_e h
      refine r_cNI (y := mX11_has) (As := [.int v2, .int v3]) (rest := []) (host := "DripCups") dX2_allBelow_18 (by decide) kX11_has rfl (okX11_has N v2 v3 S x7 S8 h9) (by decide) hu rfl (Nat.le_of_ble_eq_true rfl) ?_
      refine r_if_eq (tgt := 32) dX2_allBelow_21 (by decide) (fun c10 => ?_) (fun c10 => ?_)
      · rw [if_pos c10] at h
        obtain ⟨x11, hx11⟩ : ∃ y : Int32, y = (v3 + 1 : Int32) := ⟨_, rfl⟩
        replace h := lt_e hx11 h
        refine r_iinc (x := v3) (v := x11) (L' := [some (.ref v0), some (.int v1), some (.int v2), some (.int x11)]) dX2_allBelow_32 rfl (by rw [hx11]; rfl) (Nat.le_of_ble_eq_true rfl) rfl rfl ?_
        refine r_goto (tgt := 10) dX2_allBelow_35 (by decide) ?_
        exact ih _ _ _ _ _ _ h k0
      · rw [if_neg c10] at h
        refine r_iload_n (x := v2) dX2_allBelow_24 rfl ?_
        refine r_aload_n (x := v0) dX2_allBelow_25 rfl ?_
        refine r_iload_n (x := v3) dX2_allBelow_26 rfl ?_
        obtain ⟨g15, h⟩ := gd_e h
        obtain ⟨x12, S13, h14, h⟩ := bI_e h
        refine r_cVI (y := mX2_straightBelow) (As := [.int v3]) (rest := [.int v2]) dX2_allBelow_27 qX2_72 kX2_straightBelow rfl g15 vc2 rfl (okX2_straightBelow N v0 v3 S8 x12 S13 h14) (by decide) hu rfl (Nat.le_of_ble_eq_true rfl) ?_
        refine r_ior dX2_allBelow_30 ?_
        refine r_topi (fun x16 hx16 => ?_)
        replace h := lt_e hx16 h
        refine r_istore_n (L' := [some (.ref v0), some (.int v1), some (.int x16), some (.int v3)]) dX2_allBelow_31 (Nat.le_of_ble_eq_true rfl) rfl rfl ?_
        obtain ⟨x17, hx17⟩ : ∃ y : Int32, y = (v3 + 1 : Int32) := ⟨_, rfl⟩
        replace h := lt_e hx17 h
        refine r_iinc (x := v3) (v := x17) (L' := [some (.ref v0), some (.int v1), some (.int x16), some (.int x17)]) dX2_allBelow_32 rfl (by rw [hx17]; rfl) (Nat.le_of_ble_eq_true rfl) rfl rfl ?_
        refine r_goto (tgt := 10) dX2_allBelow_35 (by decide) ?_
        exact ih _ _ _ _ _ _ h k0
def fX2_allBelow (N : Nat) (p : Nat) (p0 : Int32) (S : PS) : Option (Int32 × PS) :=
  gd (obj p 2) <|
  bI (fX2_straightBelow N p p0 S) fun x1 S2 =>
  lt ((p0 + 1) : Int32) fun x5 =>
  bT (fX2_allBelow_10 N p p0 N x1 x5 S2) fun q18 =>
  lt (q18.1 : Int32) fun x19 =>
  lt (q18.2.1 : Int32) fun x20 =>
  lt (q18.2.2 : PS) fun S21 =>
  some (x19, S21)
set_option maxHeartbeats 4000000 in
set_option maxRecDepth 100000 in
theorem okX2_allBelow (N : Nat) (p : Nat) (p0 : Int32) (S : PS) (r : Int32) (T : PS) (h : fX2_allBelow N p p0 S = some (r, T)) : CT mX2_allBelow 2 0 [.ref p, .int p0] S (qI r T) := by
  refine ct_of [some (.ref p), some (.int p0), none, none] rfl (fun _ => rfl) (fun _ => Nat.le_of_ble_eq_true rfl) ?_
  unfold fX2_allBelow at h
  refine r_aload_n (x := p) dX2_allBelow_0 rfl ?_
  refine r_iload_n (x := p0) dX2_allBelow_1 rfl ?_
  obtain ⟨g4, h⟩ := gd_e h
  obtain ⟨x1, S2, h3, h⟩ := bI_e h
  refine r_cVI (y := mX2_straightBelow) (As := [.int p0]) (rest := []) dX2_allBelow_2 qX2_72 kX2_straightBelow rfl g4 vc2 rfl (okX2_straightBelow N p p0 S x1 S2 h3) (by decide) (Nat.zero_le _) rfl (Nat.le_of_ble_eq_true rfl) ?_
  refine r_istore_n (L' := [some (.ref p), some (.int p0), some (.int x1), none]) dX2_allBelow_5 (Nat.le_of_ble_eq_true rfl) rfl rfl ?_
  refine r_iload_n (x := p0) dX2_allBelow_6 rfl ?_
  refine r_iconst (v := 1) dX2_allBelow_7 rfl ?_
  refine r_iadd dX2_allBelow_8 ?_
  refine r_topi (fun x5 hx5 => ?_)
  replace h := lt_e hx5 h
  refine r_istore_n (L' := [some (.ref p), some (.int p0), some (.int x1), some (.int x5)]) dX2_allBelow_9 (Nat.le_of_ble_eq_true rfl) rfl rfl ?_
  obtain ⟨⟨x19, x20, S21⟩, h23, h⟩ := bT_e h
  dsimp only at h
  replace h := pl_s (pl_s (pl_s (h)))
  refine okX2_allBelow_10 N p p0 (qI r T) 0 (Nat.zero_le _) _ _ _ _ _ _ _ h23 ?_
  refine r_iload_n (x := x19) dX2_allBelow_38 rfl ?_
  cases h
  exact r_ireturn dX2_allBelow_39 rfl (Nat.zero_le _) ⟨rfl, rfl⟩
def fX2_allAbove_9 (N : Nat) (v0 : Nat) (v1 : Int32) : Nat → Int32 → Int32 → PS → Option (Int32 × Int32 × PS)
  | 0, _, _, _ => none
  | n + 1, v2, v3, S =>
    (if v3 < 0 then
      some (v2, v3, S)
    else
      gd (obj v0 2) <|
      bI (fX2_straightBelow N v0 v3 S) fun x6 S7 =>
      (if (x6 &&& v2) = 0 then
        lt (v3 + (-1) : Int32) fun x11 =>
        fX2_allAbove_9 N v0 v1 n v2 x11 S7
      else
        bI (fX11_bitOf N v3 S7) fun x12 S13 =>
        lt ((v2 ||| x12) : Int32) fun x15 =>
        lt (v3 + (-1) : Int32) fun x16 =>
        fX2_allAbove_9 N v0 v1 n x15 x16 S13))
set_option maxHeartbeats 4000000 in
set_option maxRecDepth 100000 in
theorem okX2_allAbove_9 (N : Nat) (v0 : Nat) (v1 : Int32) (Q : OQ) (u : Nat) (hu : u ≤ 0) : ∀ (n : Nat) (v2 : Int32) (v3 : Int32) (S : PS) (y2 : Int32) (y3 : Int32) (T : PS), fX2_allAbove_9 N v0 v1 n v2 v3 S = some (y2, y3, T) → WP [] mX2_allAbove 2 0 Q 36 [some (.ref v0), some (.int v1), some (.int y2), some (.int y3)] [] T u → WP [] mX2_allAbove 2 0 Q 9 [some (.ref v0), some (.int v1), some (.int v2), some (.int v3)] [] S u := by
  intro n
  induction n with
  | zero => intro v2 v3 S y2 y3 T h; rw [fX2_allAbove_9] at h; cases h
  | succ n ih =>
    intro v2 v3 S y2 y3 T h k0
    rw [fX2_allAbove_9] at h
    refine r_iload_n (x := v3) dX2_allAbove_9 rfl ?_
    refine r_if_lt (tgt := 36) dX2_allAbove_10 (by decide) (fun c5 => ?_) (fun c5 => ?_)
    · rw [if_pos c5] at h
      cases h
      exact k0
    · rw [if_neg c5] at h
      refine r_aload_n (x := v0) dX2_allAbove_13 rfl ?_
      refine r_iload_n (x := v3) dX2_allAbove_14 rfl ?_
      obtain ⟨g9, h⟩ := gd_e h
      obtain ⟨x6, S7, h8, h⟩ := bI_e h
      refine r_cVI (y := mX2_straightBelow) (As := [.int v3]) (rest := []) dX2_allAbove_15 qX2_72 kX2_straightBelow rfl g9 vc2 rfl (okX2_straightBelow N v0 v3 S x6 S7 h8) (by decide) hu rfl (Nat.le_of_ble_eq_true rfl) ?_
      refine r_iload_n (x := v2) dX2_allAbove_18 rfl ?_
      refine r_iand dX2_allAbove_19 ?_
      refine r_if_eq (tgt := 30) dX2_allAbove_20 (by decide) (fun c10 => ?_) (fun c10 => ?_)
      · rw [if_pos c10] at h
        obtain ⟨x11, hx11⟩ : ∃ y : Int32, y = (v3 + (-1) : Int32) := ⟨_, rfl⟩
        replace h := lt_e hx11 h
        refine r_iinc (x := v3) (v := x11) (L' := [some (.ref v0), some (.int v1), some (.int v2), some (.int x11)]) dX2_allAbove_30 rfl (by rw [hx11]; rfl) (Nat.le_of_ble_eq_true rfl) rfl rfl ?_
        refine r_goto (tgt := 9) dX2_allAbove_33 (by decide) ?_
        exact ih _ _ _ _ _ _ h k0
      · rw [if_neg c10] at h
        refine r_iload_n (x := v2) dX2_allAbove_23 rfl ?_
        refine r_iload_n (x := v3) dX2_allAbove_24 rfl ?_
        obtain ⟨x12, S13, h14, h⟩ := bI_e h
        refine r_cNI (y := mX11_bitOf) (As := [.int v3]) (rest := [.int v2]) (host := "DripCups") dX2_allAbove_25 (by decide) kX11_bitOf rfl (okX11_bitOf N v3 S7 x12 S13 h14) (by decide) hu rfl (Nat.le_of_ble_eq_true rfl) ?_
        refine r_ior dX2_allAbove_28 ?_
        refine r_topi (fun x15 hx15 => ?_)
        replace h := lt_e hx15 h
        refine r_istore_n (L' := [some (.ref v0), some (.int v1), some (.int x15), some (.int v3)]) dX2_allAbove_29 (Nat.le_of_ble_eq_true rfl) rfl rfl ?_
        obtain ⟨x16, hx16⟩ : ∃ y : Int32, y = (v3 + (-1) : Int32) := ⟨_, rfl⟩
        replace h := lt_e hx16 h
        refine r_iinc (x := v3) (v := x16) (L' := [some (.ref v0), some (.int v1), some (.int x15), some (.int x16)]) dX2_allAbove_30 rfl (by rw [hx16]; rfl) (Nat.le_of_ble_eq_true rfl) rfl rfl ?_
        refine r_goto (tgt := 9) dX2_allAbove_33 (by decide) ?_
        exact ih _ _ _ _ _ _ h k0
def fX2_allAbove (N : Nat) (p : Nat) (p0 : Int32) (S : PS) : Option (Int32 × PS) :=
  bI (fX11_bitOf N p0 S) fun x1 S2 =>
  lt ((p0 - 1) : Int32) fun x4 =>
  bT (fX2_allAbove_9 N p p0 N x1 x4 S2) fun q17 =>
  lt (q17.1 : Int32) fun x18 =>
  lt (q17.2.1 : Int32) fun x19 =>
  lt (q17.2.2 : PS) fun S20 =>
  bI (fX11_bitOf N p0 S20) fun x23 S24 =>
  some ((x18 &&& (x23 ^^^ (-1))), S24)
set_option maxHeartbeats 4000000 in
set_option maxRecDepth 100000 in
theorem okX2_allAbove (N : Nat) (p : Nat) (p0 : Int32) (S : PS) (r : Int32) (T : PS) (h : fX2_allAbove N p p0 S = some (r, T)) : CT mX2_allAbove 2 0 [.ref p, .int p0] S (qI r T) := by
  refine ct_of [some (.ref p), some (.int p0), none, none] rfl (fun _ => rfl) (fun _ => Nat.le_of_ble_eq_true rfl) ?_
  unfold fX2_allAbove at h
  refine r_iload_n (x := p0) dX2_allAbove_0 rfl ?_
  obtain ⟨x1, S2, h3, h⟩ := bI_e h
  refine r_cNI (y := mX11_bitOf) (As := [.int p0]) (rest := []) (host := "DripCups") dX2_allAbove_1 (by decide) kX11_bitOf rfl (okX11_bitOf N p0 S x1 S2 h3) (by decide) (Nat.zero_le _) rfl (Nat.le_of_ble_eq_true rfl) ?_
  refine r_istore_n (L' := [some (.ref p), some (.int p0), some (.int x1), none]) dX2_allAbove_4 (Nat.le_of_ble_eq_true rfl) rfl rfl ?_
  refine r_iload_n (x := p0) dX2_allAbove_5 rfl ?_
  refine r_iconst (v := 1) dX2_allAbove_6 rfl ?_
  refine r_isub dX2_allAbove_7 ?_
  refine r_topi (fun x4 hx4 => ?_)
  replace h := lt_e hx4 h
  refine r_istore_n (L' := [some (.ref p), some (.int p0), some (.int x1), some (.int x4)]) dX2_allAbove_8 (Nat.le_of_ble_eq_true rfl) rfl rfl ?_
  obtain ⟨⟨x18, x19, S20⟩, h22, h⟩ := bT_e h
  dsimp only at h
  replace h := pl_s (pl_s (pl_s (h)))
  refine okX2_allAbove_9 N p p0 (qI r T) 0 (Nat.zero_le _) _ _ _ _ _ _ _ h22 ?_
  refine r_iload_n (x := x18) dX2_allAbove_36 rfl ?_
  refine r_iload_n (x := p0) dX2_allAbove_37 rfl ?_
  obtain ⟨x23, S24, h25, h⟩ := bI_e h
  refine r_cNI (y := mX11_bitOf) (As := [.int p0]) (rest := [.int x18]) (host := "DripCups") dX2_allAbove_38 (by decide) kX11_bitOf rfl (okX11_bitOf N p0 S20 x23 S24 h25) (by decide) (Nat.zero_le _) rfl (Nat.le_of_ble_eq_true rfl) ?_
  refine r_iconst (v := (-1)) dX2_allAbove_41 rfl ?_
  refine r_ixor dX2_allAbove_42 ?_
  refine r_iand dX2_allAbove_43 ?_
  cases h
  exact r_ireturn dX2_allAbove_44 rfl (Nat.zero_le _) ⟨rfl, rfl⟩
def fX2_roots_4 (N : Nat) (v0 : Nat) (v1 : Int32) : Nat → Int32 → Int32 → PS → Option (Int32 × Int32 × PS)
  | 0, _, _, _ => none
  | n + 1, v2, v3, S =>
    (if 9 ≤ v3 then
      some (v2, v3, S)
    else
      gd (obj v0 2) <|
      bI (fX2_straightBelow N v0 v3 S) fun x2 S3 =>
      lt ((v2 ||| x2) : Int32) fun x6 =>
      lt (v3 + 1 : Int32) fun x7 =>
      fX2_roots_4 N v0 v1 n x6 x7 S3)
set_option maxHeartbeats 4000000 in
set_option maxRecDepth 100000 in
theorem okX2_roots_4 (N : Nat) (v0 : Nat) (v1 : Int32) (Q : OQ) (u : Nat) (hu : u ≤ 0) : ∀ (n : Nat) (v2 : Int32) (v3 : Int32) (S : PS) (y2 : Int32) (y3 : Int32) (T : PS), fX2_roots_4 N v0 v1 n v2 v3 S = some (y2, y3, T) → WP [] mX2_roots 2 0 Q 24 [some (.ref v0), some (.int v1), some (.int y2), some (.int y3)] [] T u → WP [] mX2_roots 2 0 Q 4 [some (.ref v0), some (.int v1), some (.int v2), some (.int v3)] [] S u := by
  intro n
  induction n with
  | zero => intro v2 v3 S y2 y3 T h; rw [fX2_roots_4] at h; cases h
  | succ n ih =>
    intro v2 v3 S y2 y3 T h k0
    rw [fX2_roots_4] at h
    refine r_iload_n (x := v3) dX2_roots_4 rfl ?_
    refine r_bipush (v := 9) dX2_roots_5 rfl ?_
    refine r_icmp_ge (tgt := 24) dX2_roots_7 (by decide) (fun c1 => ?_) (fun c1 => ?_)
    · rw [if_pos c1] at h
      cases h
      exact k0
    · rw [if_neg c1] at h
      refine r_iload_n (x := v2) dX2_roots_10 rfl ?_
      refine r_aload_n (x := v0) dX2_roots_11 rfl ?_
      refine r_iload_n (x := v3) dX2_roots_12 rfl ?_
      obtain ⟨g5, h⟩ := gd_e h
      obtain ⟨x2, S3, h4, h⟩ := bI_e h
      refine r_cVI (y := mX2_straightBelow) (As := [.int v3]) (rest := [.int v2]) dX2_roots_13 qX2_72 kX2_straightBelow rfl g5 vc2 rfl (okX2_straightBelow N v0 v3 S x2 S3 h4) (by decide) hu rfl (Nat.le_of_ble_eq_true rfl) ?_
      refine r_ior dX2_roots_16 ?_
      refine r_topi (fun x6 hx6 => ?_)
      replace h := lt_e hx6 h
      refine r_istore_n (L' := [some (.ref v0), some (.int v1), some (.int x6), some (.int v3)]) dX2_roots_17 (Nat.le_of_ble_eq_true rfl) rfl rfl ?_
      obtain ⟨x7, hx7⟩ : ∃ y : Int32, y = (v3 + 1 : Int32) := ⟨_, rfl⟩
      replace h := lt_e hx7 h
      refine r_iinc (x := v3) (v := x7) (L' := [some (.ref v0), some (.int v1), some (.int x6), some (.int x7)]) dX2_roots_18 rfl (by rw [hx7]; rfl) (Nat.le_of_ble_eq_true rfl) rfl rfl ?_
      refine r_goto (tgt := 4) dX2_roots_21 (by decide) ?_
      exact ih _ _ _ _ _ _ h k0
def fX2_roots (N : Nat) (p : Nat) (p0 : Int32) (S : PS) : Option (Int32 × PS) :=
  bT (fX2_roots_4 N p p0 N 0 0 S) fun q8 =>
  lt (q8.1 : Int32) fun x9 =>
  lt (q8.2.1 : Int32) fun x10 =>
  lt (q8.2.2 : PS) fun S11 =>
  some ((((1 <<< (p0 &&& 31)) - 1) &&& (x9 ^^^ (-1))), S11)
set_option maxHeartbeats 4000000 in
set_option maxRecDepth 100000 in
theorem okX2_roots (N : Nat) (p : Nat) (p0 : Int32) (S : PS) (r : Int32) (T : PS) (h : fX2_roots N p p0 S = some (r, T)) : CT mX2_roots 2 0 [.ref p, .int p0] S (qI r T) := by
  refine ct_of [some (.ref p), some (.int p0), none, none] rfl (fun _ => rfl) (fun _ => Nat.le_of_ble_eq_true rfl) ?_
  unfold fX2_roots at h
  refine r_iconst (v := 0) dX2_roots_0 rfl ?_
  refine r_istore_n (L' := [some (.ref p), some (.int p0), some (.int 0), none]) dX2_roots_1 (Nat.le_of_ble_eq_true rfl) rfl rfl ?_
  refine r_iconst (v := 0) dX2_roots_2 rfl ?_
  refine r_istore_n (L' := [some (.ref p), some (.int p0), some (.int 0), some (.int 0)]) dX2_roots_3 (Nat.le_of_ble_eq_true rfl) rfl rfl ?_
  obtain ⟨⟨x9, x10, S11⟩, h13, h⟩ := bT_e h
  dsimp only at h
  replace h := pl_s (pl_s (pl_s (h)))
  refine okX2_roots_4 N p p0 (qI r T) 0 (Nat.zero_le _) _ _ _ _ _ _ _ h13 ?_
  refine r_iconst (v := 1) dX2_roots_24 rfl ?_
  refine r_iload_n (x := p0) dX2_roots_25 rfl ?_
  refine r_ishl dX2_roots_26 ?_
  refine r_iconst (v := 1) dX2_roots_27 rfl ?_
  refine r_isub dX2_roots_28 ?_
  refine r_iload_n (x := x9) dX2_roots_29 rfl ?_
  refine r_iconst (v := (-1)) dX2_roots_30 rfl ?_
  refine r_ixor dX2_roots_31 ?_
  refine r_iand dX2_roots_32 ?_
  cases h
  exact r_ireturn dX2_roots_33 rfl (Nat.zero_le _) ⟨rfl, rfl⟩
def fX2_deepest_19 (N : Nat) (v0 : Nat) (v1 : Int32) (v2 : Int32) : Nat → Int32 → PS → Option (Int32 × PS)
  | 0, _, _ => none
  | n + 1, v3, S =>
    (if 9 ≤ v3 then
      some (v3, S)
    else
      gd (obj v0 2) <|
      bI (fX2_straightBelow N v0 v2 S) fun x8 S9 =>
      bI (fX11_has N x8 v3 S9) fun x12 S13 =>
      (if x12 = 0 then
        lt (v3 + 1 : Int32) fun x16 =>
        fX2_deepest_19 N v0 v1 v2 n x16 S13
      else
        gd (obj v0 2) <|
        gd (obj v0 2) <|
        gd (arr (sr v0 5) 1 9) <|
        gd (inr v2 9) <|
        gd (obj v0 2) <|
        gd (arr (sr v0 5) 1 9) <|
        gd (inr v3 9) <|
        lt ((if (S13.1 (sr v0 5) (ix v2)) < ((S13.1 (sr v0 5) (ix v3)) + 1) then ((S13.1 (sr v0 5) (ix v3)) + 1) else (S13.1 (sr v0 5) (ix v2))) : Int32) fun x24 =>
        gd (arr (sr v0 5) 1 9) <|
        gd (inr v2 9) <|
        lt ((u2 S13.1 (sr v0 5) (ix v2) x24, S13.2) : PS) fun S27 =>
        lt (v3 + 1 : Int32) fun x28 =>
        fX2_deepest_19 N v0 v1 v2 n x28 S27))
set_option maxHeartbeats 4000000 in
set_option maxRecDepth 100000 in
theorem okX2_deepest_19 (N : Nat) (v0 : Nat) (v1 : Int32) (v2 : Int32) (Q : OQ) (u : Nat) (hu : u ≤ 0) : ∀ (n : Nat) (v3 : Int32) (S : PS) (y3 : Int32) (T : PS), fX2_deepest_19 N v0 v1 v2 n v3 S = some (y3, T) → WP [] mX2_deepest 2 0 Q 66 [some (.ref v0), some (.int v1), some (.int v2), some (.int y3)] [] T u → WP [] mX2_deepest 2 0 Q 19 [some (.ref v0), some (.int v1), some (.int v2), some (.int v3)] [] S u := by
  intro n
  induction n with
  | zero => intro v3 S y3 T h; rw [fX2_deepest_19] at h; cases h
  | succ n ih =>
    intro v3 S y3 T h k0
    rw [fX2_deepest_19] at h
    refine r_iload_n (x := v3) dX2_deepest_19 rfl ?_
    refine r_bipush (v := 9) dX2_deepest_20 rfl ?_
    refine r_icmp_ge (tgt := 66) dX2_deepest_22 (by decide) (fun c7 => ?_) (fun c7 => ?_)
    · rw [if_pos c7] at h
      cases h
      exact k0
    · rw [if_neg c7] at h
      refine r_aload_n (x := v0) dX2_deepest_25 rfl ?_
      refine r_iload_n (x := v2) dX2_deepest_26 rfl ?_
      obtain ⟨g11, h⟩ := gd_e h
      obtain ⟨x8, S9, h10, h⟩ := bI_e h
      refine r_cVI (y := mX2_straightBelow) (As := [.int v2]) (rest := []) dX2_deepest_27 qX2_72 kX2_straightBelow rfl g11 vc2 rfl (okX2_straightBelow N v0 v2 S x8 S9 h10) (by decide) hu rfl (Nat.le_of_ble_eq_true rfl) ?_
      refine r_iload_n (x := v3) dX2_deepest_30 rfl ?_
      obtain ⟨x12, S13, h14, h⟩ := bI_e h
      refine r_cNI (y := mX11_has) (As := [.int x8, .int v3]) (rest := []) (host := "DripCups") dX2_deepest_31 (by decide) kX11_has rfl (okX11_has N x8 v3 S9 x12 S13 h14) (by decide) hu rfl (Nat.le_of_ble_eq_true rfl) ?_
      refine r_if_eq (tgt := 60) dX2_deepest_34 (by decide) (fun c15 => ?_) (fun c15 => ?_)
      · rw [if_pos c15] at h
        obtain ⟨x16, hx16⟩ : ∃ y : Int32, y = (v3 + 1 : Int32) := ⟨_, rfl⟩
        replace h := lt_e hx16 h
        refine r_iinc (x := v3) (v := x16) (L' := [some (.ref v0), some (.int v1), some (.int v2), some (.int x16)]) dX2_deepest_60 rfl (by rw [hx16]; rfl) (Nat.le_of_ble_eq_true rfl) rfl rfl ?_
        refine r_goto (tgt := 19) dX2_deepest_63 (by decide) ?_
        exact ih _ _ _ _ h k0
      · rw [if_neg c15] at h
        refine r_aload_n (x := v0) dX2_deepest_37 rfl ?_
        obtain ⟨g17, h⟩ := gd_e h
        refine r_getfield (o := v0) (v := .ref (sr v0 5)) dX2_deepest_38 lX2_27 g17.1 g17.2 rfl ?_
        refine r_iload_n (x := v2) dX2_deepest_41 rfl ?_
        refine r_aload_n (x := v0) dX2_deepest_42 rfl ?_
        obtain ⟨g18, h⟩ := gd_e h
        refine r_getfield (o := v0) (v := .ref (sr v0 5)) dX2_deepest_43 lX2_27 g18.1 g18.2 rfl ?_
        refine r_iload_n (x := v2) dX2_deepest_46 rfl ?_
        obtain ⟨g19, h⟩ := gd_e h
        obtain ⟨g20, h⟩ := gd_e h
        refine r_iaload (a := (sr v0 5)) dX2_deepest_47 g19.1 g19.2 (inr_IX g20) ?_
        refine r_aload_n (x := v0) dX2_deepest_48 rfl ?_
        obtain ⟨g21, h⟩ := gd_e h
        refine r_getfield (o := v0) (v := .ref (sr v0 5)) dX2_deepest_49 lX2_27 g21.1 g21.2 rfl ?_
        refine r_iload_n (x := v3) dX2_deepest_52 rfl ?_
        obtain ⟨g22, h⟩ := gd_e h
        obtain ⟨g23, h⟩ := gd_e h
        refine r_iaload (a := (sr v0 5)) dX2_deepest_53 g22.1 g22.2 (inr_IX g23) ?_
        refine r_iconst (v := 1) dX2_deepest_54 rfl ?_
        refine r_iadd dX2_deepest_55 ?_
        refine r_mmax dX2_deepest_56 qX2_75 (by decide) hu (Nat.le_of_ble_eq_true rfl) ?_
        refine r_topi (fun x24 hx24 => ?_)
        replace h := lt_e hx24 h
        obtain ⟨g25, h⟩ := gd_e h
        obtain ⟨g26, h⟩ := gd_e h
        refine r_iastore (a := (sr v0 5)) dX2_deepest_59 g25.1 g25.2 (inr_IX g26) ?_
        refine r_topS (fun S27 hS27 => ?_)
        replace h := lt_e hS27 h
        obtain ⟨x28, hx28⟩ : ∃ y : Int32, y = (v3 + 1 : Int32) := ⟨_, rfl⟩
        replace h := lt_e hx28 h
        refine r_iinc (x := v3) (v := x28) (L' := [some (.ref v0), some (.int v1), some (.int v2), some (.int x28)]) dX2_deepest_60 rfl (by rw [hx28]; rfl) (Nat.le_of_ble_eq_true rfl) rfl rfl ?_
        refine r_goto (tgt := 19) dX2_deepest_63 (by decide) ?_
        exact ih _ _ _ _ h k0
def fX2_deepest_3 (N : Nat) (v0 : Nat) (v1 : Int32) : Nat → Int32 → PS → Option (Int32 × PS)
  | 0, _, _ => none
  | n + 1, v2, S =>
    (if v2 < v1 then
      some (v2, S)
    else
      gd (obj v0 2) <|
      gd (arr (sr v0 5) 1 9) <|
      gd (inr v2 9) <|
      lt ((u2 S.1 (sr v0 5) (ix v2) 0, S.2) : PS) fun S5 =>
      lt ((v2 + 1) : Int32) fun x6 =>
      bT (fX2_deepest_19 N v0 v1 v2 N x6 S5) fun q29 =>
      lt (q29.1 : Int32) fun x30 =>
      lt (q29.2 : PS) fun S31 =>
      lt (v2 + (-1) : Int32) fun x34 =>
      fX2_deepest_3 N v0 v1 n x34 S31)
set_option maxHeartbeats 4000000 in
set_option maxRecDepth 100000 in
theorem okX2_deepest_3 (N : Nat) (v0 : Nat) (v1 : Int32) (Q : OQ) (u : Nat) (hu : u ≤ 0) : ∀ (n : Nat) (v2 : Int32) (S : PS) (y2 : Int32) (T : PS), fX2_deepest_3 N v0 v1 n v2 S = some (y2, T) → WP [] mX2_deepest 2 0 Q 72 [some (.ref v0), some (.int v1), some (.int y2), none] [] T u → WP [] mX2_deepest 2 0 Q 3 [some (.ref v0), some (.int v1), some (.int v2), none] [] S u := by
  intro n
  induction n with
  | zero => intro v2 S y2 T h; rw [fX2_deepest_3] at h; cases h
  | succ n ih =>
    intro v2 S y2 T h k0
    rw [fX2_deepest_3] at h
    refine r_iload_n (x := v2) dX2_deepest_3 rfl ?_
    refine r_iload_n (x := v1) dX2_deepest_4 rfl ?_
    refine r_icmp_lt (tgt := 72) dX2_deepest_5 (by decide) (fun c1 => ?_) (fun c1 => ?_)
    · rw [if_pos c1] at h
      cases h
      exact k0
    · rw [if_neg c1] at h
      refine r_aload_n (x := v0) dX2_deepest_8 rfl ?_
      obtain ⟨g2, h⟩ := gd_e h
      refine r_getfield (o := v0) (v := .ref (sr v0 5)) dX2_deepest_9 lX2_27 g2.1 g2.2 rfl ?_
      refine r_iload_n (x := v2) dX2_deepest_12 rfl ?_
      refine r_iconst (v := 0) dX2_deepest_13 rfl ?_
      obtain ⟨g3, h⟩ := gd_e h
      obtain ⟨g4, h⟩ := gd_e h
      refine r_iastore (a := (sr v0 5)) dX2_deepest_14 g3.1 g3.2 (inr_IX g4) ?_
      refine r_topS (fun S5 hS5 => ?_)
      replace h := lt_e hS5 h
      refine r_iload_n (x := v2) dX2_deepest_15 rfl ?_
      refine r_iconst (v := 1) dX2_deepest_16 rfl ?_
      refine r_iadd dX2_deepest_17 ?_
      refine r_topi (fun x6 hx6 => ?_)
      replace h := lt_e hx6 h
      refine r_istore_n (L' := [some (.ref v0), some (.int v1), some (.int v2), some (.int x6)]) dX2_deepest_18 (Nat.le_of_ble_eq_true rfl) rfl rfl ?_
      obtain ⟨⟨x30, S31⟩, h33, h⟩ := bT_e h
      dsimp only at h
      replace h := pl_s (pl_s (h))
      refine okX2_deepest_19 N v0 v1 v2 Q u hu _ _ _ _ _ h33 ?_
      obtain ⟨x34, hx34⟩ : ∃ y : Int32, y = (v2 + (-1) : Int32) := ⟨_, rfl⟩
      replace h := lt_e hx34 h
      refine r_iinc (x := v2) (v := x34) (L' := [some (.ref v0), some (.int v1), some (.int x34), some (.int x30)]) dX2_deepest_66 rfl (by rw [hx34]; rfl) (Nat.le_of_ble_eq_true rfl) rfl rfl ?_
      refine r_goto (tgt := 3) dX2_deepest_69 (by decide) ?_
      refine r_drop [true, true, true, false] rfl ?_
      exact ih _ _ _ _ h k0
def fX2_deepest (N : Nat) (p : Nat) (p0 : Int32) (S : PS) : Option (Int32 × PS) :=
  bT (fX2_deepest_3 N p p0 N 8 S) fun q35 =>
  lt (q35.1 : Int32) fun x36 =>
  lt (q35.2 : PS) fun S37 =>
  gd (obj p 2) <|
  gd (arr (sr p 5) 1 9) <|
  gd (inr p0 9) <|
  some ((S37.1 (sr p 5) (ix p0)), S37)
set_option maxHeartbeats 4000000 in
set_option maxRecDepth 100000 in
theorem okX2_deepest (N : Nat) (p : Nat) (p0 : Int32) (S : PS) (r : Int32) (T : PS) (h : fX2_deepest N p p0 S = some (r, T)) : CT mX2_deepest 2 0 [.ref p, .int p0] S (qI r T) := by
  refine ct_of [some (.ref p), some (.int p0), none, none] rfl (fun _ => rfl) (fun _ => Nat.le_of_ble_eq_true rfl) ?_
  unfold fX2_deepest at h
  refine r_bipush (v := 8) dX2_deepest_0 rfl ?_
  refine r_istore_n (L' := [some (.ref p), some (.int p0), some (.int 8), none]) dX2_deepest_2 (Nat.le_of_ble_eq_true rfl) rfl rfl ?_
  obtain ⟨⟨x36, S37⟩, h39, h⟩ := bT_e h
  dsimp only at h
  replace h := pl_s (pl_s (h))
  refine okX2_deepest_3 N p p0 (qI r T) 0 (Nat.zero_le _) _ _ _ _ _ h39 ?_
  refine r_aload_n (x := p) dX2_deepest_72 rfl ?_
  obtain ⟨g40, h⟩ := gd_e h
  refine r_getfield (o := p) (v := .ref (sr p 5)) dX2_deepest_73 lX2_27 g40.1 g40.2 rfl ?_
  refine r_iload_n (x := p0) dX2_deepest_76 rfl ?_
  obtain ⟨g41, h⟩ := gd_e h
  obtain ⟨g42, h⟩ := gd_e h
  refine r_iaload (a := (sr p 5)) dX2_deepest_77 g41.1 g41.2 (inr_IX g42) ?_
  cases h
  exact r_ireturn dX2_deepest_78 rfl (Nat.zero_le _) ⟨rfl, rfl⟩
def fX2_rowsOfPipes_29 (N : Nat) (v0 : Nat) (v1 : Int32) (v2 : Int32) (v3 : Int32) : Nat → Int32 → PS → Option (Int32 × PS)
  | 0, _, _ => none
  | n + 1, v4, S =>
    (if 9 ≤ v4 then
      some (v4, S)
    else
      gd (obj v0 2) <|
      bI (fX2_straightBelow N v0 v3 S) fun x10 S11 =>
      bI (fX11_has N x10 v4 S11) fun x14 S15 =>
      (if x14 = 0 then
        lt (v4 + 1 : Int32) fun x18 =>
        fX2_rowsOfPipes_29 N v0 v1 v2 v3 n x18 S15
      else
        gd (obj v0 2) <|
        gd (arr (sr v0 5) 1 9) <|
        gd (inr v3 9) <|
        gd (obj v0 2) <|
        gd (arr (sr v0 5) 1 9) <|
        gd (inr v4 9) <|
        gd (arr (sr v0 5) 1 9) <|
        gd (inr v3 9) <|
        lt ((u2 S15.1 (sr v0 5) (ix v3) ((S15.1 (sr v0 5) (ix v3)) + (S15.1 (sr v0 5) (ix v4))), S15.2) : PS) fun S27 =>
        lt (v4 + 1 : Int32) fun x28 =>
        fX2_rowsOfPipes_29 N v0 v1 v2 v3 n x28 S27))
set_option maxHeartbeats 4000000 in
set_option maxRecDepth 100000 in
theorem okX2_rowsOfPipes_29 (N : Nat) (v0 : Nat) (v1 : Int32) (v2 : Int32) (v3 : Int32) (Q : OQ) (u : Nat) (hu : u ≤ 0) : ∀ (n : Nat) (v4 : Int32) (S : PS) (y4 : Int32) (T : PS), fX2_rowsOfPipes_29 N v0 v1 v2 v3 n v4 S = some (y4, T) → WP [] mX2_rowsOfPipes 2 0 Q 71 [some (.ref v0), some (.int v1), some (.int v2), some (.int v3), some (.int y4)] [] T u → WP [] mX2_rowsOfPipes 2 0 Q 29 [some (.ref v0), some (.int v1), some (.int v2), some (.int v3), some (.int v4)] [] S u := by
  intro n
  induction n with
  | zero => intro v4 S y4 T h; rw [fX2_rowsOfPipes_29] at h; cases h
  | succ n ih =>
    intro v4 S y4 T h k0
    rw [fX2_rowsOfPipes_29] at h
    refine r_iload (x := v4) dX2_rowsOfPipes_29 rfl ?_
    refine r_bipush (v := 9) dX2_rowsOfPipes_31 rfl ?_
    refine r_icmp_ge (tgt := 71) dX2_rowsOfPipes_33 (by decide) (fun c9 => ?_) (fun c9 => ?_)
    · rw [if_pos c9] at h
      cases h
      exact k0
    · rw [if_neg c9] at h
      refine r_aload_n (x := v0) dX2_rowsOfPipes_36 rfl ?_
      refine r_iload_n (x := v3) dX2_rowsOfPipes_37 rfl ?_
      obtain ⟨g13, h⟩ := gd_e h
      obtain ⟨x10, S11, h12, h⟩ := bI_e h
      refine r_cVI (y := mX2_straightBelow) (As := [.int v3]) (rest := []) dX2_rowsOfPipes_38 qX2_72 kX2_straightBelow rfl g13 vc2 rfl (okX2_straightBelow N v0 v3 S x10 S11 h12) (by decide) hu rfl (Nat.le_of_ble_eq_true rfl) ?_
      refine r_iload (x := v4) dX2_rowsOfPipes_41 rfl ?_
      obtain ⟨x14, S15, h16, h⟩ := bI_e h
      refine r_cNI (y := mX11_has) (As := [.int x10, .int v4]) (rest := []) (host := "DripCups") dX2_rowsOfPipes_43 (by decide) kX11_has rfl (okX11_has N x10 v4 S11 x14 S15 h16) (by decide) hu rfl (Nat.le_of_ble_eq_true rfl) ?_
      refine r_if_eq (tgt := 65) dX2_rowsOfPipes_46 (by decide) (fun c17 => ?_) (fun c17 => ?_)
      · rw [if_pos c17] at h
        obtain ⟨x18, hx18⟩ : ∃ y : Int32, y = (v4 + 1 : Int32) := ⟨_, rfl⟩
        replace h := lt_e hx18 h
        refine r_iinc (x := v4) (v := x18) (L' := [some (.ref v0), some (.int v1), some (.int v2), some (.int v3), some (.int x18)]) dX2_rowsOfPipes_65 rfl (by rw [hx18]; rfl) (Nat.le_of_ble_eq_true rfl) rfl rfl ?_
        refine r_goto (tgt := 29) dX2_rowsOfPipes_68 (by decide) ?_
        exact ih _ _ _ _ h k0
      · rw [if_neg c17] at h
        refine r_aload_n (x := v0) dX2_rowsOfPipes_49 rfl ?_
        obtain ⟨g19, h⟩ := gd_e h
        refine r_getfield (o := v0) (v := .ref (sr v0 5)) dX2_rowsOfPipes_50 lX2_27 g19.1 g19.2 rfl ?_
        refine r_iload_n (x := v3) dX2_rowsOfPipes_53 rfl ?_
        refine r_dup2 dX2_rowsOfPipes_54 ?_
        obtain ⟨g20, h⟩ := gd_e h
        obtain ⟨g21, h⟩ := gd_e h
        refine r_iaload (a := (sr v0 5)) dX2_rowsOfPipes_55 g20.1 g20.2 (inr_IX g21) ?_
        refine r_aload_n (x := v0) dX2_rowsOfPipes_56 rfl ?_
        obtain ⟨g22, h⟩ := gd_e h
        refine r_getfield (o := v0) (v := .ref (sr v0 5)) dX2_rowsOfPipes_57 lX2_27 g22.1 g22.2 rfl ?_
        refine r_iload (x := v4) dX2_rowsOfPipes_60 rfl ?_
        obtain ⟨g23, h⟩ := gd_e h
        obtain ⟨g24, h⟩ := gd_e h
        refine r_iaload (a := (sr v0 5)) dX2_rowsOfPipes_62 g23.1 g23.2 (inr_IX g24) ?_
        refine r_iadd dX2_rowsOfPipes_63 ?_
        obtain ⟨g25, h⟩ := gd_e h
        obtain ⟨g26, h⟩ := gd_e h
        refine r_iastore (a := (sr v0 5)) dX2_rowsOfPipes_64 g25.1 g25.2 (inr_IX g26) ?_
        refine r_topS (fun S27 hS27 => ?_)
        replace h := lt_e hS27 h
        obtain ⟨x28, hx28⟩ : ∃ y : Int32, y = (v4 + 1 : Int32) := ⟨_, rfl⟩
        replace h := lt_e hx28 h
        refine r_iinc (x := v4) (v := x28) (L' := [some (.ref v0), some (.int v1), some (.int v2), some (.int v3), some (.int x28)]) dX2_rowsOfPipes_65 rfl (by rw [hx28]; rfl) (Nat.le_of_ble_eq_true rfl) rfl rfl ?_
        refine r_goto (tgt := 29) dX2_rowsOfPipes_68 (by decide) ?_
        exact ih _ _ _ _ h k0
def fX2_rowsOfPipes_3 (N : Nat) (v0 : Nat) (v1 : Int32) (v2 : Int32) : Nat → Int32 → PS → Option (Int32 × PS)
  | 0, _, _ => none
  | n + 1, v3, S =>
    (if v3 < v1 then
      some (v3, S)
    else
      gd (obj v0 2) <|
      lt ((if v3 = v2 then 1 else 0) : Int32) fun x4 =>
      gd (arr (sr v0 5) 1 9) <|
      gd (inr v3 9) <|
      lt ((u2 S.1 (sr v0 5) (ix v3) x4, S.2) : PS) fun S7 =>
      lt ((v3 + 1) : Int32) fun x8 =>
      bT (fX2_rowsOfPipes_29 N v0 v1 v2 v3 N x8 S7) fun q29 =>
      lt (q29.1 : Int32) fun x30 =>
      lt (q29.2 : PS) fun S31 =>
      lt (v3 + (-1) : Int32) fun x34 =>
      fX2_rowsOfPipes_3 N v0 v1 v2 n x34 S31)
set_option maxHeartbeats 4000000 in
set_option maxRecDepth 100000 in
theorem okX2_rowsOfPipes_3 (N : Nat) (v0 : Nat) (v1 : Int32) (v2 : Int32) (Q : OQ) (u : Nat) (hu : u ≤ 0) : ∀ (n : Nat) (v3 : Int32) (S : PS) (y3 : Int32) (T : PS), fX2_rowsOfPipes_3 N v0 v1 v2 n v3 S = some (y3, T) → WP [] mX2_rowsOfPipes 2 0 Q 77 [some (.ref v0), some (.int v1), some (.int v2), some (.int y3), none] [] T u → WP [] mX2_rowsOfPipes 2 0 Q 3 [some (.ref v0), some (.int v1), some (.int v2), some (.int v3), none] [] S u := by
  intro n
  induction n with
  | zero => intro v3 S y3 T h; rw [fX2_rowsOfPipes_3] at h; cases h
  | succ n ih =>
    intro v3 S y3 T h k0
    rw [fX2_rowsOfPipes_3] at h
    refine r_iload_n (x := v3) dX2_rowsOfPipes_3 rfl ?_
    refine r_iload_n (x := v1) dX2_rowsOfPipes_4 rfl ?_
    refine r_icmp_lt (tgt := 77) dX2_rowsOfPipes_5 (by decide) (fun c1 => ?_) (fun c1 => ?_)
    · rw [if_pos c1] at h
      cases h
      exact k0
    · rw [if_neg c1] at h
      refine r_aload_n (x := v0) dX2_rowsOfPipes_8 rfl ?_
      obtain ⟨g2, h⟩ := gd_e h
      refine r_getfield (o := v0) (v := .ref (sr v0 5)) dX2_rowsOfPipes_9 lX2_27 g2.1 g2.2 rfl ?_
      refine r_iload_n (x := v3) dX2_rowsOfPipes_12 rfl ?_
      refine r_iload_n (x := v3) dX2_rowsOfPipes_13 rfl ?_
      refine r_iload_n (x := v2) dX2_rowsOfPipes_14 rfl ?_
      obtain ⟨x4, hx4⟩ : ∃ y : Int32, y = ((if v3 = v2 then 1 else 0) : Int32) := ⟨_, rfl⟩
      replace h := lt_e hx4 h
      have keyx4 : WP [] mX2_rowsOfPipes 2 0 Q 23 [some (.ref v0), some (.int v1), some (.int v2), some (.int v3), none] (.int x4 :: [.int v3, .ref (sr v0 5)]) S u := by
        obtain ⟨g5, h⟩ := gd_e h
        obtain ⟨g6, h⟩ := gd_e h
        refine r_iastore (a := (sr v0 5)) dX2_rowsOfPipes_23 g5.1 g5.2 (inr_IX g6) ?_
        refine r_topS (fun S7 hS7 => ?_)
        replace h := lt_e hS7 h
        refine r_iload_n (x := v3) dX2_rowsOfPipes_24 rfl ?_
        refine r_iconst (v := 1) dX2_rowsOfPipes_25 rfl ?_
        refine r_iadd dX2_rowsOfPipes_26 ?_
        refine r_topi (fun x8 hx8 => ?_)
        replace h := lt_e hx8 h
        refine r_istore (L' := [some (.ref v0), some (.int v1), some (.int v2), some (.int v3), some (.int x8)]) dX2_rowsOfPipes_27 (Nat.le_of_ble_eq_true rfl) rfl rfl ?_
        obtain ⟨⟨x30, S31⟩, h33, h⟩ := bT_e h
        dsimp only at h
        replace h := pl_s (pl_s (h))
        refine okX2_rowsOfPipes_29 N v0 v1 v2 v3 Q u hu _ _ _ _ _ h33 ?_
        obtain ⟨x34, hx34⟩ : ∃ y : Int32, y = (v3 + (-1) : Int32) := ⟨_, rfl⟩
        replace h := lt_e hx34 h
        refine r_iinc (x := v3) (v := x34) (L' := [some (.ref v0), some (.int v1), some (.int v2), some (.int x34), some (.int x30)]) dX2_rowsOfPipes_71 rfl (by rw [hx34]; rfl) (Nat.le_of_ble_eq_true rfl) rfl rfl ?_
        refine r_goto (tgt := 3) dX2_rowsOfPipes_74 (by decide) ?_
        refine r_drop [true, true, true, true, false] rfl ?_
        exact ih _ _ _ _ h k0
      refine r_icmp_ne (tgt := 22) dX2_rowsOfPipes_15 (by decide) (fun c3 => ?_) (fun c3 => ?_)
      · refine r_iconst (v := 0) dX2_rowsOfPipes_22 rfl ?_
        exact r_tope (by rw [hx4, if_neg c3]) keyx4
      · refine r_iconst (v := 1) dX2_rowsOfPipes_18 rfl ?_
        refine r_goto (tgt := 23) dX2_rowsOfPipes_19 (by decide) ?_
        exact r_tope (by rw [hx4, if_pos c3]) keyx4
def fX2_rowsOfPipes (N : Nat) (p : Nat) (p0 : Int32) (p1 : Int32) (S : PS) : Option (Int32 × PS) :=
  bT (fX2_rowsOfPipes_3 N p p0 p1 N 8 S) fun q35 =>
  lt (q35.1 : Int32) fun x36 =>
  lt (q35.2 : PS) fun S37 =>
  gd (obj p 2) <|
  gd (arr (sr p 5) 1 9) <|
  gd (inr p0 9) <|
  some ((S37.1 (sr p 5) (ix p0)), S37)
set_option maxHeartbeats 4000000 in
set_option maxRecDepth 100000 in
theorem okX2_rowsOfPipes (N : Nat) (p : Nat) (p0 : Int32) (p1 : Int32) (S : PS) (r : Int32) (T : PS) (h : fX2_rowsOfPipes N p p0 p1 S = some (r, T)) : CT mX2_rowsOfPipes 2 0 [.ref p, .int p0, .int p1] S (qI r T) := by
  refine ct_of [some (.ref p), some (.int p0), some (.int p1), none, none] rfl (fun _ => rfl) (fun _ => Nat.le_of_ble_eq_true rfl) ?_
  unfold fX2_rowsOfPipes at h
  refine r_bipush (v := 8) dX2_rowsOfPipes_0 rfl ?_
  refine r_istore_n (L' := [some (.ref p), some (.int p0), some (.int p1), some (.int 8), none]) dX2_rowsOfPipes_2 (Nat.le_of_ble_eq_true rfl) rfl rfl ?_
  obtain ⟨⟨x36, S37⟩, h39, h⟩ := bT_e h
  dsimp only at h
  replace h := pl_s (pl_s (h))
  refine okX2_rowsOfPipes_3 N p p0 p1 (qI r T) 0 (Nat.zero_le _) _ _ _ _ _ h39 ?_
  refine r_aload_n (x := p) dX2_rowsOfPipes_77 rfl ?_
  obtain ⟨g40, h⟩ := gd_e h
  refine r_getfield (o := p) (v := .ref (sr p 5)) dX2_rowsOfPipes_78 lX2_27 g40.1 g40.2 rfl ?_
  refine r_iload_n (x := p0) dX2_rowsOfPipes_81 rfl ?_
  obtain ⟨g41, h⟩ := gd_e h
  obtain ⟨g42, h⟩ := gd_e h
  refine r_iaload (a := (sr p 5)) dX2_rowsOfPipes_82 g41.1 g41.2 (inr_IX g42) ?_
  cases h
  exact r_ireturn dX2_rowsOfPipes_83 rfl (Nat.zero_le _) ⟨rfl, rfl⟩
def fX3_workOn (N : Nat) (p0 : Nat) (S : PS) : Option PS :=
  lt ((S.1, S.2.1, u2R S.2.2 5 4 p0) : PS) fun S1 =>
  bV (fJ7_fill_53178 N 28 0 S1) fun S3 =>
  lt ((u2 S3.1 5 5 0, S3.2) : PS) fun S5 =>
  lt ((u2 S5.1 5 6 0, S5.2) : PS) fun S6 =>
  some S6
set_option maxHeartbeats 4000000 in
set_option maxRecDepth 100000 in
theorem okX3_workOn (N : Nat) (p0 : Nat) (S : PS) (T : PS) (h : fX3_workOn N p0 S = some T) : CT mX3_workOn 1 0 [.ref 5, .ref p0] S (qV T) := by
  refine ct_of [some (.ref 5), some (.ref p0)] rfl (fun _ => rfl) (fun _ => Nat.le_of_ble_eq_true rfl) ?_
  unfold fX3_workOn at h
  refine r_aload_n (x := 5) dX3_workOn_0 rfl ?_
  refine r_aload_n (x := p0) dX3_workOn_1 rfl ?_
  refine r_putR dX3_workOn_2 lX3_32 ck5 nC5 ?_
  refine r_topS (fun S1 hS1 => ?_)
  replace h := lt_e hS1 h
  refine r_aload_n (x := 5) dX3_workOn_5 rfl ?_
  refine r_getfield (o := 5) (v := .ref 28) dX3_workOn_6 lX3_22 ck5 nC5 rfl ?_
  refine r_iconst (v := 0) dX3_workOn_9 rfl ?_
  obtain ⟨S3, h4, h⟩ := bV_e h
  refine r_cSV (y := mJ7_fill_53178) (As := [.ref 28, .int 0]) (rest := []) dX3_workOn_10 qX3_42 kJ7_fill_53178 rfl (okJ7_fill_53178 N 28 0 S1 S3 h4) (by decide) (Nat.zero_le _) rfl (Nat.le_of_ble_eq_true rfl) ?_
  refine r_aload_n (x := 5) dX3_workOn_13 rfl ?_
  refine r_iconst (v := 0) dX3_workOn_14 rfl ?_
  refine r_putI dX3_workOn_15 lX3_35 ck5 nC5 ?_
  refine r_topS (fun S5 hS5 => ?_)
  replace h := lt_e hS5 h
  refine r_aload_n (x := 5) dX3_workOn_18 rfl ?_
  refine r_iconst (v := 0) dX3_workOn_19 rfl ?_
  refine r_putI dX3_workOn_20 lX3_39 ck5 nC5 ?_
  refine r_topS (fun S6 hS6 => ?_)
  replace h := lt_e hS6 h
  cases h
  exact r_return dX3_workOn_23 rfl (Nat.zero_le _) ⟨rfl, rfl⟩
def fX3_workOnCopy (N : Nat) (p0 : Nat) (S : PS) : Option PS :=
  bV (fX2_copy N 20 p0 S) fun S2 =>
  bV (fX3_workOn N 20 S2) fun S5 =>
  some S5
set_option maxHeartbeats 4000000 in
set_option maxRecDepth 100000 in
theorem okX3_workOnCopy (N : Nat) (p0 : Nat) (S : PS) (T : PS) (h : fX3_workOnCopy N p0 S = some T) : CT mX3_workOnCopy 4 0 [.ref 5, .ref p0] S (qV T) := by
  refine ct_of [some (.ref 5), some (.ref p0)] rfl (fun _ => rfl) (fun _ => Nat.le_of_ble_eq_true rfl) ?_
  unfold fX3_workOnCopy at h
  refine r_aload_n (x := 5) dX3_workOnCopy_0 rfl ?_
  refine r_getfield (o := 5) (v := .ref 20) dX3_workOnCopy_1 lX3_12 ck5 nC5 rfl ?_
  refine r_aload_n (x := p0) dX3_workOnCopy_4 rfl ?_
  obtain ⟨S2, h3, h⟩ := bV_e h
  refine r_cVV (y := mX2_copy) (As := [.ref p0]) (rest := []) dX3_workOnCopy_5 qX3_48 kX2_copy rfl ob20 vc2 rfl (okX2_copy N 20 p0 S S2 h3) (by decide) (Nat.zero_le _) rfl (Nat.le_of_ble_eq_true rfl) ?_
  refine r_aload_n (x := 5) dX3_workOnCopy_8 rfl ?_
  refine r_aload_n (x := 5) dX3_workOnCopy_9 rfl ?_
  refine r_getfield (o := 5) (v := .ref 20) dX3_workOnCopy_10 lX3_12 ck5 nC5 rfl ?_
  obtain ⟨S5, h6, h⟩ := bV_e h
  refine r_cVV (y := mX3_workOn) (As := [.ref 20]) (rest := []) dX3_workOnCopy_13 qX3_52 kX3_workOn rfl ob5 vc3 rfl (okX3_workOn N 20 S2 S5 h6) (by decide) (Nat.zero_le _) rfl (Nat.le_of_ble_eq_true rfl) ?_
  cases h
  exact r_return dX3_workOnCopy_16 rfl (Nat.zero_le _) ⟨rfl, rfl⟩
