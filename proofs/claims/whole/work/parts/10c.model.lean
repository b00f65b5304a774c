def fX12_isSoon (N : Nat) (p0 : Int32) (p1 : Int32) (p2 : Int32) (S : PS) : Option (Int32 × PS) :=
  bI (fX12_within N p0 p1 200 S) fun x1 S2 =>
  bI (fX12_right N x1 p2 S2) fun x4 S5 =>
  gd (b01 x4) <|
  some (x4, S5)
set_option maxHeartbeats 4000000 in
set_option maxRecDepth 100000 in
theorem okX12_isSoon (N : Nat) (p0 : Int32) (p1 : Int32) (p2 : Int32) (S : PS) (r : Int32) (T : PS) (h : fX12_isSoon N p0 p1 p2 S = some (r, T)) : CT mX12_isSoon 1 0 [.ref 80, .int p0, .int p1, .int p2] S (qI r T) := by
  refine ct_of [some (.ref 80), some (.int p0), some (.int p1), some (.int p2)] rfl (fun _ => rfl) (fun _ => Nat.le_of_ble_eq_true rfl) ?_
  unfold fX12_isSoon at h
  refine r_aload_n (x := 80) dX12_isSoon_0 rfl ?_
  refine r_iload_n (x := p0) dX12_isSoon_1 rfl ?_
  refine r_iload_n (x := p1) dX12_isSoon_2 rfl ?_
  refine r_sipush (v := 200) dX12_isSoon_3 rfl ?_
  obtain ⟨x1, S2, h3, h⟩ := bI_e h
  refine r_cSI (y := mX12_within) (As := [.int p0, .int p1, .int 200]) (rest := [.ref 80]) dX12_isSoon_6 qX12_332 kX12_within rfl (okX12_within N p0 p1 200 S x1 S2 h3) (by decide) (Nat.zero_le _) rfl (Nat.le_of_ble_eq_true rfl) ?_
  refine r_iload_n (x := p2) dX12_isSoon_9 rfl ?_
  obtain ⟨x4, S5, h6, h⟩ := bI_e h
  refine r_cVI (y := mX12_right) (As := [.int x1, .int p2]) (rest := []) dX12_isSoon_10 qX12_262 kX12_right rfl ob80 vc12 rfl (okX12_right N x1 p2 S2 x4 S5 h6) (by decide) (Nat.zero_le _) rfl (Nat.le_of_ble_eq_true rfl) ?_
  obtain ⟨g7, h⟩ := gd_e h
  cases h
  exact r_zreturn dX12_isSoon_13 rfl (nar01 g7) (Nat.zero_le _) ⟨rfl, rfl⟩
def fX12_deep_22 (N : Nat) (v1 : Int32) (v2 : Int32) : Nat → Int32 → PS → Option (Int32 × PS)
  | 0, _, _ => none
  | n + 1, v3, S =>
    (if (S.1 80 1) ≤ v3 then
      some (v3, S)
    else
      bI (fX12_goesInto N v2 v3 S) fun x7 S8 =>
      (if x7 = 0 then
        lt (v3 + 1 : Int32) fun x11 =>
        fX12_deep_22 N v1 v2 n x11 S8
      else
        gd (inr v2 9) <|
        gd (inr v3 9) <|
        bI (fX12_greater N (S8.1 97 (ix v2)) (1 + (S8.1 97 (ix v3))) S8) fun x14 S15 =>
        gd (inr v2 9) <|
        lt ((u2 S15.1 97 (ix v2) x14, S15.2) : PS) fun S18 =>
        lt (v3 + 1 : Int32) fun x19 =>
        fX12_deep_22 N v1 v2 n x19 S18))
set_option maxHeartbeats 4000000 in
set_option maxRecDepth 100000 in
theorem okX12_deep_22 (N : Nat) (v1 : Int32) (v2 : Int32) (Q : OQ) (u : Nat) (hu : u ≤ 0) : ∀ (n : Nat) (v3 : Int32) (S : PS) (y3 : Int32) (T : PS), fX12_deep_22 N v1 v2 n v3 S = some (y3, T) → WP [] mX12_deep 1 0 Q 68 [some (.ref 80), some (.int v1), some (.int v2), some (.int y3)] [] T u → WP [] mX12_deep 1 0 Q 22 [some (.ref 80), some (.int v1), some (.int v2), some (.int v3)] [] S u := by
  intro n
  induction n with
  | zero => intro v3 S y3 T h; rw [fX12_deep_22] at h; cases h
  | succ n ih =>
    intro v3 S y3 T h k0
    rw [fX12_deep_22] at h
    refine r_iload_n (x := v3) dX12_deep_22 rfl ?_
    refine r_aload_n (x := 80) dX12_deep_23 rfl ?_
    refine r_getfield (o := 80) (v := .int (S.1 80 1)) dX12_deep_24 lX12_269 ck80 nC80 rfl ?_
    refine r_icmp_ge (tgt := 68) dX12_deep_27 (by decide) (fun c6 => ?_) (fun c6 => ?_)
    · rw [if_pos c6] at h
      cases h
      exact k0
    · rw [if_neg c6] at h
      refine r_aload_n (x := 80) dX12_deep_30 rfl ?_
      refine r_iload_n (x := v2) dX12_deep_31 rfl ?_
      refine r_iload_n (x := v3) dX12_deep_32 rfl ?_
      obtain ⟨x7, S8, h9, h⟩ := bI_e h
      refine r_cVI (y := mX12_goesInto) (As := [.int v2, .int v3]) (rest := []) dX12_deep_33 qX12_329 kX12_goesInto rfl ob80 vc12 rfl (okX12_goesInto N v2 v3 S x7 S8 h9) (by decide) hu rfl (Nat.le_of_ble_eq_true rfl) ?_
      refine r_if_eq (tgt := 62) dX12_deep_36 (by decide) (fun c10 => ?_) (fun c10 => ?_)
      · rw [if_pos c10] at h
        obtain ⟨x11, hx11⟩ : ∃ y : Int32, y = (v3 + 1 : Int32) := ⟨_, rfl⟩
        replace h := lt_e hx11 h
        refine r_iinc (x := v3) (v := x11) (L' := [some (.ref 80), some (.int v1), some (.int v2), some (.int x11)]) dX12_deep_62 rfl (by rw [hx11]; rfl) (Nat.le_of_ble_eq_true rfl) rfl rfl ?_
        refine r_goto (tgt := 22) dX12_deep_65 (by decide) ?_
        exact ih _ _ _ _ h k0
      · rw [if_neg c10] at h
        refine r_aload_n (x := 80) dX12_deep_39 rfl ?_
        refine r_getfield (o := 80) (v := .ref 97) dX12_deep_40 lX12_72 ck80 nC80 rfl ?_
        refine r_iload_n (x := v2) dX12_deep_43 rfl ?_
        refine r_aload_n (x := 80) dX12_deep_44 rfl ?_
        refine r_getfield (o := 80) (v := .ref 97) dX12_deep_45 lX12_72 ck80 nC80 rfl ?_
        refine r_iload_n (x := v2) dX12_deep_48 rfl ?_
        obtain ⟨g12, h⟩ := gd_e h
        refine r_iaload (a := 97) dX12_deep_49 ck97 nC97 (inr_IX g12) ?_
        refine r_iconst (v := 1) dX12_deep_50 rfl ?_
        refine r_aload_n (x := 80) dX12_deep_51 rfl ?_
        refine r_getfield (o := 80) (v := .ref 97) dX12_deep_52 lX12_72 ck80 nC80 rfl ?_
        refine r_iload_n (x := v3) dX12_deep_55 rfl ?_
        obtain ⟨g13, h⟩ := gd_e h
        refine r_iaload (a := 97) dX12_deep_56 ck97 nC97 (inr_IX g13) ?_
        refine r_iadd dX12_deep_57 ?_
        obtain ⟨x14, S15, h16, h⟩ := bI_e h
        refine r_cSI (y := mX12_greater) (As := [.int (S8.1 97 (ix v2)), .int (1 + (S8.1 97 (ix v3)))]) (rest := [.int v2, .ref 97]) dX12_deep_58 qX12_348 kX12_greater rfl (okX12_greater N (S8.1 97 (ix v2)) (1 + (S8.1 97 (ix v3))) S8 x14 S15 h16) (by decide) hu rfl (Nat.le_of_ble_eq_true rfl) ?_
        obtain ⟨g17, h⟩ := gd_e h
        refine r_iastore (a := 97) dX12_deep_61 ck97 nC97 (inr_IX g17) ?_
        refine r_topS (fun S18 hS18 => ?_)
        replace h := lt_e hS18 h
        obtain ⟨x19, hx19⟩ : ∃ y : Int32, y = (v3 + 1 : Int32) := ⟨_, rfl⟩
        replace h := lt_e hx19 h
        refine r_iinc (x := v3) (v := x19) (L' := [some (.ref 80), some (.int v1), some (.int v2), some (.int x19)]) dX12_deep_62 rfl (by rw [hx19]; rfl) (Nat.le_of_ble_eq_true rfl) rfl rfl ?_
        refine r_goto (tgt := 22) dX12_deep_65 (by decide) ?_
        exact ih _ _ _ _ h k0
def fX12_deep_7 (N : Nat) (v1 : Int32) : Nat → Int32 → PS → Option (Int32 × PS)
  | 0, _, _ => none
  | n + 1, v2, S =>
    (if v2 < 0 then
      some (v2, S)
    else
      gd (inr v2 9) <|
      lt ((u2 S.1 97 (ix v2) 0, S.2) : PS) fun S4 =>
      lt ((v2 + 1) : Int32) fun x5 =>
      bT (fX12_deep_22 N v1 v2 N x5 S4) fun q20 =>
      lt (q20.1 : Int32) fun x21 =>
      lt (q20.2 : PS) fun S22 =>
      lt (v2 + (-1) : Int32) fun x25 =>
      fX12_deep_7 N v1 n x25 S22)
set_option maxHeartbeats 4000000 in
set_option maxRecDepth 100000 in
theorem okX12_deep_7 (N : Nat) (v1 : Int32) (Q : OQ) (u : Nat) (hu : u ≤ 0) : ∀ (n : Nat) (v2 : Int32) (S : PS) (y2 : Int32) (T : PS), fX12_deep_7 N v1 n v2 S = some (y2, T) → WP [] mX12_deep 1 0 Q 74 [some (.ref 80), some (.int v1), some (.int y2), none] [] T u → WP [] mX12_deep 1 0 Q 7 [some (.ref 80), some (.int v1), some (.int v2), none] [] S u := by
  intro n
  induction n with
  | zero => intro v2 S y2 T h; rw [fX12_deep_7] at h; cases h
  | succ n ih =>
    intro v2 S y2 T h k0
    rw [fX12_deep_7] at h
    refine r_iload_n (x := v2) dX12_deep_7 rfl ?_
    refine r_if_lt (tgt := 74) dX12_deep_8 (by decide) (fun c2 => ?_) (fun c2 => ?_)
    · rw [if_pos c2] at h
      cases h
      exact k0
    · rw [if_neg c2] at h
      refine r_aload_n (x := 80) dX12_deep_11 rfl ?_
      refine r_getfield (o := 80) (v := .ref 97) dX12_deep_12 lX12_72 ck80 nC80 rfl ?_
      refine r_iload_n (x := v2) dX12_deep_15 rfl ?_
      refine r_iconst (v := 0) dX12_deep_16 rfl ?_
      obtain ⟨g3, h⟩ := gd_e h
      refine r_iastore (a := 97) dX12_deep_17 ck97 nC97 (inr_IX g3) ?_
      refine r_topS (fun S4 hS4 => ?_)
      replace h := lt_e hS4 h
      refine r_iload_n (x := v2) dX12_deep_18 rfl ?_
      refine r_iconst (v := 1) dX12_deep_19 rfl ?_
      refine r_iadd dX12_deep_20 ?_
      refine r_topi (fun x5 hx5 => ?_)
      replace h := lt_e hx5 h
      refine r_istore_n (L' := [some (.ref 80), some (.int v1), some (.int v2), some (.int x5)]) dX12_deep_21 (Nat.le_of_ble_eq_true rfl) rfl rfl ?_
      obtain ⟨⟨x21, S22⟩, h24, h⟩ := bT_e h
      dsimp only at h
      replace h := pl_s (pl_s (h))
      refine okX12_deep_22 N v1 v2 Q u hu _ _ _ _ _ h24 ?_
      obtain ⟨x25, hx25⟩ : ∃ y : Int32, y = (v2 + (-1) : Int32) := ⟨_, rfl⟩
      replace h := lt_e hx25 h
      refine r_iinc (x := v2) (v := x25) (L' := [some (.ref 80), some (.int v1), some (.int x25), some (.int x21)]) dX12_deep_68 rfl (by rw [hx25]; rfl) (Nat.le_of_ble_eq_true rfl) rfl rfl ?_
      refine r_goto (tgt := 7) dX12_deep_71 (by decide) ?_
      refine r_drop [true, true, true, false] rfl ?_
      exact ih _ _ _ _ h k0
def fX12_deep (N : Nat) (p0 : Int32) (S : PS) : Option (Int32 × PS) :=
  lt (((S.1 80 1) - 1) : Int32) fun x1 =>
  bT (fX12_deep_7 N p0 N x1 S) fun q26 =>
  lt (q26.1 : Int32) fun x27 =>
  lt (q26.2 : PS) fun S28 =>
  gd (inr p0 9) <|
  some ((S28.1 97 (ix p0)), S28)
set_option maxHeartbeats 4000000 in
set_option maxRecDepth 100000 in
theorem okX12_deep (N : Nat) (p0 : Int32) (S : PS) (r : Int32) (T : PS) (h : fX12_deep N p0 S = some (r, T)) : CT mX12_deep 1 0 [.ref 80, .int p0] S (qI r T) := by
  refine ct_of [some (.ref 80), some (.int p0), none, none] rfl (fun _ => rfl) (fun _ => Nat.le_of_ble_eq_true rfl) ?_
  unfold fX12_deep at h
  refine r_aload_n (x := 80) dX12_deep_0 rfl ?_
  refine r_getfield (o := 80) (v := .int (S.1 80 1)) dX12_deep_1 lX12_269 ck80 nC80 rfl ?_
  refine r_iconst (v := 1) dX12_deep_4 rfl ?_
  refine r_isub dX12_deep_5 ?_
  refine r_topi (fun x1 hx1 => ?_)
  replace h := lt_e hx1 h
  refine r_istore_n (L' := [some (.ref 80), some (.int p0), some (.int x1), none]) dX12_deep_6 (Nat.le_of_ble_eq_true rfl) rfl rfl ?_
  obtain ⟨⟨x27, S28⟩, h30, h⟩ := bT_e h
  dsimp only at h
  replace h := pl_s (pl_s (h))
  refine okX12_deep_7 N p0 (qI r T) 0 (Nat.zero_le _) _ _ _ _ _ h30 ?_
  refine r_aload_n (x := 80) dX12_deep_74 rfl ?_
  refine r_getfield (o := 80) (v := .ref 97) dX12_deep_75 lX12_72 ck80 nC80 rfl ?_
  refine r_iload_n (x := p0) dX12_deep_78 rfl ?_
  obtain ⟨g31, h⟩ := gd_e h
  refine r_iaload (a := 97) dX12_deep_79 ck97 nC97 (inr_IX g31) ?_
  cases h
  exact r_ireturn dX12_deep_80 rfl (Nat.zero_le _) ⟨rfl, rfl⟩
def fX12_into (N : Nat) (p0 : Int32) (p1 : Int32) (S : PS) : Option (Int32 × PS) :=
  gd (inr (28 + p0) 128) <|
  (if (S.1 91 (ix (28 + p0))) = (-1) then
    gd (inr (19 + p0) 128) <|
    some ((S.1 91 (ix (19 + p0))), S)
  else
    gd (inr (37 + p0) 128) <|
    (if (((S.1 91 (ix (37 + p0))) + p1) - ((S.1 91 (ix (37 + p0))) + p1) / 2 * 2) = 0 then
      gd (inr (19 + p0) 128) <|
      some ((S.1 91 (ix (19 + p0))), S)
    else
      gd (inr (28 + p0) 128) <|
      some ((S.1 91 (ix (28 + p0))), S)))
set_option maxHeartbeats 4000000 in
set_option maxRecDepth 100000 in
theorem okX12_into (N : Nat) (p0 : Int32) (p1 : Int32) (S : PS) (r : Int32) (T : PS) (h : fX12_into N p0 p1 S = some (r, T)) : CT mX12_into 0 0 [.ref 80, .int p0, .int p1] S (qI r T) := by
  refine ct_of [some (.ref 80), some (.int p0), some (.int p1)] rfl (fun _ => rfl) (fun _ => Nat.le_of_ble_eq_true rfl) ?_
  unfold fX12_into at h
  refine r_aload_n (x := 80) dX12_into_0 rfl ?_
  refine r_getfield (o := 80) (v := .ref 91) dX12_into_1 lX12_51 ck80 nC80 rfl ?_
  refine r_bipush (v := 28) dX12_into_4 rfl ?_
  refine r_iload_n (x := p0) dX12_into_6 rfl ?_
  refine r_iadd dX12_into_7 ?_
  obtain ⟨g1, h⟩ := gd_e h
  refine r_iaload (a := 91) dX12_into_8 ck91 nC91 (inr_IX g1) ?_
  refine r_iconst (v := (-1)) dX12_into_9 rfl ?_
  refine r_icmp_ne (tgt := 23) dX12_into_10 (by decide) (fun c2 => ?_) (fun c2 => ?_)
  · rw [if_neg c2] at h
    refine r_aload_n (x := 80) dX12_into_23 rfl ?_
    refine r_getfield (o := 80) (v := .ref 91) dX12_into_24 lX12_51 ck80 nC80 rfl ?_
    refine r_bipush (v := 37) dX12_into_27 rfl ?_
    refine r_iload_n (x := p0) dX12_into_29 rfl ?_
    refine r_iadd dX12_into_30 ?_
    obtain ⟨g3, h⟩ := gd_e h
    refine r_iaload (a := 91) dX12_into_31 ck91 nC91 (inr_IX g3) ?_
    refine r_iload_n (x := p1) dX12_into_32 rfl ?_
    refine r_iadd dX12_into_33 ?_
    refine r_iconst (v := 2) dX12_into_34 rfl ?_
    refine r_irem dX12_into_35 (by decide) ?_
    refine r_if_ne (tgt := 51) dX12_into_36 (by decide) (fun c4 => ?_) (fun c4 => ?_)
    · rw [if_neg c4] at h
      refine r_aload_n (x := 80) dX12_into_51 rfl ?_
      refine r_getfield (o := 80) (v := .ref 91) dX12_into_52 lX12_51 ck80 nC80 rfl ?_
      refine r_bipush (v := 28) dX12_into_55 rfl ?_
      refine r_iload_n (x := p0) dX12_into_57 rfl ?_
      refine r_iadd dX12_into_58 ?_
      obtain ⟨g5, h⟩ := gd_e h
      refine r_iaload (a := 91) dX12_into_59 ck91 nC91 (inr_IX g5) ?_
      cases h
      exact r_ireturn dX12_into_60 rfl (Nat.zero_le _) ⟨rfl, rfl⟩
    · rw [if_pos c4] at h
      refine r_aload_n (x := 80) dX12_into_39 rfl ?_
      refine r_getfield (o := 80) (v := .ref 91) dX12_into_40 lX12_51 ck80 nC80 rfl ?_
      refine r_bipush (v := 19) dX12_into_43 rfl ?_
      refine r_iload_n (x := p0) dX12_into_45 rfl ?_
      refine r_iadd dX12_into_46 ?_
      obtain ⟨g6, h⟩ := gd_e h
      refine r_iaload (a := 91) dX12_into_47 ck91 nC91 (inr_IX g6) ?_
      refine r_goto (tgt := 60) dX12_into_48 (by decide) ?_
      cases h
      exact r_ireturn dX12_into_60 rfl (Nat.zero_le _) ⟨rfl, rfl⟩
  · rw [if_pos c2] at h
    refine r_aload_n (x := 80) dX12_into_13 rfl ?_
    refine r_getfield (o := 80) (v := .ref 91) dX12_into_14 lX12_51 ck80 nC80 rfl ?_
    refine r_bipush (v := 19) dX12_into_17 rfl ?_
    refine r_iload_n (x := p0) dX12_into_19 rfl ?_
    refine r_iadd dX12_into_20 ?_
    obtain ⟨g7, h⟩ := gd_e h
    refine r_iaload (a := 91) dX12_into_21 ck91 nC91 (inr_IX g7) ?_
    cases h
    exact r_ireturn dX12_into_22 rfl (Nat.zero_le _) ⟨rfl, rfl⟩
def fX12_cup (N : Nat) (p0 : Int32) (p1 : Int32) (S : PS) : Option (Int32 × PS) :=
  lt ((u2 S.1 80 0 0, S.2) : PS) fun S1 =>
  bI (fX12_isCup N p0 S1) fun x2 S3 =>
  (if x2 = 0 then
    some (0, S3)
  else
    bI (fX12_isWhat N p1 8 S3) fun x6 S7 =>
    (if x6 = 0 then
      some (0, S7)
    else
      (if p1 = 0 then
        gd (inr (1 + p0) 128) <|
        some ((S7.1 91 (ix (1 + p0))), S7)
      else if p1 = 1 then
        gd (inr (10 + p0) 128) <|
        some ((S7.1 91 (ix (10 + p0))), S7)
      else if p1 = 2 then
        gd (inr p0 9) <|
        some ((S7.1 81 (ix p0)), S7)
      else if p1 = 3 then
        bI (fX12_into N p0 0 S7) fun x17 S18 =>
        some (x17, S18)
      else if p1 = 4 then
        bI (fX12_into N p0 1 S7) fun x21 S22 =>
        some (x21, S22)
      else if p1 = 5 then
        gd (inr (46 + p0) 128) <|
        some ((S7.1 91 (ix (46 + p0))), S7)
      else if p1 = 6 then
        gd (inr (55 + p0) 128) <|
        some ((S7.1 91 (ix (55 + p0))), S7)
      else if p1 = 7 then
        bI (fX12_deep N p0 S7) fun x29 S30 =>
        some (x29, S30)
      else 
        gd (inr (1 + p0) 128) <|
        gd (inr (10 + p0) 128) <|
        some (((S7.1 91 (ix (1 + p0))) - (S7.1 91 (ix (10 + p0)))), S7))))
set_option maxHeartbeats 4000000 in
set_option maxRecDepth 100000 in
theorem okX12_cup (N : Nat) (p0 : Int32) (p1 : Int32) (S : PS) (r : Int32) (T : PS) (h : fX12_cup N p0 p1 S = some (r, T)) : CT mX12_cup 2 0 [.ref 80, .int p0, .int p1] S (qI r T) := by
  refine ct_of [some (.ref 80), some (.int p0), some (.int p1)] rfl (fun _ => rfl) (fun _ => Nat.le_of_ble_eq_true rfl) ?_
  unfold fX12_cup at h
  refine r_aload_n (x := 80) dX12_cup_0 rfl ?_
  refine r_iconst (v := 0) dX12_cup_1 rfl ?_
  refine r_putI dX12_cup_2 lX12_114 ck80 nC80 ?_
  refine r_topS (fun S1 hS1 => ?_)
  replace h := lt_e hS1 h
  refine r_aload_n (x := 80) dX12_cup_5 rfl ?_
  refine r_iload_n (x := p0) dX12_cup_6 rfl ?_
  obtain ⟨x2, S3, h4, h⟩ := bI_e h
  refine r_cVI (y := mX12_isCup) (As := [.int p0]) (rest := []) dX12_cup_7 qX12_351 kX12_isCup rfl ob80 vc12 rfl (okX12_isCup N p0 S1 x2 S3 h4) (by decide) (Nat.zero_le _) rfl (Nat.le_of_ble_eq_true rfl) ?_
  refine r_if_eq (tgt := 23) dX12_cup_10 (by decide) (fun c5 => ?_) (fun c5 => ?_)
  · rw [if_pos c5] at h
    refine r_iconst (v := 0) dX12_cup_23 rfl ?_
    cases h
    exact r_ireturn dX12_cup_24 rfl (Nat.zero_le _) ⟨rfl, rfl⟩
  · rw [if_neg c5] at h
    refine r_aload_n (x := 80) dX12_cup_13 rfl ?_
    refine r_iload_n (x := p1) dX12_cup_14 rfl ?_
    refine r_bipush (v := 8) dX12_cup_15 rfl ?_
    obtain ⟨x6, S7, h8, h⟩ := bI_e h
    refine r_cVI (y := mX12_isWhat) (As := [.int p1, .int 8]) (rest := []) dX12_cup_17 qX12_354 kX12_isWhat rfl ob80 vc12 rfl (okX12_isWhat N p1 8 S3 x6 S7 h8) (by decide) (Nat.zero_le _) rfl (Nat.le_of_ble_eq_true rfl) ?_
    refine r_if_ne (tgt := 25) dX12_cup_20 (by decide) (fun c9 => ?_) (fun c9 => ?_)
    · rw [if_neg c9] at h
      refine r_iload_n (x := p1) dX12_cup_25 rfl ?_
      by_cases c10 : p1 = 0
      · rw [if_pos c10] at h
        refine r_tableIn (tgt := 72) dX12_cup_26 (by rw [c10]; decide) (by rw [c10]; decide) (by rw [c10]; rfl) (by decide) ?_
        refine r_aload_n (x := 80) dX12_cup_72 rfl ?_
        refine r_getfield (o := 80) (v := .ref 91) dX12_cup_73 lX12_51 ck80 nC80 rfl ?_
        refine r_iconst (v := 1) dX12_cup_76 rfl ?_
        refine r_iload_n (x := p0) dX12_cup_77 rfl ?_
        refine r_iadd dX12_cup_78 ?_
        obtain ⟨g11, h⟩ := gd_e h
        refine r_iaload (a := 91) dX12_cup_79 ck91 nC91 (inr_IX g11) ?_
        cases h
        exact r_ireturn dX12_cup_80 rfl (Nat.zero_le _) ⟨rfl, rfl⟩
      rw [if_neg c10] at h
      by_cases c12 : p1 = 1
      · rw [if_pos c12] at h
        refine r_tableIn (tgt := 81) dX12_cup_26 (by rw [c12]; decide) (by rw [c12]; decide) (by rw [c12]; rfl) (by decide) ?_
        refine r_aload_n (x := 80) dX12_cup_81 rfl ?_
        refine r_getfield (o := 80) (v := .ref 91) dX12_cup_82 lX12_51 ck80 nC80 rfl ?_
        refine r_bipush (v := 10) dX12_cup_85 rfl ?_
        refine r_iload_n (x := p0) dX12_cup_87 rfl ?_
        refine r_iadd dX12_cup_88 ?_
        obtain ⟨g13, h⟩ := gd_e h
        refine r_iaload (a := 91) dX12_cup_89 ck91 nC91 (inr_IX g13) ?_
        cases h
        exact r_ireturn dX12_cup_90 rfl (Nat.zero_le _) ⟨rfl, rfl⟩
      rw [if_neg c12] at h
      by_cases c14 : p1 = 2
      · rw [if_pos c14] at h
        refine r_tableIn (tgt := 91) dX12_cup_26 (by rw [c14]; decide) (by rw [c14]; decide) (by rw [c14]; rfl) (by decide) ?_
        refine r_aload_n (x := 80) dX12_cup_91 rfl ?_
        refine r_getfield (o := 80) (v := .ref 81) dX12_cup_92 lX12_16 ck80 nC80 rfl ?_
        refine r_iload_n (x := p0) dX12_cup_95 rfl ?_
        obtain ⟨g15, h⟩ := gd_e h
        refine r_iaload (a := 81) dX12_cup_96 ck81 nC81 (inr_IX g15) ?_
        cases h
        exact r_ireturn dX12_cup_97 rfl (Nat.zero_le _) ⟨rfl, rfl⟩
      rw [if_neg c14] at h
      by_cases c16 : p1 = 3
      · rw [if_pos c16] at h
        refine r_tableIn (tgt := 98) dX12_cup_26 (by rw [c16]; decide) (by rw [c16]; decide) (by rw [c16]; rfl) (by decide) ?_
        refine r_aload_n (x := 80) dX12_cup_98 rfl ?_
        refine r_iload_n (x := p0) dX12_cup_99 rfl ?_
        refine r_iconst (v := 0) dX12_cup_100 rfl ?_
        obtain ⟨x17, S18, h19, h⟩ := bI_e h
        refine r_cVI (y := mX12_into) (As := [.int p0, .int 0]) (rest := []) dX12_cup_101 qX12_357 kX12_into rfl ob80 vc12 rfl (okX12_into N p0 0 S7 x17 S18 h19) (by decide) (Nat.zero_le _) rfl (Nat.le_of_ble_eq_true rfl) ?_
        cases h
        exact r_ireturn dX12_cup_104 rfl (Nat.zero_le _) ⟨rfl, rfl⟩
      rw [if_neg c16] at h
      by_cases c20 : p1 = 4
      · rw [if_pos c20] at h
        refine r_tableIn (tgt := 105) dX12_cup_26 (by rw [c20]; decide) (by rw [c20]; decide) (by rw [c20]; rfl) (by decide) ?_
        refine r_aload_n (x := 80) dX12_cup_105 rfl ?_
        refine r_iload_n (x := p0) dX12_cup_106 rfl ?_
        refine r_iconst (v := 1) dX12_cup_107 rfl ?_
        obtain ⟨x21, S22, h23, h⟩ := bI_e h
        refine r_cVI (y := mX12_into) (As := [.int p0, .int 1]) (rest := []) dX12_cup_108 qX12_357 kX12_into rfl ob80 vc12 rfl (okX12_into N p0 1 S7 x21 S22 h23) (by decide) (Nat.zero_le _) rfl (Nat.le_of_ble_eq_true rfl) ?_
        cases h
        exact r_ireturn dX12_cup_111 rfl (Nat.zero_le _) ⟨rfl, rfl⟩
      rw [if_neg c20] at h
      by_cases c24 : p1 = 5
      · rw [if_pos c24] at h
        refine r_tableIn (tgt := 112) dX12_cup_26 (by rw [c24]; decide) (by rw [c24]; decide) (by rw [c24]; rfl) (by decide) ?_
        refine r_aload_n (x := 80) dX12_cup_112 rfl ?_
        refine r_getfield (o := 80) (v := .ref 91) dX12_cup_113 lX12_51 ck80 nC80 rfl ?_
        refine r_bipush (v := 46) dX12_cup_116 rfl ?_
        refine r_iload_n (x := p0) dX12_cup_118 rfl ?_
        refine r_iadd dX12_cup_119 ?_
        obtain ⟨g25, h⟩ := gd_e h
        refine r_iaload (a := 91) dX12_cup_120 ck91 nC91 (inr_IX g25) ?_
        cases h
        exact r_ireturn dX12_cup_121 rfl (Nat.zero_le _) ⟨rfl, rfl⟩
      rw [if_neg c24] at h
      by_cases c26 : p1 = 6
      · rw [if_pos c26] at h
        refine r_tableIn (tgt := 122) dX12_cup_26 (by rw [c26]; decide) (by rw [c26]; decide) (by rw [c26]; rfl) (by decide) ?_
        refine r_aload_n (x := 80) dX12_cup_122 rfl ?_
        refine r_getfield (o := 80) (v := .ref 91) dX12_cup_123 lX12_51 ck80 nC80 rfl ?_
        refine r_bipush (v := 55) dX12_cup_126 rfl ?_
        refine r_iload_n (x := p0) dX12_cup_128 rfl ?_
        refine r_iadd dX12_cup_129 ?_
        obtain ⟨g27, h⟩ := gd_e h
        refine r_iaload (a := 91) dX12_cup_130 ck91 nC91 (inr_IX g27) ?_
        cases h
        exact r_ireturn dX12_cup_131 rfl (Nat.zero_le _) ⟨rfl, rfl⟩
      rw [if_neg c26] at h
      by_cases c28 : p1 = 7
      · rw [if_pos c28] at h
        refine r_tableIn (tgt := 132) dX12_cup_26 (by rw [c28]; decide) (by rw [c28]; decide) (by rw [c28]; rfl) (by decide) ?_
        refine r_aload_n (x := 80) dX12_cup_132 rfl ?_
        refine r_iload_n (x := p0) dX12_cup_133 rfl ?_
        obtain ⟨x29, S30, h31, h⟩ := bI_e h
        refine r_cVI (y := mX12_deep) (As := [.int p0]) (rest := []) dX12_cup_134 qX12_360 kX12_deep rfl ob80 vc12 rfl (okX12_deep N p0 S7 x29 S30 h31) (by decide) (Nat.zero_le _) rfl (Nat.le_of_ble_eq_true rfl) ?_
        cases h
        exact r_ireturn dX12_cup_137 rfl (Nat.zero_le _) ⟨rfl, rfl⟩
      rw [if_neg c28] at h
      refine r_tableOut (tgt := 138) dX12_cup_26 (by have nc10 := lv_neT c10 (a := 0) rfl; have nc12 := lv_neT c12 (a := 1) rfl; have nc14 := lv_neT c14 (a := 2) rfl; have nc16 := lv_neT c16 (a := 3) rfl; have nc20 := lv_neT c20 (a := 4) rfl; have nc24 := lv_neT c24 (a := 5) rfl; have nc26 := lv_neT c26 (a := 6) rfl; have nc28 := lv_neT c28 (a := 7) rfl; omega) (by decide) ?_
      refine r_aload_n (x := 80) dX12_cup_138 rfl ?_
      refine r_getfield (o := 80) (v := .ref 91) dX12_cup_139 lX12_51 ck80 nC80 rfl ?_
      refine r_iconst (v := 1) dX12_cup_142 rfl ?_
      refine r_iload_n (x := p0) dX12_cup_143 rfl ?_
      refine r_iadd dX12_cup_144 ?_
      obtain ⟨g32, h⟩ := gd_e h
      refine r_iaload (a := 91) dX12_cup_145 ck91 nC91 (inr_IX g32) ?_
      refine r_aload_n (x := 80) dX12_cup_146 rfl ?_
      refine r_getfield (o := 80) (v := .ref 91) dX12_cup_147 lX12_51 ck80 nC80 rfl ?_
      refine r_bipush (v := 10) dX12_cup_150 rfl ?_
      refine r_iload_n (x := p0) dX12_cup_152 rfl ?_
      refine r_iadd dX12_cup_153 ?_
      obtain ⟨g33, h⟩ := gd_e h
      refine r_iaload (a := 91) dX12_cup_154 ck91 nC91 (inr_IX g33) ?_
      refine r_isub dX12_cup_155 ?_
      cases h
      exact r_ireturn dX12_cup_156 rfl (Nat.zero_le _) ⟨rfl, rfl⟩
    · rw [if_pos c9] at h
      refine r_iconst (v := 0) dX12_cup_23 rfl ?_
      cases h
      exact r_ireturn dX12_cup_24 rfl (Nat.zero_le _) ⟨rfl, rfl⟩
def fX12_hours_41 (N : Nat) (v1 : Int32) : Nat → Int32 → PS → Option (Int32 × PS)
  | 0, _, _ => none
  | n + 1, v2, S =>
    (if v1 ≤ v2 then
      some (v2, S)
    else
      bV (fX12_hourGoes N 0 S) fun S15 =>
      lt (v2 + 1 : Int32) fun x17 =>
      fX12_hours_41 N v1 n x17 S15)
set_option maxHeartbeats 4000000 in
set_option maxRecDepth 100000 in
theorem okX12_hours_41 (N : Nat) (v1 : Int32) (Q : OQ) (u : Nat) (hu : u ≤ 0) : ∀ (n : Nat) (v2 : Int32) (S : PS) (y2 : Int32) (T : PS), fX12_hours_41 N v1 n v2 S = some (y2, T) → WP [] mX12_hours 5 0 Q 57 [some (.ref 80), some (.int v1), some (.int y2)] [] T u → WP [] mX12_hours 5 0 Q 41 [some (.ref 80), some (.int v1), some (.int v2)] [] S u := by
  intro n
  induction n with
  | zero => intro v2 S y2 T h; rw [fX12_hours_41] at h; cases h
  | succ n ih =>
    intro v2 S y2 T h k0
    rw [fX12_hours_41] at h
    refine r_iload_n (x := v2) dX12_hours_41 rfl ?_
    refine r_iload_n (x := v1) dX12_hours_42 rfl ?_
    refine r_icmp_ge (tgt := 57) dX12_hours_43 (by decide) (fun c13 => ?_) (fun c13 => ?_)
    · rw [if_pos c13] at h
      cases h
      exact k0
    · rw [if_neg c13] at h
      refine r_aload_n (x := 80) dX12_hours_46 rfl ?_
      refine r_iconst (v := 0) dX12_hours_47 rfl ?_
      obtain ⟨S15, h16, h⟩ := bV_e h
      refine r_cVV (y := mX12_hourGoes) (As := [.int 0]) (rest := []) dX12_hours_48 qX12_323 kX12_hourGoes rfl ob80 vc12 rfl (okX12_hourGoes N 0 S S15 h16) (by decide) hu rfl (Nat.le_of_ble_eq_true rfl) ?_
      obtain ⟨x17, hx17⟩ : ∃ y : Int32, y = (v2 + 1 : Int32) := ⟨_, rfl⟩
      replace h := lt_e hx17 h
      refine r_iinc (x := v2) (v := x17) (L' := [some (.ref 80), some (.int v1), some (.int x17)]) dX12_hours_51 rfl (by rw [hx17]; rfl) (Nat.le_of_ble_eq_true rfl) rfl rfl ?_
      refine r_goto (tgt := 41) dX12_hours_54 (by decide) ?_
      exact ih _ _ _ _ h k0
def fX12_hours (N : Nat) (p0 : Int32) (S : PS) : Option (Int32 × PS) :=
  lt ((u2 S.1 80 0 0, S.2) : PS) fun S1 =>
  bI (fX12_within N p0 1 20 S1) fun x2 S3 =>
  (if x2 = 0 then
    bI (fX12_refuses N 1 S3) fun x6 S7 =>
    some (x6, S7)
  else
    (if ((S3.1 91 0) + p0) ≤ 9999 then
      bV (fX12_keeps N  S3) fun S11 =>
      bT (fX12_hours_41 N p0 N 0 S11) fun q18 =>
      lt (q18.1 : Int32) fun x19 =>
      lt (q18.2 : PS) fun S20 =>
      some ((S20.1 91 0), S20)
    else
      bI (fX12_refuses N 1 S3) fun x23 S24 =>
      some (x23, S24)))
set_option maxHeartbeats 4000000 in
set_option maxRecDepth 100000 in
theorem okX12_hours (N : Nat) (p0 : Int32) (S : PS) (r : Int32) (T : PS) (h : fX12_hours N p0 S = some (r, T)) : CT mX12_hours 5 0 [.ref 80, .int p0] S (qI r T) := by
  refine ct_of [some (.ref 80), some (.int p0), none] rfl (fun _ => rfl) (fun _ => Nat.le_of_ble_eq_true rfl) ?_
  unfold fX12_hours at h
  refine r_aload_n (x := 80) dX12_hours_0 rfl ?_
  refine r_iconst (v := 0) dX12_hours_1 rfl ?_
  refine r_putI dX12_hours_2 lX12_114 ck80 nC80 ?_
  refine r_topS (fun S1 hS1 => ?_)
  replace h := lt_e hS1 h
  refine r_iload_n (x := p0) dX12_hours_5 rfl ?_
  refine r_iconst (v := 1) dX12_hours_6 rfl ?_
  refine r_bipush (v := 20) dX12_hours_7 rfl ?_
  obtain ⟨x2, S3, h4, h⟩ := bI_e h
  refine r_cSI (y := mX12_within) (As := [.int p0, .int 1, .int 20]) (rest := []) dX12_hours_9 qX12_332 kX12_within rfl (okX12_within N p0 1 20 S1 x2 S3 h4) (by decide) (Nat.zero_le _) rfl (Nat.le_of_ble_eq_true rfl) ?_
  refine r_if_eq (tgt := 29) dX12_hours_12 (by decide) (fun c5 => ?_) (fun c5 => ?_)
  · rw [if_pos c5] at h
    refine r_aload_n (x := 80) dX12_hours_29 rfl ?_
    refine r_iconst (v := 1) dX12_hours_30 rfl ?_
    obtain ⟨x6, S7, h8, h⟩ := bI_e h
    refine r_cVI (y := mX12_refuses) (As := [.int 1]) (rest := []) dX12_hours_31 qX12_363 kX12_refuses rfl ob80 vc12 rfl (okX12_refuses N 1 S3 x6 S7 h8) (by decide) (Nat.zero_le _) rfl (Nat.le_of_ble_eq_true rfl) ?_
    cases h
    exact r_ireturn dX12_hours_34 rfl (Nat.zero_le _) ⟨rfl, rfl⟩
  · rw [if_neg c5] at h
    refine r_aload_n (x := 80) dX12_hours_15 rfl ?_
    refine r_getfield (o := 80) (v := .ref 91) dX12_hours_16 lX12_51 ck80 nC80 rfl ?_
    refine r_iconst (v := 0) dX12_hours_19 rfl ?_
    refine r_iaload (a := 91) (k9 := 0) dX12_hours_20 ck91 nC91 ⟨by decide, by decide⟩ ?_
    refine r_iload_n (x := p0) dX12_hours_21 rfl ?_
    refine r_iadd dX12_hours_22 ?_
    refine r_sipush (v := 9999) dX12_hours_23 rfl ?_
    refine r_icmp_le (tgt := 35) dX12_hours_26 (by decide) (fun c9 => ?_) (fun c9 => ?_)
    · rw [if_pos c9] at h
      refine r_aload_n (x := 80) dX12_hours_35 rfl ?_
      obtain ⟨S11, h12, h⟩ := bV_e h
      refine r_cVV (y := mX12_keeps) (As := []) (rest := []) dX12_hours_36 qX12_366 kX12_keeps rfl ob80 vc12 rfl (okX12_keeps N  S3 S11 h12) (by decide) (Nat.zero_le _) rfl (Nat.le_of_ble_eq_true rfl) ?_
      refine r_iconst (v := 0) dX12_hours_39 rfl ?_
      refine r_istore_n (L' := [some (.ref 80), some (.int p0), some (.int 0)]) dX12_hours_40 (Nat.le_of_ble_eq_true rfl) rfl rfl ?_
      obtain ⟨⟨x19, S20⟩, h22, h⟩ := bT_e h
      dsimp only at h
      replace h := pl_s (pl_s (h))
      refine okX12_hours_41 N p0 (qI r T) 0 (Nat.zero_le _) _ _ _ _ _ h22 ?_
      refine r_aload_n (x := 80) dX12_hours_57 rfl ?_
      refine r_getfield (o := 80) (v := .ref 91) dX12_hours_58 lX12_51 ck80 nC80 rfl ?_
      refine r_iconst (v := 0) dX12_hours_61 rfl ?_
      refine r_iaload (a := 91) (k9 := 0) dX12_hours_62 ck91 nC91 ⟨by decide, by decide⟩ ?_
      cases h
      exact r_ireturn dX12_hours_63 rfl (Nat.zero_le _) ⟨rfl, rfl⟩
    · rw [if_neg c9] at h
      refine r_aload_n (x := 80) dX12_hours_29 rfl ?_
      refine r_iconst (v := 1) dX12_hours_30 rfl ?_
      obtain ⟨x23, S24, h25, h⟩ := bI_e h
      refine r_cVI (y := mX12_refuses) (As := [.int 1]) (rest := []) dX12_hours_31 qX12_363 kX12_refuses rfl ob80 vc12 rfl (okX12_refuses N 1 S3 x23 S24 h25) (by decide) (Nat.zero_le _) rfl (Nat.le_of_ble_eq_true rfl) ?_
      cases h
      exact r_ireturn dX12_hours_34 rfl (Nat.zero_le _) ⟨rfl, rfl⟩
def fX12_leads (N : Nat) (p0 : Int32) (p1 : Int32) (p2 : Int32) (S : PS) : Option PS :=
  gd (inr ((p0 + 19) + p1) 128) <|
  lt ((u2 S.1 91 (ix ((p0 + 19) + p1)) p2, S.2) : PS) fun S2 =>
  gd (inr ((p0 + 28) + p1) 128) <|
  lt ((u2 S2.1 91 (ix ((p0 + 28) + p1)) (-1), S2.2) : PS) fun S4 =>
  gd (inr ((p0 + 37) + p1) 128) <|
  lt ((u2 S4.1 91 (ix ((p0 + 37) + p1)) 0, S4.2) : PS) fun S6 =>
  some S6
set_option maxHeartbeats 4000000 in
set_option maxRecDepth 100000 in
theorem okX12_leads (N : Nat) (p0 : Int32) (p1 : Int32) (p2 : Int32) (S : PS) (T : PS) (h : fX12_leads N p0 p1 p2 S = some T) : CT mX12_leads 0 0 [.ref 80, .int p0, .int p1, .int p2] S (qV T) := by
  refine ct_of [some (.ref 80), some (.int p0), some (.int p1), some (.int p2)] rfl (fun _ => rfl) (fun _ => Nat.le_of_ble_eq_true rfl) ?_
  unfold fX12_leads at h
  refine r_aload_n (x := 80) dX12_leads_0 rfl ?_
  refine r_getfield (o := 80) (v := .ref 91) dX12_leads_1 lX12_51 ck80 nC80 rfl ?_
  refine r_iload_n (x := p0) dX12_leads_4 rfl ?_
  refine r_bipush (v := 19) dX12_leads_5 rfl ?_
  refine r_iadd dX12_leads_7 ?_
  refine r_iload_n (x := p1) dX12_leads_8 rfl ?_
  refine r_iadd dX12_leads_9 ?_
  refine r_iload_n (x := p2) dX12_leads_10 rfl ?_
  obtain ⟨g1, h⟩ := gd_e h
  refine r_iastore (a := 91) dX12_leads_11 ck91 nC91 (inr_IX g1) ?_
  refine r_topS (fun S2 hS2 => ?_)
  replace h := lt_e hS2 h
  refine r_aload_n (x := 80) dX12_leads_12 rfl ?_
  refine r_getfield (o := 80) (v := .ref 91) dX12_leads_13 lX12_51 ck80 nC80 rfl ?_
  refine r_iload_n (x := p0) dX12_leads_16 rfl ?_
  refine r_bipush (v := 28) dX12_leads_17 rfl ?_
  refine r_iadd dX12_leads_19 ?_
  refine r_iload_n (x := p1) dX12_leads_20 rfl ?_
  refine r_iadd dX12_leads_21 ?_
  refine r_iconst (v := (-1)) dX12_leads_22 rfl ?_
  obtain ⟨g3, h⟩ := gd_e h
  refine r_iastore (a := 91) dX12_leads_23 ck91 nC91 (inr_IX g3) ?_
  refine r_topS (fun S4 hS4 => ?_)
  replace h := lt_e hS4 h
  refine r_aload_n (x := 80) dX12_leads_24 rfl ?_
  refine r_getfield (o := 80) (v := .ref 91) dX12_leads_25 lX12_51 ck80 nC80 rfl ?_
  refine r_iload_n (x := p0) dX12_leads_28 rfl ?_
  refine r_bipush (v := 37) dX12_leads_29 rfl ?_
  refine r_iadd dX12_leads_31 ?_
  refine r_iload_n (x := p1) dX12_leads_32 rfl ?_
  refine r_iadd dX12_leads_33 ?_
  refine r_iconst (v := 0) dX12_leads_34 rfl ?_
  obtain ⟨g5, h⟩ := gd_e h
  refine r_iastore (a := 91) dX12_leads_35 ck91 nC91 (inr_IX g5) ?_
  refine r_topS (fun S6 hS6 => ?_)
  replace h := lt_e hS6 h
  cases h
  exact r_return dX12_leads_36 rfl (Nat.zero_le _) ⟨rfl, rfl⟩
def fX12_lead (N : Nat) (p0 : Int32) (p1 : Int32) (S : PS) : Option (Int32 × PS) :=
  lt ((u2 S.1 80 0 0, S.2) : PS) fun S1 =>
  bI (fX12_isCup N p0 S1) fun x2 S3 =>
  (if x2 = 0 then
    some (0, S3)
  else
    (if p1 < (-1) then
      bI (fX12_right N 0 1 S3) fun x7 S8 =>
      (if x7 = 0 then
        some (0, S8)
      else
        (if p1 = (-1) then
          gd (inr (28 + p0) 128) <|
          (if (S8.1 91 (ix (28 + p0))) = (-1) then
            gd (inr (19 + p0) 128) <|
            (if (S8.1 91 (ix (19 + p0))) = p1 then
              bI (fX12_refuses N 1 S8) fun x28 S29 =>
              lt ((if x28 ≤ 0 then 0 else 1) : Int32) fun x32 =>
              gd (b01 x32) <|
              some (x32, S29)
            else
              bV (fX12_keeps N  S8) fun S23 =>
              bV (fX12_leads N 0 p0 p1 S23) fun S26 =>
              some (1, S26))
          else
            bV (fX12_keeps N  S8) fun S15 =>
            bV (fX12_leads N 0 p0 p1 S15) fun S18 =>
            some (1, S18))
        else
          (if p1 ≤ p0 then
            bI (fX12_refuses N 1 S8) fun x35 S36 =>
            lt ((if x35 ≤ 0 then 0 else 1) : Int32) fun x39 =>
            gd (b01 x39) <|
            some (x39, S36)
          else
            gd (inr (28 + p0) 128) <|
            (if (S8.1 91 (ix (28 + p0))) = (-1) then
              gd (inr (19 + p0) 128) <|
              (if (S8.1 91 (ix (19 + p0))) = p1 then
                bI (fX12_refuses N 1 S8) fun x57 S58 =>
                lt ((if x57 ≤ 0 then 0 else 1) : Int32) fun x61 =>
                gd (b01 x61) <|
                some (x61, S58)
              else
                bV (fX12_keeps N  S8) fun S52 =>
                bV (fX12_leads N 0 p0 p1 S52) fun S55 =>
                some (1, S55))
            else
              bV (fX12_keeps N  S8) fun S44 =>
              bV (fX12_leads N 0 p0 p1 S44) fun S47 =>
              some (1, S47)))))
    else
      lt ((if (S3.1 80 1) ≤ p1 then 0 else 1) : Int32) fun x64 =>
      bI (fX12_right N x64 1 S3) fun x65 S66 =>
      (if x65 = 0 then
        some (0, S66)
      else
        (if p1 = (-1) then
          gd (inr (28 + p0) 128) <|
          (if (S66.1 91 (ix (28 + p0))) = (-1) then
            gd (inr (19 + p0) 128) <|
            (if (S66.1 91 (ix (19 + p0))) = p1 then
              bI (fX12_refuses N 1 S66) fun x86 S87 =>
              lt ((if x86 ≤ 0 then 0 else 1) : Int32) fun x90 =>
              gd (b01 x90) <|
              some (x90, S87)
            else
              bV (fX12_keeps N  S66) fun S81 =>
              bV (fX12_leads N 0 p0 p1 S81) fun S84 =>
              some (1, S84))
          else
            bV (fX12_keeps N  S66) fun S73 =>
            bV (fX12_leads N 0 p0 p1 S73) fun S76 =>
            some (1, S76))
        else
          (if p1 ≤ p0 then
            bI (fX12_refuses N 1 S66) fun x93 S94 =>
            lt ((if x93 ≤ 0 then 0 else 1) : Int32) fun x97 =>
            gd (b01 x97) <|
            some (x97, S94)
          else
            gd (inr (28 + p0) 128) <|
            (if (S66.1 91 (ix (28 + p0))) = (-1) then
              gd (inr (19 + p0) 128) <|
              (if (S66.1 91 (ix (19 + p0))) = p1 then
                bI (fX12_refuses N 1 S66) fun x115 S116 =>
                lt ((if x115 ≤ 0 then 0 else 1) : Int32) fun x119 =>
                gd (b01 x119) <|
                some (x119, S116)
              else
                bV (fX12_keeps N  S66) fun S110 =>
                bV (fX12_leads N 0 p0 p1 S110) fun S113 =>
                some (1, S113))
            else
              bV (fX12_keeps N  S66) fun S102 =>
              bV (fX12_leads N 0 p0 p1 S102) fun S105 =>
              some (1, S105)))))))
set_option maxHeartbeats 4000000 in
set_option maxRecDepth 100000 in
theorem okX12_lead (N : Nat) (p0 : Int32) (p1 : Int32) (S : PS) (r : Int32) (T : PS) (h : fX12_lead N p0 p1 S = some (r, T)) : CT mX12_lead 2 0 [.ref 80, .int p0, .int p1] S (qI r T) := by
  refine ct_of [some (.ref 80), some (.int p0), some (.int p1)] rfl (fun _ => rfl) (fun _ => Nat.le_of_ble_eq_true rfl) ?_
  unfold fX12_lead at h
  refine r_aload_n (x := 80) dX12_lead_0 rfl ?_
  refine r_iconst (v := 0) dX12_lead_1 rfl ?_
  refine r_putI dX12_lead_2 lX12_114 ck80 nC80 ?_
  refine r_topS (fun S1 hS1 => ?_)
  replace h := lt_e hS1 h
  refine r_aload_n (x := 80) dX12_lead_5 rfl ?_
  refine r_iload_n (x := p0) dX12_lead_6 rfl ?_
  obtain ⟨x2, S3, h4, h⟩ := bI_e h
  refine r_cVI (y := mX12_isCup) (As := [.int p0]) (rest := []) dX12_lead_7 qX12_351 kX12_isCup rfl ob80 vc12 rfl (okX12_isCup N p0 S1 x2 S3 h4) (by decide) (Nat.zero_le _) rfl (Nat.le_of_ble_eq_true rfl) ?_
  refine r_if_eq (tgt := 39) dX12_lead_10 (by decide) (fun c5 => ?_) (fun c5 => ?_)
  · rw [if_pos c5] at h
    refine r_iconst (v := 0) dX12_lead_39 rfl ?_
    cases h
    exact r_zreturn dX12_lead_40 rfl rfl (Nat.zero_le _) ⟨rfl, rfl⟩
  · rw [if_neg c5] at h
    refine r_aload_n (x := 80) dX12_lead_13 rfl ?_
    refine r_iload_n (x := p1) dX12_lead_14 rfl ?_
    refine r_iconst (v := (-1)) dX12_lead_15 rfl ?_
    refine r_icmp_lt (tgt := 31) dX12_lead_16 (by decide) (fun c6 => ?_) (fun c6 => ?_)
    · rw [if_pos c6] at h
      refine r_iconst (v := 0) dX12_lead_31 rfl ?_
      refine r_iconst (v := 1) dX12_lead_32 rfl ?_
      obtain ⟨x7, S8, h9, h⟩ := bI_e h
      refine r_cVI (y := mX12_right) (As := [.int 0, .int 1]) (rest := []) dX12_lead_33 qX12_262 kX12_right rfl ob80 vc12 rfl (okX12_right N 0 1 S3 x7 S8 h9) (by decide) (Nat.zero_le _) rfl (Nat.le_of_ble_eq_true rfl) ?_
      refine r_if_ne (tgt := 41) dX12_lead_36 (by decide) (fun c10 => ?_) (fun c10 => ?_)
      · rw [if_neg c10] at h
        refine r_iload_n (x := p1) dX12_lead_41 rfl ?_
        refine r_iconst (v := (-1)) dX12_lead_42 rfl ?_
        refine r_icmp_eq (tgt := 51) dX12_lead_43 (by decide) (fun c11 => ?_) (fun c11 => ?_)
        · rw [if_pos c11] at h
          refine r_aload_n (x := 80) dX12_lead_51 rfl ?_
          refine r_getfield (o := 80) (v := .ref 91) dX12_lead_52 lX12_51 ck80 nC80 rfl ?_
          refine r_bipush (v := 28) dX12_lead_55 rfl ?_
          refine r_iload_n (x := p0) dX12_lead_57 rfl ?_
          refine r_iadd dX12_lead_58 ?_
          obtain ⟨g12, h⟩ := gd_e h
          refine r_iaload (a := 91) dX12_lead_59 ck91 nC91 (inr_IX g12) ?_
          refine r_iconst (v := (-1)) dX12_lead_60 rfl ?_
          refine r_icmp_ne (tgt := 91) dX12_lead_61 (by decide) (fun c13 => ?_) (fun c13 => ?_)
          · rw [if_neg c13] at h
            refine r_aload_n (x := 80) dX12_lead_91 rfl ?_
            obtain ⟨S15, h16, h⟩ := bV_e h
            refine r_cVV (y := mX12_keeps) (As := []) (rest := []) dX12_lead_92 qX12_366 kX12_keeps rfl ob80 vc12 rfl (okX12_keeps N  S8 S15 h16) (by decide) (Nat.zero_le _) rfl (Nat.le_of_ble_eq_true rfl) ?_
            refine r_aload_n (x := 80) dX12_lead_95 rfl ?_
            refine r_iconst (v := 0) dX12_lead_96 rfl ?_
            refine r_iload_n (x := p0) dX12_lead_97 rfl ?_
            refine r_iload_n (x := p1) dX12_lead_98 rfl ?_
            obtain ⟨S18, h19, h⟩ := bV_e h
            refine r_cVV (y := mX12_leads) (As := [.int 0, .int p0, .int p1]) (rest := []) dX12_lead_99 qX12_369 kX12_leads rfl ob80 vc12 rfl (okX12_leads N 0 p0 p1 S15 S18 h19) (by decide) (Nat.zero_le _) rfl (Nat.le_of_ble_eq_true rfl) ?_
            refine r_iconst (v := 1) dX12_lead_102 rfl ?_
            cases h
            exact r_zreturn dX12_lead_103 rfl rfl (Nat.zero_le _) ⟨rfl, rfl⟩
          · rw [if_pos c13] at h
            refine r_aload_n (x := 80) dX12_lead_64 rfl ?_
            refine r_getfield (o := 80) (v := .ref 91) dX12_lead_65 lX12_51 ck80 nC80 rfl ?_
            refine r_bipush (v := 19) dX12_lead_68 rfl ?_
            refine r_iload_n (x := p0) dX12_lead_70 rfl ?_
            refine r_iadd dX12_lead_71 ?_
            obtain ⟨g20, h⟩ := gd_e h
            refine r_iaload (a := 91) dX12_lead_72 ck91 nC91 (inr_IX g20) ?_
            refine r_iload_n (x := p1) dX12_lead_73 rfl ?_
            refine r_icmp_ne (tgt := 91) dX12_lead_74 (by decide) (fun c21 => ?_) (fun c21 => ?_)
            · rw [if_neg c21] at h
              refine r_aload_n (x := 80) dX12_lead_91 rfl ?_
              obtain ⟨S23, h24, h⟩ := bV_e h
              refine r_cVV (y := mX12_keeps) (As := []) (rest := []) dX12_lead_92 qX12_366 kX12_keeps rfl ob80 vc12 rfl (okX12_keeps N  S8 S23 h24) (by decide) (Nat.zero_le _) rfl (Nat.le_of_ble_eq_true rfl) ?_
              refine r_aload_n (x := 80) dX12_lead_95 rfl ?_
              refine r_iconst (v := 0) dX12_lead_96 rfl ?_
              refine r_iload_n (x := p0) dX12_lead_97 rfl ?_
              refine r_iload_n (x := p1) dX12_lead_98 rfl ?_
              obtain ⟨S26, h27, h⟩ := bV_e h
              refine r_cVV (y := mX12_leads) (As := [.int 0, .int p0, .int p1]) (rest := []) dX12_lead_99 qX12_369 kX12_leads rfl ob80 vc12 rfl (okX12_leads N 0 p0 p1 S23 S26 h27) (by decide) (Nat.zero_le _) rfl (Nat.le_of_ble_eq_true rfl) ?_
              refine r_iconst (v := 1) dX12_lead_102 rfl ?_
              cases h
              exact r_zreturn dX12_lead_103 rfl rfl (Nat.zero_le _) ⟨rfl, rfl⟩
            · rw [if_pos c21] at h
              refine r_aload_n (x := 80) dX12_lead_77 rfl ?_
              refine r_iconst (v := 1) dX12_lead_78 rfl ?_
              obtain ⟨x28, S29, h30, h⟩ := bI_e h
              refine r_cVI (y := mX12_refuses) (As := [.int 1]) (rest := []) dX12_lead_79 qX12_363 kX12_refuses rfl ob80 vc12 rfl (okX12_refuses N 1 S8 x28 S29 h30) (by decide) (Nat.zero_le _) rfl (Nat.le_of_ble_eq_true rfl) ?_
              obtain ⟨x32, hx32⟩ : ∃ y : Int32, y = ((if x28 ≤ 0 then 0 else 1) : Int32) := ⟨_, rfl⟩
              replace h := lt_e hx32 h
              have keyx32 : WP [] mX12_lead 2 0 (qI r T) 90 [some (.ref 80), some (.int p0), some (.int p1)] (.int x32 :: []) S29 0 := by
                obtain ⟨g33, h⟩ := gd_e h
                cases h
                exact r_zreturn dX12_lead_90 rfl (nar01 g33) (Nat.zero_le _) ⟨rfl, rfl⟩
              refine r_if_le (tgt := 89) dX12_lead_82 (by decide) (fun c31 => ?_) (fun c31 => ?_)
              · refine r_iconst (v := 0) dX12_lead_89 rfl ?_
                exact r_tope (by rw [hx32, if_pos c31]) keyx32
              · refine r_iconst (v := 1) dX12_lead_85 rfl ?_
                refine r_goto (tgt := 90) dX12_lead_86 (by decide) ?_
                exact r_tope (by rw [hx32, if_neg c31]) keyx32
        · rw [if_neg c11] at h
          refine r_iload_n (x := p1) dX12_lead_46 rfl ?_
          refine r_iload_n (x := p0) dX12_lead_47 rfl ?_
          refine r_icmp_le (tgt := 77) dX12_lead_48 (by decide) (fun c34 => ?_) (fun c34 => ?_)
          · rw [if_pos c34] at h
            refine r_aload_n (x := 80) dX12_lead_77 rfl ?_
            refine r_iconst (v := 1) dX12_lead_78 rfl ?_
            obtain ⟨x35, S36, h37, h⟩ := bI_e h
            refine r_cVI (y := mX12_refuses) (As := [.int 1]) (rest := []) dX12_lead_79 qX12_363 kX12_refuses rfl ob80 vc12 rfl (okX12_refuses N 1 S8 x35 S36 h37) (by decide) (Nat.zero_le _) rfl (Nat.le_of_ble_eq_true rfl) ?_
            obtain ⟨x39, hx39⟩ : ∃ y : Int32, y = ((if x35 ≤ 0 then 0 else 1) : Int32) := ⟨_, rfl⟩
            replace h := lt_e hx39 h
            have keyx39 : WP [] mX12_lead 2 0 (qI r T) 90 [some (.ref 80), some (.int p0), some (.int p1)] (.int x39 :: []) S36 0 := by
              obtain ⟨g40, h⟩ := gd_e h
              cases h
              exact r_zreturn dX12_lead_90 rfl (nar01 g40) (Nat.zero_le _) ⟨rfl, rfl⟩
            refine r_if_le (tgt := 89) dX12_lead_82 (by decide) (fun c38 => ?_) (fun c38 => ?_)
            · refine r_iconst (v := 0) dX12_lead_89 rfl ?_
              exact r_tope (by rw [hx39, if_pos c38]) keyx39
            · refine r_iconst (v := 1) dX12_lead_85 rfl ?_
              refine r_goto (tgt := 90) dX12_lead_86 (by decide) ?_
              exact r_tope (by rw [hx39, if_neg c38]) keyx39
          · rw [if_neg c34] at h
            refine r_aload_n (x := 80) dX12_lead_51 rfl ?_
            refine r_getfield (o := 80) (v := .ref 91) dX12_lead_52 lX12_51 ck80 nC80 rfl ?_
            refine r_bipush (v := 28) dX12_lead_55 rfl ?_
            refine r_iload_n (x := p0) dX12_lead_57 rfl ?_
            refine r_iadd dX12_lead_58 ?_
            obtain ⟨g41, h⟩ := gd_e h
            refine r_iaload (a := 91) dX12_lead_59 ck91 nC91 (inr_IX g41) ?_
            refine r_iconst (v := (-1)) dX12_lead_60 rfl ?_
            refine r_icmp_ne (tgt := 91) dX12_lead_61 (by decide) (fun c42 => ?_) (fun c42 => ?_)
            · rw [if_neg c42] at h
              refine r_aload_n (x := 80) dX12_lead_91 rfl ?_
              obtain ⟨S44, h45, h⟩ := bV_e h
              refine r_cVV (y := mX12_keeps) (As := []) (rest := []) dX12_lead_92 qX12_366 kX12_keeps rfl ob80 vc12 rfl (okX12_keeps N  S8 S44 h45) (by decide) (Nat.zero_le _) rfl (Nat.le_of_ble_eq_true rfl) ?_
              refine r_aload_n (x := 80) dX12_lead_95 rfl ?_
              refine r_iconst (v := 0) dX12_lead_96 rfl ?_
              refine r_iload_n (x := p0) dX12_lead_97 rfl ?_
              refine r_iload_n (x := p1) dX12_lead_98 rfl ?_
              obtain ⟨S47, h48, h⟩ := bV_e h
              refine r_cVV (y := mX12_leads) (As := [.int 0, .int p0, .int p1]) (rest := []) dX12_lead_99 qX12_369 kX12_leads rfl ob80 vc12 rfl (okX12_leads N 0 p0 p1 S44 S47 h48) (by decide) (Nat.zero_le _) rfl (Nat.le_of_ble_eq_true rfl) ?_
              refine r_iconst (v := 1) dX12_lead_102 rfl ?_
              cases h
              exact r_zreturn dX12_lead_103 rfl rfl (Nat.zero_le _) ⟨rfl, rfl⟩
            · rw [if_pos c42] at h
              refine r_aload_n (x := 80) dX12_lead_64 rfl ?_
              refine r_getfield (o := 80) (v := .ref 91) dX12_lead_65 lX12_51 ck80 nC80 rfl ?_
              refine r_bipush (v := 19) dX12_lead_68 rfl ?_
              refine r_iload_n (x := p0) dX12_lead_70 rfl ?_
              refine r_iadd dX12_lead_71 ?_
              obtain ⟨g49, h⟩ := gd_e h
              refine r_iaload (a := 91) dX12_lead_72 ck91 nC91 (inr_IX g49) ?_
              refine r_iload_n (x := p1) dX12_lead_73 rfl ?_
              refine r_icmp_ne (tgt := 91) dX12_lead_74 (by decide) (fun c50 => ?_) (fun c50 => ?_)
              · rw [if_neg c50] at h
                refine r_aload_n (x := 80) dX12_lead_91 rfl ?_
                obtain ⟨S52, h53, h⟩ := bV_e h
                refine r_cVV (y := mX12_keeps) (As := []) (rest := []) dX12_lead_92 qX12_366 kX12_keeps rfl ob80 vc12 rfl (okX12_keeps N  S8 S52 h53) (by decide) (Nat.zero_le _) rfl (Nat.le_of_ble_eq_true rfl) ?_
                refine r_aload_n (x := 80) dX12_lead_95 rfl ?_
                refine r_iconst (v := 0) dX12_lead_96 rfl ?_
                refine r_iload_n (x := p0) dX12_lead_97 rfl ?_
                refine r_iload_n (x := p1) dX12_lead_98 rfl ?_
                obtain ⟨S55, h56, h⟩ := bV_e h
                refine r_cVV (y := mX12_leads) (As := [.int 0, .int p0, .int p1]) (rest := []) dX12_lead_99 qX12_369 kX12_leads rfl ob80 vc12 rfl (okX12_leads N 0 p0 p1 S52 S55 h56) (by decide) (Nat.zero_le _) rfl (Nat.le_of_ble_eq_true rfl) ?_
                refine r_iconst (v := 1) dX12_lead_102 rfl ?_
                cases h
                exact r_zreturn dX12_lead_103 rfl rfl (Nat.zero_le _) ⟨rfl, rfl⟩
              · rw [if_pos c50] at h
                refine r_aload_n (x := 80) dX12_lead_77 rfl ?_
                refine r_iconst (v := 1) dX12_lead_78 rfl ?_
                obtain ⟨x57, S58, h59, h⟩ := bI_e h
                refine r_cVI (y := mX12_refuses) (As := [.int 1]) (rest := []) dX12_lead_79 qX12_363 kX12_refuses rfl ob80 vc12 rfl (okX12_refuses N 1 S8 x57 S58 h59) (by decide) (Nat.zero_le _) rfl (Nat.le_of_ble_eq_true rfl) ?_
                obtain ⟨x61, hx61⟩ : ∃ y : Int32, y = ((if x57 ≤ 0 then 0 else 1) : Int32) := ⟨_, rfl⟩
                replace h := lt_e hx61 h
                have keyx61 : WP [] mX12_lead 2 0 (qI r T) 90 [some (.ref 80), some (.int p0), some (.int p1)] (.int x61 :: []) S58 0 := by
                  obtain ⟨g62, h⟩ := gd_e h
                  cases h
                  exact r_zreturn dX12_lead_90 rfl (nar01 g62) (Nat.zero_le _) ⟨rfl, rfl⟩
                refine r_if_le (tgt := 89) dX12_lead_82 (by decide) (fun c60 => ?_) (fun c60 => ?_)
                · refine r_iconst (v := 0) dX12_lead_89 rfl ?_
                  exact r_tope (by rw [hx61, if_pos c60]) keyx61
                · refine r_iconst (v := 1) dX12_lead_85 rfl ?_
                  refine r_goto (tgt := 90) dX12_lead_86 (by decide) ?_
                  exact r_tope (by rw [hx61, if_neg c60]) keyx61
      · rw [if_pos c10] at h
        refine r_iconst (v := 0) dX12_lead_39 rfl ?_
        cases h
        exact r_zreturn dX12_lead_40 rfl rfl (Nat.zero_le _) ⟨rfl, rfl⟩
    · rw [if_neg c6] at h
      refine r_iload_n (x := p1) dX12_lead_19 rfl ?_
      refine r_aload_n (x := 80) dX12_lead_20 rfl ?_
      refine r_getfield (o := 80) (v := .int (S3.1 80 1)) dX12_lead_21 lX12_269 ck80 nC80 rfl ?_
      obtain ⟨x64, hx64⟩ : ∃ y : Int32, y = ((if (S3.1 80 1) ≤ p1 then 0 else 1) : Int32) := ⟨_, rfl⟩
      replace h := lt_e hx64 h
      have keyx64 : WP [] mX12_lead 2 0 (qI r T) 32 [some (.ref 80), some (.int p0), some (.int p1)] (.int x64 :: [.ref 80]) S3 0 := by
        refine r_iconst (v := 1) dX12_lead_32 rfl ?_
        obtain ⟨x65, S66, h67, h⟩ := bI_e h
        refine r_cVI (y := mX12_right) (As := [.int x64, .int 1]) (rest := []) dX12_lead_33 qX12_262 kX12_right rfl ob80 vc12 rfl (okX12_right N x64 1 S3 x65 S66 h67) (by decide) (Nat.zero_le _) rfl (Nat.le_of_ble_eq_true rfl) ?_
        refine r_if_ne (tgt := 41) dX12_lead_36 (by decide) (fun c68 => ?_) (fun c68 => ?_)
        · rw [if_neg c68] at h
          refine r_iload_n (x := p1) dX12_lead_41 rfl ?_
          refine r_iconst (v := (-1)) dX12_lead_42 rfl ?_
          refine r_icmp_eq (tgt := 51) dX12_lead_43 (by decide) (fun c69 => ?_) (fun c69 => ?_)
          · rw [if_pos c69] at h
            refine r_aload_n (x := 80) dX12_lead_51 rfl ?_
            refine r_getfield (o := 80) (v := .ref 91) dX12_lead_52 lX12_51 ck80 nC80 rfl ?_
            refine r_bipush (v := 28) dX12_lead_55 rfl ?_
            refine r_iload_n (x := p0) dX12_lead_57 rfl ?_
            refine r_iadd dX12_lead_58 ?_
            obtain ⟨g70, h⟩ := gd_e h
            refine r_iaload (a := 91) dX12_lead_59 ck91 nC91 (inr_IX g70) ?_
            refine r_iconst (v := (-1)) dX12_lead_60 rfl ?_
            refine r_icmp_ne (tgt := 91) dX12_lead_61 (by decide) (fun c71 => ?_) (fun c71 => ?_)
            · rw [if_neg c71] at h
              refine r_aload_n (x := 80) dX12_lead_91 rfl ?_
              obtain ⟨S73, h74, h⟩ := bV_e h
              refine r_cVV (y := mX12_keeps) (As := []) (rest := []) dX12_lead_92 qX12_366 kX12_keeps rfl ob80 vc12 rfl (okX12_keeps N  S66 S73 h74) (by decide) (Nat.zero_le _) rfl (Nat.le_of_ble_eq_true rfl) ?_
              refine r_aload_n (x := 80) dX12_lead_95 rfl ?_
              refine r_iconst (v := 0) dX12_lead_96 rfl ?_
              refine r_iload_n (x := p0) dX12_lead_97 rfl ?_
              refine r_iload_n (x := p1) dX12_lead_98 rfl ?_
              obtain ⟨S76, h77, h⟩ := bV_e h
              refine r_cVV (y := mX12_leads) (As := [.int 0, .int p0, .int p1]) (rest := []) dX12_lead_99 qX12_369 kX12_leads rfl ob80 vc12 rfl (okX12_leads N 0 p0 p1 S73 S76 h77) (by decide) (Nat.zero_le _) rfl (Nat.le_of_ble_eq_true rfl) ?_
              refine r_iconst (v := 1) dX12_lead_102 rfl ?_
              cases h
              exact r_zreturn dX12_lead_103 rfl rfl (Nat.zero_le _) ⟨rfl, rfl⟩
            · rw [if_pos c71] at h
              refine r_aload_n (x := 80) dX12_lead_64 rfl ?_
              refine r_getfield (o := 80) (v := .ref 91) dX12_lead_65 lX12_51 ck80 nC80 rfl ?_
              refine r_bipush (v := 19) dX12_lead_68 rfl ?_
              refine r_iload_n (x := p0) dX12_lead_70 rfl ?_
              refine r_iadd dX12_lead_71 ?_
              obtain ⟨g78, h⟩ := gd_e h
              refine r_iaload (a := 91) dX12_lead_72 ck91 nC91 (inr_IX g78) ?_
              refine r_iload_n (x := p1) dX12_lead_73 rfl ?_
              refine r_icmp_ne (tgt := 91) dX12_lead_74 (by decide) (fun c79 => ?_) (fun c79 => ?_)
              · rw [if_neg c79] at h
                refine r_aload_n (x := 80) dX12_lead_91 rfl ?_
                obtain ⟨S81, h82, h⟩ := bV_e h
                refine r_cVV (y := mX12_keeps) (As := []) (rest := []) dX12_lead_92 qX12_366 kX12_keeps rfl ob80 vc12 rfl (okX12_keeps N  S66 S81 h82) (by decide) (Nat.zero_le _) rfl (Nat.le_of_ble_eq_true rfl) ?_
                refine r_aload_n (x := 80) dX12_lead_95 rfl ?_
                refine r_iconst (v := 0) dX12_lead_96 rfl ?_
                refine r_iload_n (x := p0) dX12_lead_97 rfl ?_
                refine r_iload_n (x := p1) dX12_lead_98 rfl ?_
                obtain ⟨S84, h85, h⟩ := bV_e h
                refine r_cVV (y := mX12_leads) (As := [.int 0, .int p0, .int p1]) (rest := []) dX12_lead_99 qX12_369 kX12_leads rfl ob80 vc12 rfl (okX12_leads N 0 p0 p1 S81 S84 h85) (by decide) (Nat.zero_le _) rfl (Nat.le_of_ble_eq_true rfl) ?_
                refine r_iconst (v := 1) dX12_lead_102 rfl ?_
                cases h
                exact r_zreturn dX12_lead_103 rfl rfl (Nat.zero_le _) ⟨rfl, rfl⟩
              · rw [if_pos c79] at h
                refine r_aload_n (x := 80) dX12_lead_77 rfl ?_
                refine r_iconst (v := 1) dX12_lead_78 rfl ?_
                obtain ⟨x86, S87, h88, h⟩ := bI_e h
                refine r_cVI (y := mX12_refuses) (As := [.int 1]) (rest := []) dX12_lead_79 qX12_363 kX12_refuses rfl ob80 vc12 rfl (okX12_refuses N 1 S66 x86 S87 h88) (by decide) (Nat.zero_le _) rfl (Nat.le_of_ble_eq_true rfl) ?_
                obtain ⟨x90, hx90⟩ : ∃ y : Int32, y = ((if x86 ≤ 0 then 0 else 1) : Int32) := ⟨_, rfl⟩
                replace h := lt_e hx90 h
                have keyx90 : WP [] mX12_lead 2 0 (qI r T) 90 [some (.ref 80), some (.int p0), some (.int p1)] (.int x90 :: []) S87 0 := by
                  obtain ⟨g91, h⟩ := gd_e h
                  cases h
                  exact r_zreturn dX12_lead_90 rfl (nar01 g91) (Nat.zero_le _) ⟨rfl, rfl⟩
                refine r_if_le (tgt := 89) dX12_lead_82 (by decide) (fun c89 => ?_) (fun c89 => ?_)
                · refine r_iconst (v := 0) dX12_lead_89 rfl ?_
                  exact r_tope (by rw [hx90, if_pos c89]) keyx90
                · refine r_iconst (v := 1) dX12_lead_85 rfl ?_
                  refine r_goto (tgt := 90) dX12_lead_86 (by decide) ?_
                  exact r_tope (by rw [hx90, if_neg c89]) keyx90
          · rw [if_neg c69] at h
            refine r_iload_n (x := p1) dX12_lead_46 rfl ?_
            refine r_iload_n (x := p0) dX12_lead_47 rfl ?_
            refine r_icmp_le (tgt := 77) dX12_lead_48 (by decide) (fun c92 => ?_) (fun c92 => ?_)
            · rw [if_pos c92] at h
              refine r_aload_n (x := 80) dX12_lead_77 rfl ?_
              refine r_iconst (v := 1) dX12_lead_78 rfl ?_
              obtain ⟨x93, S94, h95, h⟩ := bI_e h
              refine r_cVI (y := mX12_refuses) (As := [.int 1]) (rest := []) dX12_lead_79 qX12_363 kX12_refuses rfl ob80 vc12 rfl (okX12_refuses N 1 S66 x93 S94 h95) (by decide) (Nat.zero_le _) rfl (Nat.le_of_ble_eq_true rfl) ?_
              obtain ⟨x97, hx97⟩ : ∃ y : Int32, y = ((if x93 ≤ 0 then 0 else 1) : Int32) := ⟨_, rfl⟩
              replace h := lt_e hx97 h
              have keyx97 : WP [] mX12_lead 2 0 (qI r T) 90 [some (.ref 80), some (.int p0), some (.int p1)] (.int x97 :: []) S94 0 := by
                obtain ⟨g98, h⟩ := gd_e h
                cases h
                exact r_zreturn dX12_lead_90 rfl (nar01 g98) (Nat.zero_le _) ⟨rfl, rfl⟩
              refine r_if_le (tgt := 89) dX12_lead_82 (by decide) (fun c96 => ?_) (fun c96 => ?_)
              · refine r_iconst (v := 0) dX12_lead_89 rfl ?_
                exact r_tope (by rw [hx97, if_pos c96]) keyx97
              · refine r_iconst (v := 1) dX12_lead_85 rfl ?_
                refine r_goto (tgt := 90) dX12_lead_86 (by decide) ?_
                exact r_tope (by rw [hx97, if_neg c96]) keyx97
            · rw [if_neg c92] at h
              refine r_aload_n (x := 80) dX12_lead_51 rfl ?_
              refine r_getfield (o := 80) (v := .ref 91) dX12_lead_52 lX12_51 ck80 nC80 rfl ?_
              refine r_bipush (v := 28) dX12_lead_55 rfl ?_
              refine r_iload_n (x := p0) dX12_lead_57 rfl ?_
              refine r_iadd dX12_lead_58 ?_
              obtain ⟨g99, h⟩ := gd_e h
              refine r_iaload (a := 91) dX12_lead_59 ck91 nC91 (inr_IX g99) ?_
              refine r_iconst (v := (-1)) dX12_lead_60 rfl ?_
              refine r_icmp_ne (tgt := 91) dX12_lead_61 (by decide) (fun c100 => ?_) (fun c100 => ?_)
              · rw [if_neg c100] at h
                refine r_aload_n (x := 80) dX12_lead_91 rfl ?_
                obtain ⟨S102, h103, h⟩ := bV_e h
                refine r_cVV (y := mX12_keeps) (As := []) (rest := []) dX12_lead_92 qX12_366 kX12_keeps rfl ob80 vc12 rfl (okX12_keeps N  S66 S102 h103) (by decide) (Nat.zero_le _) rfl (Nat.le_of_ble_eq_true rfl) ?_
                refine r_aload_n (x := 80) dX12_lead_95 rfl ?_
                refine r_iconst (v := 0) dX12_lead_96 rfl ?_
                refine r_iload_n (x := p0) dX12_lead_97 rfl ?_
                refine r_iload_n (x := p1) dX12_lead_98 rfl ?_
                obtain ⟨S105, h106, h⟩ := bV_e h
                refine r_cVV (y := mX12_leads) (As := [.int 0, .int p0, .int p1]) (rest := []) dX12_lead_99 qX12_369 kX12_leads rfl ob80 vc12 rfl (okX12_leads N 0 p0 p1 S102 S105 h106) (by decide) (Nat.zero_le _) rfl (Nat.le_of_ble_eq_true rfl) ?_
                refine r_iconst (v := 1) dX12_lead_102 rfl ?_
                cases h
                exact r_zreturn dX12_lead_103 rfl rfl (Nat.zero_le _) ⟨rfl, rfl⟩
              · rw [if_pos c100] at h
                refine r_aload_n (x := 80) dX12_lead_64 rfl ?_
                refine r_getfield (o := 80) (v := .ref 91) dX12_lead_65 lX12_51 ck80 nC80 rfl ?_
                refine r_bipush (v := 19) dX12_lead_68 rfl ?_
                refine r_iload_n (x := p0) dX12_lead_70 rfl ?_
                refine r_iadd dX12_lead_71 ?_
                obtain ⟨g107, h⟩ := gd_e h
                refine r_iaload (a := 91) dX12_lead_72 ck91 nC91 (inr_IX g107) ?_
                refine r_iload_n (x := p1) dX12_lead_73 rfl ?_
                refine r_icmp_ne (tgt := 91) dX12_lead_74 (by decide) (fun c108 => ?_) (fun c108 => ?_)
                · rw [if_neg c108] at h
                  refine r_aload_n (x := 80) dX12_lead_91 rfl ?_
                  obtain ⟨S110, h111, h⟩ := bV_e h
                  refine r_cVV (y := mX12_keeps) (As := []) (rest := []) dX12_lead_92 qX12_366 kX12_keeps rfl ob80 vc12 rfl (okX12_keeps N  S66 S110 h111) (by decide) (Nat.zero_le _) rfl (Nat.le_of_ble_eq_true rfl) ?_
                  refine r_aload_n (x := 80) dX12_lead_95 rfl ?_
                  refine r_iconst (v := 0) dX12_lead_96 rfl ?_
                  refine r_iload_n (x := p0) dX12_lead_97 rfl ?_
                  refine r_iload_n (x := p1) dX12_lead_98 rfl ?_
                  obtain ⟨S113, h114, h⟩ := bV_e h
                  refine r_cVV (y := mX12_leads) (As := [.int 0, .int p0, .int p1]) (rest := []) dX12_lead_99 qX12_369 kX12_leads rfl ob80 vc12 rfl (okX12_leads N 0 p0 p1 S110 S113 h114) (by decide) (Nat.zero_le _) rfl (Nat.le_of_ble_eq_true rfl) ?_
                  refine r_iconst (v := 1) dX12_lead_102 rfl ?_
                  cases h
                  exact r_zreturn dX12_lead_103 rfl rfl (Nat.zero_le _) ⟨rfl, rfl⟩
                · rw [if_pos c108] at h
                  refine r_aload_n (x := 80) dX12_lead_77 rfl ?_
                  refine r_iconst (v := 1) dX12_lead_78 rfl ?_
                  obtain ⟨x115, S116, h117, h⟩ := bI_e h
                  refine r_cVI (y := mX12_refuses) (As := [.int 1]) (rest := []) dX12_lead_79 qX12_363 kX12_refuses rfl ob80 vc12 rfl (okX12_refuses N 1 S66 x115 S116 h117) (by decide) (Nat.zero_le _) rfl (Nat.le_of_ble_eq_true rfl) ?_
                  obtain ⟨x119, hx119⟩ : ∃ y : Int32, y = ((if x115 ≤ 0 then 0 else 1) : Int32) := ⟨_, rfl⟩
                  replace h := lt_e hx119 h
                  have keyx119 : WP [] mX12_lead 2 0 (qI r T) 90 [some (.ref 80), some (.int p0), some (.int p1)] (.int x119 :: []) S116 0 := by
                    obtain ⟨g120, h⟩ := gd_e h
                    cases h
                    exact r_zreturn dX12_lead_90 rfl (nar01 g120) (Nat.zero_le _) ⟨rfl, rfl⟩
                  refine r_if_le (tgt := 89) dX12_lead_82 (by decide) (fun c118 => ?_) (fun c118 => ?_)
                  · refine r_iconst (v := 0) dX12_lead_89 rfl ?_
                    exact r_tope (by rw [hx119, if_pos c118]) keyx119
                  · refine r_iconst (v := 1) dX12_lead_85 rfl ?_
                    refine r_goto (tgt := 90) dX12_lead_86 (by decide) ?_
                    exact r_tope (by rw [hx119, if_neg c118]) keyx119
        · rw [if_pos c68] at h
          refine r_iconst (v := 0) dX12_lead_39 rfl ?_
          cases h
          exact r_zreturn dX12_lead_40 rfl rfl (Nat.zero_le _) ⟨rfl, rfl⟩
      refine r_icmp_ge (tgt := 31) dX12_lead_24 (by decide) (fun c63 => ?_) (fun c63 => ?_)
      · refine r_iconst (v := 0) dX12_lead_31 rfl ?_
        exact r_tope (by rw [hx64, if_pos c63]) keyx64
      · refine r_iconst (v := 1) dX12_lead_27 rfl ?_
        refine r_goto (tgt := 32) dX12_lead_28 (by decide) ?_
        exact r_tope (by rw [hx64, if_neg c63]) keyx64
def fX12_plug (N : Nat) (p0 : Int32) (p1 : Int32) (S : PS) : Option (Int32 × PS) :=
  lt ((u2 S.1 80 0 0, S.2) : PS) fun S1 =>
  bI (fX12_isCup N p0 S1) fun x2 S3 =>
  (if x2 = 0 then
    some (0, S3)
  else
    gd (inr (55 + p0) 128) <|
    lt ((if (S3.1 91 (ix (55 + p0))) = 1 then 1 else 0) : Int32) fun x8 =>
    (if x8 = p1 then
      bI (fX12_refuses N 1 S3) fun x17 S18 =>
      lt ((if x17 ≤ 0 then 0 else 1) : Int32) fun x21 =>
      gd (b01 x21) <|
      some (x21, S18)
    else
      bV (fX12_keeps N  S3) fun S11 =>
      lt ((if p1 = 0 then 0 else 1) : Int32) fun x14 =>
      gd (inr (55 + p0) 128) <|
      lt ((u2 S11.1 91 (ix (55 + p0)) x14, S11.2) : PS) fun S16 =>
      some (1, S16)))
set_option maxHeartbeats 4000000 in
set_option maxRecDepth 100000 in
theorem okX12_plug (N : Nat) (p0 : Int32) (p1 : Int32) (S : PS) (r : Int32) (T : PS) (h : fX12_plug N p0 p1 S = some (r, T)) : CT mX12_plug 2 0 [.ref 80, .int p0, .int p1] S (qI r T) := by
  refine ct_of [some (.ref 80), some (.int p0), some (.int p1)] rfl (fun _ => rfl) (fun _ => Nat.le_of_ble_eq_true rfl) ?_
  unfold fX12_plug at h
  refine r_aload_n (x := 80) dX12_plug_0 rfl ?_
  refine r_iconst (v := 0) dX12_plug_1 rfl ?_
  refine r_putI dX12_plug_2 lX12_114 ck80 nC80 ?_
  refine r_topS (fun S1 hS1 => ?_)
  replace h := lt_e hS1 h
  refine r_aload_n (x := 80) dX12_plug_5 rfl ?_
  refine r_iload_n (x := p0) dX12_plug_6 rfl ?_
  obtain ⟨x2, S3, h4, h⟩ := bI_e h
  refine r_cVI (y := mX12_isCup) (As := [.int p0]) (rest := []) dX12_plug_7 qX12_351 kX12_isCup rfl ob80 vc12 rfl (okX12_isCup N p0 S1 x2 S3 h4) (by decide) (Nat.zero_le _) rfl (Nat.le_of_ble_eq_true rfl) ?_
  refine r_if_ne (tgt := 15) dX12_plug_10 (by decide) (fun c5 => ?_) (fun c5 => ?_)
  · rw [if_neg c5] at h
    refine r_aload_n (x := 80) dX12_plug_15 rfl ?_
    refine r_getfield (o := 80) (v := .ref 91) dX12_plug_16 lX12_51 ck80 nC80 rfl ?_
    refine r_bipush (v := 55) dX12_plug_19 rfl ?_
    refine r_iload_n (x := p0) dX12_plug_21 rfl ?_
    refine r_iadd dX12_plug_22 ?_
    obtain ⟨g6, h⟩ := gd_e h
    refine r_iaload (a := 91) dX12_plug_23 ck91 nC91 (inr_IX g6) ?_
    refine r_iconst (v := 1) dX12_plug_24 rfl ?_
    obtain ⟨x8, hx8⟩ : ∃ y : Int32, y = ((if (S3.1 91 (ix (55 + p0))) = 1 then 1 else 0) : Int32) := ⟨_, rfl⟩
    replace h := lt_e hx8 h
    have keyx8 : WP [] mX12_plug 2 0 (qI r T) 33 [some (.ref 80), some (.int p0), some (.int p1)] (.int x8 :: []) S3 0 := by
      refine r_iload_n (x := p1) dX12_plug_33 rfl ?_
      refine r_icmp_ne (tgt := 51) dX12_plug_34 (by decide) (fun c9 => ?_) (fun c9 => ?_)
      · rw [if_neg c9] at h
        refine r_aload_n (x := 80) dX12_plug_51 rfl ?_
        obtain ⟨S11, h12, h⟩ := bV_e h
        refine r_cVV (y := mX12_keeps) (As := []) (rest := []) dX12_plug_52 qX12_366 kX12_keeps rfl ob80 vc12 rfl (okX12_keeps N  S3 S11 h12) (by decide) (Nat.zero_le _) rfl (Nat.le_of_ble_eq_true rfl) ?_
        refine r_aload_n (x := 80) dX12_plug_55 rfl ?_
        refine r_getfield (o := 80) (v := .ref 91) dX12_plug_56 lX12_51 ck80 nC80 rfl ?_
        refine r_bipush (v := 55) dX12_plug_59 rfl ?_
        refine r_iload_n (x := p0) dX12_plug_61 rfl ?_
        refine r_iadd dX12_plug_62 ?_
        refine r_iload_n (x := p1) dX12_plug_63 rfl ?_
        obtain ⟨x14, hx14⟩ : ∃ y : Int32, y = ((if p1 = 0 then 0 else 1) : Int32) := ⟨_, rfl⟩
        replace h := lt_e hx14 h
        have keyx14 : WP [] mX12_plug 2 0 (qI r T) 72 [some (.ref 80), some (.int p0), some (.int p1)] (.int x14 :: [.int (55 + p0), .ref 91]) S11 0 := by
          obtain ⟨g15, h⟩ := gd_e h
          refine r_iastore (a := 91) dX12_plug_72 ck91 nC91 (inr_IX g15) ?_
          refine r_topS (fun S16 hS16 => ?_)
          replace h := lt_e hS16 h
          refine r_iconst (v := 1) dX12_plug_73 rfl ?_
          cases h
          exact r_zreturn dX12_plug_74 rfl rfl (Nat.zero_le _) ⟨rfl, rfl⟩
        refine r_if_eq (tgt := 71) dX12_plug_64 (by decide) (fun c13 => ?_) (fun c13 => ?_)
        · refine r_iconst (v := 0) dX12_plug_71 rfl ?_
          exact r_tope (by rw [hx14, if_pos c13]) keyx14
        · refine r_iconst (v := 1) dX12_plug_67 rfl ?_
          refine r_goto (tgt := 72) dX12_plug_68 (by decide) ?_
          exact r_tope (by rw [hx14, if_neg c13]) keyx14
      · rw [if_pos c9] at h
        refine r_aload_n (x := 80) dX12_plug_37 rfl ?_
        refine r_iconst (v := 1) dX12_plug_38 rfl ?_
        obtain ⟨x17, S18, h19, h⟩ := bI_e h
        refine r_cVI (y := mX12_refuses) (As := [.int 1]) (rest := []) dX12_plug_39 qX12_363 kX12_refuses rfl ob80 vc12 rfl (okX12_refuses N 1 S3 x17 S18 h19) (by decide) (Nat.zero_le _) rfl (Nat.le_of_ble_eq_true rfl) ?_
        obtain ⟨x21, hx21⟩ : ∃ y : Int32, y = ((if x17 ≤ 0 then 0 else 1) : Int32) := ⟨_, rfl⟩
        replace h := lt_e hx21 h
        have keyx21 : WP [] mX12_plug 2 0 (qI r T) 50 [some (.ref 80), some (.int p0), some (.int p1)] (.int x21 :: []) S18 0 := by
          obtain ⟨g22, h⟩ := gd_e h
          cases h
          exact r_zreturn dX12_plug_50 rfl (nar01 g22) (Nat.zero_le _) ⟨rfl, rfl⟩
        refine r_if_le (tgt := 49) dX12_plug_42 (by decide) (fun c20 => ?_) (fun c20 => ?_)
        · refine r_iconst (v := 0) dX12_plug_49 rfl ?_
          exact r_tope (by rw [hx21, if_pos c20]) keyx21
        · refine r_iconst (v := 1) dX12_plug_45 rfl ?_
          refine r_goto (tgt := 50) dX12_plug_46 (by decide) ?_
          exact r_tope (by rw [hx21, if_neg c20]) keyx21
    refine r_icmp_ne (tgt := 32) dX12_plug_25 (by decide) (fun c7 => ?_) (fun c7 => ?_)
    · refine r_iconst (v := 0) dX12_plug_32 rfl ?_
      exact r_tope (by rw [hx8, if_neg c7]) keyx8
    · refine r_iconst (v := 1) dX12_plug_28 rfl ?_
      refine r_goto (tgt := 33) dX12_plug_29 (by decide) ?_
      exact r_tope (by rw [hx8, if_pos c7]) keyx8
  · rw [if_pos c5] at h
    refine r_iconst (v := 0) dX12_plug_13 rfl ?_
    cases h
    exact r_zreturn dX12_plug_14 rfl rfl (Nat.zero_le _) ⟨rfl, rfl⟩
def fX12_pours_14 (N : Nat) (v1 : Int32) (v2 : Int32) (v3 : Int32) : Nat → Int32 → PS → Option (Int32 × PS)
  | 0, _, _ => none
  | n + 1, v4, S =>
    (if (S.1 80 1) ≤ v4 then
      some (v4, S)
    else
      gd (inr v4 9) <|
      bV (fX12_gets N v1 v4 (S.1 95 (ix v4)) S) fun S9 =>
      lt (v4 + 1 : Int32) fun x11 =>
      fX12_pours_14 N v1 v2 v3 n x11 S9)
set_option maxHeartbeats 4000000 in
set_option maxRecDepth 100000 in
theorem okX12_pours_14 (N : Nat) (v1 : Int32) (v2 : Int32) (v3 : Int32) (Q : OQ) (u : Nat) (hu : u ≤ 0) : ∀ (n : Nat) (v4 : Int32) (S : PS) (y4 : Int32) (T : PS), fX12_pours_14 N v1 v2 v3 n v4 S = some (y4, T) → WP [] mX12_pours 2 0 Q 43 [some (.ref 80), some (.int v1), some (.int v2), some (.int v3), some (.int y4)] [] T u → WP [] mX12_pours 2 0 Q 14 [some (.ref 80), some (.int v1), some (.int v2), some (.int v3), some (.int v4)] [] S u := by
  intro n
  induction n with
  | zero => intro v4 S y4 T h; rw [fX12_pours_14] at h; cases h
  | succ n ih =>
    intro v4 S y4 T h k0
    rw [fX12_pours_14] at h
    refine r_iload (x := v4) dX12_pours_14 rfl ?_
    refine r_aload_n (x := 80) dX12_pours_16 rfl ?_
    refine r_getfield (o := 80) (v := .int (S.1 80 1)) dX12_pours_17 lX12_269 ck80 nC80 rfl ?_
    refine r_icmp_ge (tgt := 43) dX12_pours_20 (by decide) (fun c6 => ?_) (fun c6 => ?_)
    · rw [if_pos c6] at h
      cases h
      exact k0
    · rw [if_neg c6] at h
      refine r_aload_n (x := 80) dX12_pours_23 rfl ?_
      refine r_iload_n (x := v1) dX12_pours_24 rfl ?_
      refine r_iload (x := v4) dX12_pours_25 rfl ?_
      refine r_aload_n (x := 80) dX12_pours_27 rfl ?_
      refine r_getfield (o := 80) (v := .ref 95) dX12_pours_28 lX12_63 ck80 nC80 rfl ?_
      refine r_iload (x := v4) dX12_pours_31 rfl ?_
      obtain ⟨g7, h⟩ := gd_e h
      refine r_iaload (a := 95) dX12_pours_33 ck95 nC95 (inr_IX g7) ?_
      obtain ⟨S9, h10, h⟩ := bV_e h
      refine r_cVV (y := mX12_gets) (As := [.int v1, .int v4, .int (S.1 95 (ix v4))]) (rest := []) dX12_pours_34 qX12_317 kX12_gets rfl ob80 vc12 rfl (okX12_gets N v1 v4 (S.1 95 (ix v4)) S S9 h10) (by decide) hu rfl (Nat.le_of_ble_eq_true rfl) ?_
      obtain ⟨x11, hx11⟩ : ∃ y : Int32, y = (v4 + 1 : Int32) := ⟨_, rfl⟩
      replace h := lt_e hx11 h
      refine r_iinc (x := v4) (v := x11) (L' := [some (.ref 80), some (.int v1), some (.int v2), some (.int v3), some (.int x11)]) dX12_pours_37 rfl (by rw [hx11]; rfl) (Nat.le_of_ble_eq_true rfl) rfl rfl ?_
      refine r_goto (tgt := 14) dX12_pours_40 (by decide) ?_
      exact ih _ _ _ _ h k0
def fX12_pours (N : Nat) (p0 : Int32) (p1 : Int32) (p2 : Int32) (S : PS) : Option (Int32 × PS) :=
  bV (fX12_begins0 N  S) fun S2 =>
  gd (inr p1 9) <|
  lt ((u2 S2.1 95 (ix p1) p2, S2.2) : PS) fun S5 =>
  bT (fX12_pours_14 N p0 p1 p2 N p1 S5) fun q12 =>
  lt (q12.1 : Int32) fun x13 =>
  lt (q12.2 : PS) fun S14 =>
  gd (inr p1 9) <|
  some ((S14.1 96 (ix p1)), S14)
set_option maxHeartbeats 4000000 in
set_option maxRecDepth 100000 in
theorem okX12_pours (N : Nat) (p0 : Int32) (p1 : Int32) (p2 : Int32) (S : PS) (r : Int32) (T : PS) (h : fX12_pours N p0 p1 p2 S = some (r, T)) : CT mX12_pours 2 0 [.ref 80, .int p0, .int p1, .int p2] S (qI r T) := by
  refine ct_of [some (.ref 80), some (.int p0), some (.int p1), some (.int p2), none] rfl (fun _ => rfl) (fun _ => Nat.le_of_ble_eq_true rfl) ?_
  unfold fX12_pours at h
  refine r_aload_n (x := 80) dX12_pours_0 rfl ?_
  obtain ⟨S2, h3, h⟩ := bV_e h
  refine r_cVV (y := mX12_begins0) (As := []) (rest := []) dX12_pours_1 qX12_310 kX12_begins0 rfl ob80 vc12 rfl (okX12_begins0 N  S S2 h3) (by decide) (Nat.zero_le _) rfl (Nat.le_of_ble_eq_true rfl) ?_
  refine r_aload_n (x := 80) dX12_pours_4 rfl ?_
  refine r_getfield (o := 80) (v := .ref 95) dX12_pours_5 lX12_63 ck80 nC80 rfl ?_
  refine r_iload_n (x := p1) dX12_pours_8 rfl ?_
  refine r_iload_n (x := p2) dX12_pours_9 rfl ?_
  obtain ⟨g4, h⟩ := gd_e h
  refine r_iastore (a := 95) dX12_pours_10 ck95 nC95 (inr_IX g4) ?_
  refine r_topS (fun S5 hS5 => ?_)
  replace h := lt_e hS5 h
  refine r_iload_n (x := p1) dX12_pours_11 rfl ?_
  refine r_istore (L' := [some (.ref 80), some (.int p0), some (.int p1), some (.int p2), some (.int p1)]) dX12_pours_12 (Nat.le_of_ble_eq_true rfl) rfl rfl ?_
  obtain ⟨⟨x13, S14⟩, h16, h⟩ := bT_e h
  dsimp only at h
  replace h := pl_s (pl_s (h))
  refine okX12_pours_14 N p0 p1 p2 (qI r T) 0 (Nat.zero_le _) _ _ _ _ _ h16 ?_
  refine r_aload_n (x := 80) dX12_pours_43 rfl ?_
  refine r_getfield (o := 80) (v := .ref 96) dX12_pours_44 lX12_66 ck80 nC80 rfl ?_
  refine r_iload_n (x := p1) dX12_pours_47 rfl ?_
  obtain ⟨g17, h⟩ := gd_e h
  refine r_iaload (a := 96) dX12_pours_48 ck96 nC96 (inr_IX g17) ?_
  cases h
  exact r_ireturn dX12_pours_49 rfl (Nat.zero_le _) ⟨rfl, rfl⟩
def fX12_pour (N : Nat) (p0 : Int32) (p1 : Int32) (S : PS) : Option (Int32 × PS) :=
  lt ((u2 S.1 80 0 0, S.2) : PS) fun S1 =>
  bI (fX12_isCup N p0 S1) fun x2 S3 =>
  (if x2 = 0 then
    some (0, S3)
  else
    bI (fX12_within N p1 1 50 S3) fun x6 S7 =>
    (if x6 = 0 then
      bI (fX12_refuses N 1 S7) fun x16 S17 =>
      some (x16, S17)
    else
      bV (fX12_keeps N  S7) fun S11 =>
      bI (fX12_pours N 0 p0 p1 S11) fun x13 S14 =>
      some (x13, S14)))
set_option maxHeartbeats 4000000 in
set_option maxRecDepth 100000 in
theorem okX12_pour (N : Nat) (p0 : Int32) (p1 : Int32) (S : PS) (r : Int32) (T : PS) (h : fX12_pour N p0 p1 S = some (r, T)) : CT mX12_pour 3 0 [.ref 80, .int p0, .int p1] S (qI r T) := by
  refine ct_of [some (.ref 80), some (.int p0), some (.int p1)] rfl (fun _ => rfl) (fun _ => Nat.le_of_ble_eq_true rfl) ?_
  unfold fX12_pour at h
  refine r_aload_n (x := 80) dX12_pour_0 rfl ?_
  refine r_iconst (v := 0) dX12_pour_1 rfl ?_
  refine r_putI dX12_pour_2 lX12_114 ck80 nC80 ?_
  refine r_topS (fun S1 hS1 => ?_)
  replace h := lt_e hS1 h
  refine r_aload_n (x := 80) dX12_pour_5 rfl ?_
  refine r_iload_n (x := p0) dX12_pour_6 rfl ?_
  obtain ⟨x2, S3, h4, h⟩ := bI_e h
  refine r_cVI (y := mX12_isCup) (As := [.int p0]) (rest := []) dX12_pour_7 qX12_351 kX12_isCup rfl ob80 vc12 rfl (okX12_isCup N p0 S1 x2 S3 h4) (by decide) (Nat.zero_le _) rfl (Nat.le_of_ble_eq_true rfl) ?_
  refine r_if_ne (tgt := 15) dX12_pour_10 (by decide) (fun c5 => ?_) (fun c5 => ?_)
  · rw [if_neg c5] at h
    refine r_iload_n (x := p1) dX12_pour_15 rfl ?_
    refine r_iconst (v := 1) dX12_pour_16 rfl ?_
    refine r_bipush (v := 50) dX12_pour_17 rfl ?_
    obtain ⟨x6, S7, h8, h⟩ := bI_e h
    refine r_cSI (y := mX12_within) (As := [.int p1, .int 1, .int 50]) (rest := []) dX12_pour_19 qX12_332 kX12_within rfl (okX12_within N p1 1 50 S3 x6 S7 h8) (by decide) (Nat.zero_le _) rfl (Nat.le_of_ble_eq_true rfl) ?_
    refine r_if_ne (tgt := 31) dX12_pour_22 (by decide) (fun c9 => ?_) (fun c9 => ?_)
    · rw [if_neg c9] at h
      refine r_aload_n (x := 80) dX12_pour_31 rfl ?_
      obtain ⟨S11, h12, h⟩ := bV_e h
      refine r_cVV (y := mX12_keeps) (As := []) (rest := []) dX12_pour_32 qX12_366 kX12_keeps rfl ob80 vc12 rfl (okX12_keeps N  S7 S11 h12) (by decide) (Nat.zero_le _) rfl (Nat.le_of_ble_eq_true rfl) ?_
      refine r_aload_n (x := 80) dX12_pour_35 rfl ?_
      refine r_iconst (v := 0) dX12_pour_36 rfl ?_
      refine r_iload_n (x := p0) dX12_pour_37 rfl ?_
      refine r_iload_n (x := p1) dX12_pour_38 rfl ?_
      obtain ⟨x13, S14, h15, h⟩ := bI_e h
      refine r_cVI (y := mX12_pours) (As := [.int 0, .int p0, .int p1]) (rest := []) dX12_pour_39 qX12_372 kX12_pours rfl ob80 vc12 rfl (okX12_pours N 0 p0 p1 S11 x13 S14 h15) (by decide) (Nat.zero_le _) rfl (Nat.le_of_ble_eq_true rfl) ?_
      cases h
      exact r_ireturn dX12_pour_42 rfl (Nat.zero_le _) ⟨rfl, rfl⟩
    · rw [if_pos c9] at h
      refine r_aload_n (x := 80) dX12_pour_25 rfl ?_
      refine r_iconst (v := 1) dX12_pour_26 rfl ?_
      obtain ⟨x16, S17, h18, h⟩ := bI_e h
      refine r_cVI (y := mX12_refuses) (As := [.int 1]) (rest := []) dX12_pour_27 qX12_363 kX12_refuses rfl ob80 vc12 rfl (okX12_refuses N 1 S7 x16 S17 h18) (by decide) (Nat.zero_le _) rfl (Nat.le_of_ble_eq_true rfl) ?_
      cases h
      exact r_ireturn dX12_pour_30 rfl (Nat.zero_le _) ⟨rfl, rfl⟩
  · rw [if_pos c5] at h
    refine r_iconst (v := 0) dX12_pour_13 rfl ?_
    cases h
    exact r_ireturn dX12_pour_14 rfl (Nat.zero_le _) ⟨rfl, rfl⟩
def fX12_cracks (N : Nat) (p0 : Int32) (p1 : Int32) (p2 : Int32) (S : PS) : Option PS :=
  gd (inr ((p0 + 1) + p1) 128) <|
  lt ((u2 S.1 91 (ix ((p0 + 1) + p1)) p2, S.2) : PS) fun S2 =>
  gd (inr ((p0 + 10) + p1) 128) <|
  bI (fX12_lesser N (S2.1 91 (ix ((p0 + 10) + p1))) (p2 - 1) S2) fun x4 S5 =>
  gd (inr ((p0 + 10) + p1) 128) <|
  lt ((u2 S5.1 91 (ix ((p0 + 10) + p1)) x4, S5.2) : PS) fun S8 =>
  some S8
set_option maxHeartbeats 4000000 in
set_option maxRecDepth 100000 in
theorem okX12_cracks (N : Nat) (p0 : Int32) (p1 : Int32) (p2 : Int32) (S : PS) (T : PS) (h : fX12_cracks N p0 p1 p2 S = some T) : CT mX12_cracks 1 0 [.ref 80, .int p0, .int p1, .int p2] S (qV T) := by
  refine ct_of [some (.ref 80), some (.int p0), some (.int p1), some (.int p2)] rfl (fun _ => rfl) (fun _ => Nat.le_of_ble_eq_true rfl) ?_
  unfold fX12_cracks at h
  refine r_aload_n (x := 80) dX12_cracks_0 rfl ?_
  refine r_getfield (o := 80) (v := .ref 91) dX12_cracks_1 lX12_51 ck80 nC80 rfl ?_
  refine r_iload_n (x := p0) dX12_cracks_4 rfl ?_
  refine r_iconst (v := 1) dX12_cracks_5 rfl ?_
  refine r_iadd dX12_cracks_6 ?_
  refine r_iload_n (x := p1) dX12_cracks_7 rfl ?_
  refine r_iadd dX12_cracks_8 ?_
  refine r_iload_n (x := p2) dX12_cracks_9 rfl ?_
  obtain ⟨g1, h⟩ := gd_e h
  refine r_iastore (a := 91) dX12_cracks_10 ck91 nC91 (inr_IX g1) ?_
  refine r_topS (fun S2 hS2 => ?_)
  replace h := lt_e hS2 h
  refine r_aload_n (x := 80) dX12_cracks_11 rfl ?_
  refine r_getfield (o := 80) (v := .ref 91) dX12_cracks_12 lX12_51 ck80 nC80 rfl ?_
  refine r_iload_n (x := p0) dX12_cracks_15 rfl ?_
  refine r_bipush (v := 10) dX12_cracks_16 rfl ?_
  refine r_iadd dX12_cracks_18 ?_
  refine r_iload_n (x := p1) dX12_cracks_19 rfl ?_
  refine r_iadd dX12_cracks_20 ?_
  refine r_aload_n (x := 80) dX12_cracks_21 rfl ?_
  refine r_getfield (o := 80) (v := .ref 91) dX12_cracks_22 lX12_51 ck80 nC80 rfl ?_
  refine r_iload_n (x := p0) dX12_cracks_25 rfl ?_
  refine r_bipush (v := 10) dX12_cracks_26 rfl ?_
  refine r_iadd dX12_cracks_28 ?_
  refine r_iload_n (x := p1) dX12_cracks_29 rfl ?_
  refine r_iadd dX12_cracks_30 ?_
  obtain ⟨g3, h⟩ := gd_e h
  refine r_iaload (a := 91) dX12_cracks_31 ck91 nC91 (inr_IX g3) ?_
  refine r_iload_n (x := p2) dX12_cracks_32 rfl ?_
  refine r_iconst (v := 1) dX12_cracks_33 rfl ?_
  refine r_isub dX12_cracks_34 ?_
  obtain ⟨x4, S5, h6, h⟩ := bI_e h
  refine r_cSI (y := mX12_lesser) (As := [.int (S2.1 91 (ix ((p0 + 10) + p1))), .int (p2 - 1)]) (rest := [.int ((p0 + 10) + p1), .ref 91]) dX12_cracks_35 qX12_297 kX12_lesser rfl (okX12_lesser N (S2.1 91 (ix ((p0 + 10) + p1))) (p2 - 1) S2 x4 S5 h6) (by decide) (Nat.zero_le _) rfl (Nat.le_of_ble_eq_true rfl) ?_
  obtain ⟨g7, h⟩ := gd_e h
  refine r_iastore (a := 91) dX12_cracks_38 ck91 nC91 (inr_IX g7) ?_
  refine r_topS (fun S8 hS8 => ?_)
  replace h := lt_e hS8 h
  cases h
  exact r_return dX12_cracks_39 rfl (Nat.zero_le _) ⟨rfl, rfl⟩
def fX12_crack (N : Nat) (p0 : Int32) (p1 : Int32) (S : PS) : Option (Int32 × PS) :=
  lt ((u2 S.1 80 0 0, S.2) : PS) fun S1 =>
  bI (fX12_isCup N p0 S1) fun x2 S3 =>
  (if x2 = 0 then
    some (0, S3)
  else
    gd (inr (1 + p0) 128) <|
    lt ((S3.1 91 (ix (1 + p0))) : Int32) fun x7 =>
    bI (fX12_within N p1 1 30 S3) fun x8 S9 =>
    (if x8 = 0 then
      bI (fX12_refuses N 1 S9) fun x12 S13 =>
      some (x12, S13)
    else
      (if x7 = p1 then
        bI (fX12_refuses N 1 S9) fun x22 S23 =>
        some (x22, S23)
      else
        bV (fX12_keeps N  S9) fun S17 =>
        bV (fX12_cracks N 0 p0 p1 S17) fun S20 =>
        some (x7, S20))))
set_option maxHeartbeats 4000000 in
set_option maxRecDepth 100000 in
theorem okX12_crack (N : Nat) (p0 : Int32) (p1 : Int32) (S : PS) (r : Int32) (T : PS) (h : fX12_crack N p0 p1 S = some (r, T)) : CT mX12_crack 2 0 [.ref 80, .int p0, .int p1] S (qI r T) := by
  refine ct_of [some (.ref 80), some (.int p0), some (.int p1), none] rfl (fun _ => rfl) (fun _ => Nat.le_of_ble_eq_true rfl) ?_
  unfold fX12_crack at h
  refine r_aload_n (x := 80) dX12_crack_0 rfl ?_
  refine r_iconst (v := 0) dX12_crack_1 rfl ?_
  refine r_putI dX12_crack_2 lX12_114 ck80 nC80 ?_
  refine r_topS (fun S1 hS1 => ?_)
  replace h := lt_e hS1 h
  refine r_aload_n (x := 80) dX12_crack_5 rfl ?_
  refine r_iload_n (x := p0) dX12_crack_6 rfl ?_
  obtain ⟨x2, S3, h4, h⟩ := bI_e h
  refine r_cVI (y := mX12_isCup) (As := [.int p0]) (rest := []) dX12_crack_7 qX12_351 kX12_isCup rfl ob80 vc12 rfl (okX12_isCup N p0 S1 x2 S3 h4) (by decide) (Nat.zero_le _) rfl (Nat.le_of_ble_eq_true rfl) ?_
  refine r_if_ne (tgt := 15) dX12_crack_10 (by decide) (fun c5 => ?_) (fun c5 => ?_)
  · rw [if_neg c5] at h
    refine r_aload_n (x := 80) dX12_crack_15 rfl ?_
    refine r_getfield (o := 80) (v := .ref 91) dX12_crack_16 lX12_51 ck80 nC80 rfl ?_
    refine r_iconst (v := 1) dX12_crack_19 rfl ?_
    refine r_iload_n (x := p0) dX12_crack_20 rfl ?_
    refine r_iadd dX12_crack_21 ?_
    obtain ⟨g6, h⟩ := gd_e h
    refine r_iaload (a := 91) dX12_crack_22 ck91 nC91 (inr_IX g6) ?_
    refine r_topi (fun x7 hx7 => ?_)
    replace h := lt_e hx7 h
    refine r_istore_n (L' := [some (.ref 80), some (.int p0), some (.int p1), some (.int x7)]) dX12_crack_23 (Nat.le_of_ble_eq_true rfl) rfl rfl ?_
    refine r_iload_n (x := p1) dX12_crack_24 rfl ?_
    refine r_iconst (v := 1) dX12_crack_25 rfl ?_
    refine r_bipush (v := 30) dX12_crack_26 rfl ?_
    obtain ⟨x8, S9, h10, h⟩ := bI_e h
    refine r_cSI (y := mX12_within) (As := [.int p1, .int 1, .int 30]) (rest := []) dX12_crack_28 qX12_332 kX12_within rfl (okX12_within N p1 1 30 S3 x8 S9 h10) (by decide) (Nat.zero_le _) rfl (Nat.le_of_ble_eq_true rfl) ?_
    refine r_if_eq (tgt := 39) dX12_crack_31 (by decide) (fun c11 => ?_) (fun c11 => ?_)
    · rw [if_pos c11] at h
      refine r_aload_n (x := 80) dX12_crack_39 rfl ?_
      refine r_iconst (v := 1) dX12_crack_40 rfl ?_
      obtain ⟨x12, S13, h14, h⟩ := bI_e h
      refine r_cVI (y := mX12_refuses) (As := [.int 1]) (rest := []) dX12_crack_41 qX12_363 kX12_refuses rfl ob80 vc12 rfl (okX12_refuses N 1 S9 x12 S13 h14) (by decide) (Nat.zero_le _) rfl (Nat.le_of_ble_eq_true rfl) ?_
      cases h
      exact r_ireturn dX12_crack_44 rfl (Nat.zero_le _) ⟨rfl, rfl⟩
    · rw [if_neg c11] at h
      refine r_iload_n (x := x7) dX12_crack_34 rfl ?_
      refine r_iload_n (x := p1) dX12_crack_35 rfl ?_
      refine r_icmp_ne (tgt := 45) dX12_crack_36 (by decide) (fun c15 => ?_) (fun c15 => ?_)
      · rw [if_neg c15] at h
        refine r_aload_n (x := 80) dX12_crack_45 rfl ?_
        obtain ⟨S17, h18, h⟩ := bV_e h
        refine r_cVV (y := mX12_keeps) (As := []) (rest := []) dX12_crack_46 qX12_366 kX12_keeps rfl ob80 vc12 rfl (okX12_keeps N  S9 S17 h18) (by decide) (Nat.zero_le _) rfl (Nat.le_of_ble_eq_true rfl) ?_
        refine r_aload_n (x := 80) dX12_crack_49 rfl ?_
        refine r_iconst (v := 0) dX12_crack_50 rfl ?_
        refine r_iload_n (x := p0) dX12_crack_51 rfl ?_
        refine r_iload_n (x := p1) dX12_crack_52 rfl ?_
        obtain ⟨S20, h21, h⟩ := bV_e h
        refine r_cVV (y := mX12_cracks) (As := [.int 0, .int p0, .int p1]) (rest := []) dX12_crack_53 qX12_375 kX12_cracks rfl ob80 vc12 rfl (okX12_cracks N 0 p0 p1 S17 S20 h21) (by decide) (Nat.zero_le _) rfl (Nat.le_of_ble_eq_true rfl) ?_
        refine r_iload_n (x := x7) dX12_crack_56 rfl ?_
        cases h
        exact r_ireturn dX12_crack_57 rfl (Nat.zero_le _) ⟨rfl, rfl⟩
      · rw [if_pos c15] at h
        refine r_aload_n (x := 80) dX12_crack_39 rfl ?_
        refine r_iconst (v := 1) dX12_crack_40 rfl ?_
        obtain ⟨x22, S23, h24, h⟩ := bI_e h
        refine r_cVI (y := mX12_refuses) (As := [.int 1]) (rest := []) dX12_crack_41 qX12_363 kX12_refuses rfl ob80 vc12 rfl (okX12_refuses N 1 S9 x22 S23 h24) (by decide) (Nat.zero_le _) rfl (Nat.le_of_ble_eq_true rfl) ?_
        cases h
        exact r_ireturn dX12_crack_44 rfl (Nat.zero_le _) ⟨rfl, rfl⟩
  · rw [if_pos c5] at h
    refine r_iconst (v := 0) dX12_crack_13 rfl ?_
    cases h
    exact r_ireturn dX12_crack_14 rfl (Nat.zero_le _) ⟨rfl, rfl⟩
def fX12_then_44 (N : Nat) (v1 : Int32) (v2 : Int32) (v3 : Int32) : Nat → Int32 → Int32 → PS → Option (Int32 × Int32 × PS)
  | 0, _, _, _ => none
  | n + 1, v4, v5, S =>
    (if v2 ≤ v5 then
      some (v4, v5, S)
    else
      bV (fX12_hourGoes N 64 S) fun S19 =>
      gd (inr v1 9) <|
      lt ((v4 + (S19.1 96 (ix v1))) : Int32) fun x22 =>
      lt (v5 + 1 : Int32) fun x23 =>
      fX12_then_44 N v1 v2 v3 n x22 x23 S19)
set_option maxHeartbeats 4000000 in
set_option maxRecDepth 100000 in
theorem okX12_then_44 (N : Nat) (v1 : Int32) (v2 : Int32) (v3 : Int32) (Q : OQ) (u : Nat) (hu : u ≤ 0) : ∀ (n : Nat) (v4 : Int32) (v5 : Int32) (S : PS) (y4 : Int32) (y5 : Int32) (T : PS), fX12_then_44 N v1 v2 v3 n v4 v5 S = some (y4, y5, T) → WP [] mX12_then 5 0 Q 73 [some (.ref 80), some (.int v1), some (.int v2), some (.int v3), some (.int y4), some (.int y5)] [] T u → WP [] mX12_then 5 0 Q 44 [some (.ref 80), some (.int v1), some (.int v2), some (.int v3), some (.int v4), some (.int v5)] [] S u := by
  intro n
  induction n with
  | zero => intro v4 v5 S y4 y5 T h; rw [fX12_then_44] at h; cases h
  | succ n ih =>
    intro v4 v5 S y4 y5 T h k0
    rw [fX12_then_44] at h
    refine r_iload (x := v5) dX12_then_44 rfl ?_
    refine r_iload_n (x := v2) dX12_then_46 rfl ?_
    refine r_icmp_ge (tgt := 73) dX12_then_47 (by decide) (fun c17 => ?_) (fun c17 => ?_)
    · rw [if_pos c17] at h
      cases h
      exact k0
    · rw [if_neg c17] at h
      refine r_aload_n (x := 80) dX12_then_50 rfl ?_
      refine r_bipush (v := 64) dX12_then_51 rfl ?_
      obtain ⟨S19, h20, h⟩ := bV_e h
      refine r_cVV (y := mX12_hourGoes) (As := [.int 64]) (rest := []) dX12_then_53 qX12_323 kX12_hourGoes rfl ob80 vc12 rfl (okX12_hourGoes N 64 S S19 h20) (by decide) hu rfl (Nat.le_of_ble_eq_true rfl) ?_
      refine r_iload (x := v4) dX12_then_56 rfl ?_
      refine r_aload_n (x := 80) dX12_then_58 rfl ?_
      refine r_getfield (o := 80) (v := .ref 96) dX12_then_59 lX12_66 ck80 nC80 rfl ?_
      refine r_iload_n (x := v1) dX12_then_62 rfl ?_
      obtain ⟨g21, h⟩ := gd_e h
      refine r_iaload (a := 96) dX12_then_63 ck96 nC96 (inr_IX g21) ?_
      refine r_iadd dX12_then_64 ?_
      refine r_topi (fun x22 hx22 => ?_)
      replace h := lt_e hx22 h
      refine r_istore (L' := [some (.ref 80), some (.int v1), some (.int v2), some (.int v3), some (.int x22), some (.int v5)]) dX12_then_65 (Nat.le_of_ble_eq_true rfl) rfl rfl ?_
      obtain ⟨x23, hx23⟩ : ∃ y : Int32, y = (v5 + 1 : Int32) := ⟨_, rfl⟩
      replace h := lt_e hx23 h
      refine r_iinc (x := v5) (v := x23) (L' := [some (.ref 80), some (.int v1), some (.int v2), some (.int v3), some (.int x22), some (.int x23)]) dX12_then_67 rfl (by rw [hx23]; rfl) (Nat.le_of_ble_eq_true rfl) rfl rfl ?_
      refine r_goto (tgt := 44) dX12_then_70 (by decide) ?_
      exact ih _ _ _ _ _ _ h k0
def fX12_then (N : Nat) (p0 : Int32) (p1 : Int32) (p2 : Int32) (S : PS) : Option (Int32 × PS) :=
  lt ((u2 S.1 80 0 0, S.2) : PS) fun S1 =>
  bI (fX12_isCup N p0 S1) fun x2 S3 =>
  (if x2 = 0 then
    some (0, S3)
  else
    bI (fX12_isWhat N p2 1 S3) fun x6 S7 =>
    (if x6 = 0 then
      some (0, S7)
    else
      bI (fX12_isSoon N p1 0 2 S7) fun x10 S11 =>
      (if x10 = 0 then
        some (0, S11)
      else
        bV (fX12_tries N  S11) fun S15 =>
        bT (fX12_then_44 N p0 p1 p2 N 0 0 S15) fun q24 =>
        lt (q24.1 : Int32) fun x25 =>
        lt (q24.2.1 : Int32) fun x26 =>
        lt (q24.2.2 : PS) fun S27 =>
        (if p2 = 0 then
          gd (inr (74 + p0) 128) <|
          some ((S27.1 91 (ix (74 + p0))), S27)
        else
          some (x25, S27)))))
set_option maxHeartbeats 4000000 in
set_option maxRecDepth 100000 in
theorem okX12_then (N : Nat) (p0 : Int32) (p1 : Int32) (p2 : Int32) (S : PS) (r : Int32) (T : PS) (h : fX12_then N p0 p1 p2 S = some (r, T)) : CT mX12_then 5 0 [.ref 80, .int p0, .int p1, .int p2] S (qI r T) := by
  refine ct_of [some (.ref 80), some (.int p0), some (.int p1), some (.int p2), none, none] rfl (fun _ => rfl) (fun _ => Nat.le_of_ble_eq_true rfl) ?_
  unfold fX12_then at h
  refine r_aload_n (x := 80) dX12_then_0 rfl ?_
  refine r_iconst (v := 0) dX12_then_1 rfl ?_
  refine r_putI dX12_then_2 lX12_114 ck80 nC80 ?_
  refine r_topS (fun S1 hS1 => ?_)
  replace h := lt_e hS1 h
  refine r_aload_n (x := 80) dX12_then_5 rfl ?_
  refine r_iload_n (x := p0) dX12_then_6 rfl ?_
  obtain ⟨x2, S3, h4, h⟩ := bI_e h
  refine r_cVI (y := mX12_isCup) (As := [.int p0]) (rest := []) dX12_then_7 qX12_351 kX12_isCup rfl ob80 vc12 rfl (okX12_isCup N p0 S1 x2 S3 h4) (by decide) (Nat.zero_le _) rfl (Nat.le_of_ble_eq_true rfl) ?_
  refine r_if_eq (tgt := 32) dX12_then_10 (by decide) (fun c5 => ?_) (fun c5 => ?_)
  · rw [if_pos c5] at h
    refine r_iconst (v := 0) dX12_then_32 rfl ?_
    cases h
    exact r_ireturn dX12_then_33 rfl (Nat.zero_le _) ⟨rfl, rfl⟩
  · rw [if_neg c5] at h
    refine r_aload_n (x := 80) dX12_then_13 rfl ?_
    refine r_iload_n (x := p2) dX12_then_14 rfl ?_
    refine r_iconst (v := 1) dX12_then_15 rfl ?_
    obtain ⟨x6, S7, h8, h⟩ := bI_e h
    refine r_cVI (y := mX12_isWhat) (As := [.int p2, .int 1]) (rest := []) dX12_then_16 qX12_354 kX12_isWhat rfl ob80 vc12 rfl (okX12_isWhat N p2 1 S3 x6 S7 h8) (by decide) (Nat.zero_le _) rfl (Nat.le_of_ble_eq_true rfl) ?_
    refine r_if_eq (tgt := 32) dX12_then_19 (by decide) (fun c9 => ?_) (fun c9 => ?_)
    · rw [if_pos c9] at h
      refine r_iconst (v := 0) dX12_then_32 rfl ?_
      cases h
      exact r_ireturn dX12_then_33 rfl (Nat.zero_le _) ⟨rfl, rfl⟩
    · rw [if_neg c9] at h
      refine r_aload_n (x := 80) dX12_then_22 rfl ?_
      refine r_iload_n (x := p1) dX12_then_23 rfl ?_
      refine r_iconst (v := 0) dX12_then_24 rfl ?_
      refine r_iconst (v := 2) dX12_then_25 rfl ?_
      obtain ⟨x10, S11, h12, h⟩ := bI_e h
      refine r_cVI (y := mX12_isSoon) (As := [.int p1, .int 0, .int 2]) (rest := []) dX12_then_26 qX12_378 kX12_isSoon rfl ob80 vc12 rfl (okX12_isSoon N p1 0 2 S7 x10 S11 h12) (by decide) (Nat.zero_le _) rfl (Nat.le_of_ble_eq_true rfl) ?_
      refine r_if_ne (tgt := 34) dX12_then_29 (by decide) (fun c13 => ?_) (fun c13 => ?_)
      · rw [if_neg c13] at h
        refine r_iconst (v := 0) dX12_then_34 rfl ?_
        refine r_istore (L' := [some (.ref 80), some (.int p0), some (.int p1), some (.int p2), some (.int 0), none]) dX12_then_35 (Nat.le_of_ble_eq_true rfl) rfl rfl ?_
        refine r_aload_n (x := 80) dX12_then_37 rfl ?_
        obtain ⟨S15, h16, h⟩ := bV_e h
        refine r_cVV (y := mX12_tries) (As := []) (rest := []) dX12_then_38 qX12_381 kX12_tries rfl ob80 vc12 rfl (okX12_tries N  S11 S15 h16) (by decide) (Nat.zero_le _) rfl (Nat.le_of_ble_eq_true rfl) ?_
        refine r_iconst (v := 0) dX12_then_41 rfl ?_
        refine r_istore (L' := [some (.ref 80), some (.int p0), some (.int p1), some (.int p2), some (.int 0), some (.int 0)]) dX12_then_42 (Nat.le_of_ble_eq_true rfl) rfl rfl ?_
        obtain ⟨⟨x25, x26, S27⟩, h29, h⟩ := bT_e h
        dsimp only at h
        replace h := pl_s (pl_s (pl_s (h)))
        refine okX12_then_44 N p0 p1 p2 (qI r T) 0 (Nat.zero_le _) _ _ _ _ _ _ _ h29 ?_
        refine r_iload_n (x := p2) dX12_then_73 rfl ?_
        refine r_if_ne (tgt := 89) dX12_then_74 (by decide) (fun c30 => ?_) (fun c30 => ?_)
        · rw [if_neg c30] at h
          refine r_iload (x := x25) dX12_then_89 rfl ?_
          cases h
          exact r_ireturn dX12_then_91 rfl (Nat.zero_le _) ⟨rfl, rfl⟩
        · rw [if_pos c30] at h
          refine r_aload_n (x := 80) dX12_then_77 rfl ?_
          refine r_getfield (o := 80) (v := .ref 91) dX12_then_78 lX12_51 ck80 nC80 rfl ?_
          refine r_bipush (v := 74) dX12_then_81 rfl ?_
          refine r_iload_n (x := p0) dX12_then_83 rfl ?_
          refine r_iadd dX12_then_84 ?_
          obtain ⟨g31, h⟩ := gd_e h
          refine r_iaload (a := 91) dX12_then_85 ck91 nC91 (inr_IX g31) ?_
          refine r_goto (tgt := 91) dX12_then_86 (by decide) ?_
          cases h
          exact r_ireturn dX12_then_91 rfl (Nat.zero_le _) ⟨rfl, rfl⟩
      · rw [if_pos c13] at h
        refine r_iconst (v := 0) dX12_then_32 rfl ?_
        cases h
        exact r_ireturn dX12_then_33 rfl (Nat.zero_le _) ⟨rfl, rfl⟩
def fX12_tipping (N : Nat) (p0 : Int32) (S : PS) : Option (Int32 × PS) :=
  lt ((u2 S.1 80 0 0, S.2) : PS) fun S1 =>
  bI (fX12_isSoon N p0 1 1 S1) fun x2 S3 =>
  (if x2 = 0 then
    some (0, S3)
  else
    bV (fX12_tries N  S3) fun S7 =>
    bV (fX12_hoursGo N p0 S7) fun S10 =>
    some ((S10.1 80 38), S10))
set_option maxHeartbeats 4000000 in
set_option maxRecDepth 100000 in
theorem okX12_tipping (N : Nat) (p0 : Int32) (S : PS) (r : Int32) (T : PS) (h : fX12_tipping N p0 S = some (r, T)) : CT mX12_tipping 6 0 [.ref 80, .int p0] S (qI r T) := by
  refine ct_of [some (.ref 80), some (.int p0)] rfl (fun _ => rfl) (fun _ => Nat.le_of_ble_eq_true rfl) ?_
  unfold fX12_tipping at h
  refine r_aload_n (x := 80) dX12_tipping_0 rfl ?_
  refine r_iconst (v := 0) dX12_tipping_1 rfl ?_
  refine r_putI dX12_tipping_2 lX12_114 ck80 nC80 ?_
  refine r_topS (fun S1 hS1 => ?_)
  replace h := lt_e hS1 h
  refine r_aload_n (x := 80) dX12_tipping_5 rfl ?_
  refine r_iload_n (x := p0) dX12_tipping_6 rfl ?_
  refine r_iconst (v := 1) dX12_tipping_7 rfl ?_
  refine r_iconst (v := 1) dX12_tipping_8 rfl ?_
  obtain ⟨x2, S3, h4, h⟩ := bI_e h
  refine r_cVI (y := mX12_isSoon) (As := [.int p0, .int 1, .int 1]) (rest := []) dX12_tipping_9 qX12_378 kX12_isSoon rfl ob80 vc12 rfl (okX12_isSoon N p0 1 1 S1 x2 S3 h4) (by decide) (Nat.zero_le _) rfl (Nat.le_of_ble_eq_true rfl) ?_
  refine r_if_ne (tgt := 17) dX12_tipping_12 (by decide) (fun c5 => ?_) (fun c5 => ?_)
  · rw [if_neg c5] at h
    refine r_aload_n (x := 80) dX12_tipping_17 rfl ?_
    obtain ⟨S7, h8, h⟩ := bV_e h
    refine r_cVV (y := mX12_tries) (As := []) (rest := []) dX12_tipping_18 qX12_381 kX12_tries rfl ob80 vc12 rfl (okX12_tries N  S3 S7 h8) (by decide) (Nat.zero_le _) rfl (Nat.le_of_ble_eq_true rfl) ?_
    refine r_aload_n (x := 80) dX12_tipping_21 rfl ?_
    refine r_iload_n (x := p0) dX12_tipping_22 rfl ?_
    obtain ⟨S10, h11, h⟩ := bV_e h
    refine r_cVV (y := mX12_hoursGo) (As := [.int p0]) (rest := []) dX12_tipping_23 qX12_384 kX12_hoursGo rfl ob80 vc12 rfl (okX12_hoursGo N p0 S7 S10 h11) (by decide) (Nat.zero_le _) rfl (Nat.le_of_ble_eq_true rfl) ?_
    refine r_aload_n (x := 80) dX12_tipping_26 rfl ?_
    refine r_getfield (o := 80) (v := .int (S10.1 80 38)) dX12_tipping_27 lX12_300 ck80 nC80 rfl ?_
    cases h
    exact r_ireturn dX12_tipping_30 rfl (Nat.zero_le _) ⟨rfl, rfl⟩
  · rw [if_pos c5] at h
    refine r_iconst (v := 0) dX12_tipping_15 rfl ?_
    cases h
    exact r_ireturn dX12_tipping_16 rfl (Nat.zero_le _) ⟨rfl, rfl⟩
def fX12_allTip_4 (N : Nat) (v1 : Int32) (v2 : Int32) : Nat → Int32 → PS → Option (Nat × Int32 × PS)
  | 0, _, _ => none
  | n + 1, v3, S =>
    (if 200 < v3 then
      some (0, v3, S)
    else
      bV (fX12_hourGoes N 64 S) fun S4 =>
      (if ((S4.1 80 38) &&& v1) = v1 then
        some (1, v3, S4)
      else
        lt (v3 + 1 : Int32) fun x7 =>
        fX12_allTip_4 N v1 v2 n x7 S4))
set_option maxHeartbeats 4000000 in
set_option maxRecDepth 100000 in
theorem okX12_allTip_4 (N : Nat) (v1 : Int32) (v2 : Int32) (Q : OQ) (u : Nat) (hu : u ≤ 0) : ∀ (n : Nat) (v3 : Int32) (S : PS) (tg : Nat) (y3 : Int32) (T : PS), fX12_allTip_4 N v1 v2 n v3 S = some (tg, y3, T) → (tg = 0 → WP [] mX12_allTip 5 0 Q 35 [some (.ref 80), some (.int v1), some (.int v2), some (.int y3)] [] T u) → (tg = 1 → WP [] mX12_allTip 5 0 Q 27 [some (.ref 80), some (.int v1), some (.int v2), some (.int y3)] [] T u) → WP [] mX12_allTip 5 0 Q 4 [some (.ref 80), some (.int v1), some (.int v2), some (.int v3)] [] S u := by
  intro n
  induction n with
  | zero => intro v3 S tg y3 T h; rw [fX12_allTip_4] at h; cases h
  | succ n ih =>
    intro v3 S tg y3 T h k0 k1
    rw [fX12_allTip_4] at h
    refine r_iload_n (x := v3) dX12_allTip_4 rfl ?_
    refine r_sipush (v := 200) dX12_allTip_5 rfl ?_
    refine r_icmp_gt (tgt := 35) dX12_allTip_8 (by decide) (fun c2 => ?_) (fun c2 => ?_)
    · rw [if_pos c2] at h
      cases h
      exact k0 rfl
    · rw [if_neg c2] at h
      refine r_aload_n (x := 80) dX12_allTip_11 rfl ?_
      refine r_bipush (v := 64) dX12_allTip_12 rfl ?_
      obtain ⟨S4, h5, h⟩ := bV_e h
      refine r_cVV (y := mX12_hourGoes) (As := [.int 64]) (rest := []) dX12_allTip_14 qX12_323 kX12_hourGoes rfl ob80 vc12 rfl (okX12_hourGoes N 64 S S4 h5) (by decide) hu rfl (Nat.le_of_ble_eq_true rfl) ?_
      refine r_aload_n (x := 80) dX12_allTip_17 rfl ?_
      refine r_getfield (o := 80) (v := .int (S4.1 80 38)) dX12_allTip_18 lX12_300 ck80 nC80 rfl ?_
      refine r_iload_n (x := v1) dX12_allTip_21 rfl ?_
      refine r_iand dX12_allTip_22 ?_
      refine r_iload_n (x := v1) dX12_allTip_23 rfl ?_
      refine r_icmp_ne (tgt := 29) dX12_allTip_24 (by decide) (fun c6 => ?_) (fun c6 => ?_)
      · rw [if_neg c6] at h
        obtain ⟨x7, hx7⟩ : ∃ y : Int32, y = (v3 + 1 : Int32) := ⟨_, rfl⟩
        replace h := lt_e hx7 h
        refine r_iinc (x := v3) (v := x7) (L' := [some (.ref 80), some (.int v1), some (.int v2), some (.int x7)]) dX12_allTip_29 rfl (by rw [hx7]; rfl) (Nat.le_of_ble_eq_true rfl) rfl rfl ?_
        refine r_goto (tgt := 4) dX12_allTip_32 (by decide) ?_
        exact ih _ _ _ _ _ h k0 k1
      · rw [if_pos c6] at h
        cases h
        exact k1 rfl
def fX12_allTip (N : Nat) (p0 : Int32) (p1 : Int32) (S : PS) : Option (Int32 × PS) :=
  lt ((p1 + 1) : Int32) fun x1 =>
  bT (fX12_allTip_4 N p0 p1 N x1 S) fun q8 =>
  lt (q8.1 : Nat) fun t11 =>
  lt (q8.2.1 : Int32) fun x9 =>
  lt (q8.2.2 : PS) fun S10 =>
  (if t11 = 0 then
    some ((-1), S10)
  else 
    some (x9, S10))
set_option maxHeartbeats 4000000 in
set_option maxRecDepth 100000 in
theorem okX12_allTip (N : Nat) (p0 : Int32) (p1 : Int32) (S : PS) (r : Int32) (T : PS) (h : fX12_allTip N p0 p1 S = some (r, T)) : CT mX12_allTip 5 0 [.ref 80, .int p0, .int p1] S (qI r T) := by
  refine ct_of [some (.ref 80), some (.int p0), some (.int p1), none] rfl (fun _ => rfl) (fun _ => Nat.le_of_ble_eq_true rfl) ?_
  unfold fX12_allTip at h
  refine r_iload_n (x := p1) dX12_allTip_0 rfl ?_
  refine r_iconst (v := 1) dX12_allTip_1 rfl ?_
  refine r_iadd dX12_allTip_2 ?_
  refine r_topi (fun x1 hx1 => ?_)
  replace h := lt_e hx1 h
  refine r_istore_n (L' := [some (.ref 80), some (.int p0), some (.int p1), some (.int x1)]) dX12_allTip_3 (Nat.le_of_ble_eq_true rfl) rfl rfl ?_
  obtain ⟨⟨t11, x9, S10⟩, h12, h⟩ := bT_e h
  dsimp only at h
  replace h := pl_s (pl_s (pl_s (h)))
  refine okX12_allTip_4 N p0 p1 (qI r T) 0 (Nat.zero_le _) _ _ _ _ _ _ h12 (fun et11 => ?_) (fun et11 => ?_)
  · rw [if_pos et11] at h
    refine r_iconst (v := (-1)) dX12_allTip_35 rfl ?_
    cases h
    exact r_ireturn dX12_allTip_36 rfl (Nat.zero_le _) ⟨rfl, rfl⟩
  · rw [if_neg (by rw [et11]; decide)] at h
    refine r_iload_n (x := x9) dX12_allTip_27 rfl ?_
    cases h
    exact r_ireturn dX12_allTip_28 rfl (Nat.zero_le _) ⟨rfl, rfl⟩
def fX12_next (N : Nat) (p0 : Int32) (S : PS) : Option (Int32 × PS) :=
  lt ((u2 S.1 80 0 0, S.2) : PS) fun S1 =>
  bI (fX12_isCup N p0 S1) fun x2 S3 =>
  (if x2 = 0 then
    some (0, S3)
  else
    bV (fX12_tries N  S3) fun S7 =>
    bI (fX12_allTip N (1 <<< (p0 &&& 31)) 0 S7) fun x9 S10 =>
    some (x9, S10))
set_option maxHeartbeats 4000000 in
set_option maxRecDepth 100000 in
theorem okX12_next (N : Nat) (p0 : Int32) (S : PS) (r : Int32) (T : PS) (h : fX12_next N p0 S = some (r, T)) : CT mX12_next 6 0 [.ref 80, .int p0] S (qI r T) := by
  refine ct_of [some (.ref 80), some (.int p0)] rfl (fun _ => rfl) (fun _ => Nat.le_of_ble_eq_true rfl) ?_
  unfold fX12_next at h
  refine r_aload_n (x := 80) dX12_next_0 rfl ?_
  refine r_iconst (v := 0) dX12_next_1 rfl ?_
  refine r_putI dX12_next_2 lX12_114 ck80 nC80 ?_
  refine r_topS (fun S1 hS1 => ?_)
  replace h := lt_e hS1 h
  refine r_aload_n (x := 80) dX12_next_5 rfl ?_
  refine r_iload_n (x := p0) dX12_next_6 rfl ?_
  obtain ⟨x2, S3, h4, h⟩ := bI_e h
  refine r_cVI (y := mX12_isCup) (As := [.int p0]) (rest := []) dX12_next_7 qX12_351 kX12_isCup rfl ob80 vc12 rfl (okX12_isCup N p0 S1 x2 S3 h4) (by decide) (Nat.zero_le _) rfl (Nat.le_of_ble_eq_true rfl) ?_
  refine r_if_ne (tgt := 15) dX12_next_10 (by decide) (fun c5 => ?_) (fun c5 => ?_)
  · rw [if_neg c5] at h
    refine r_aload_n (x := 80) dX12_next_15 rfl ?_
    obtain ⟨S7, h8, h⟩ := bV_e h
    refine r_cVV (y := mX12_tries) (As := []) (rest := []) dX12_next_16 qX12_381 kX12_tries rfl ob80 vc12 rfl (okX12_tries N  S3 S7 h8) (by decide) (Nat.zero_le _) rfl (Nat.le_of_ble_eq_true rfl) ?_
    refine r_aload_n (x := 80) dX12_next_19 rfl ?_
    refine r_iconst (v := 1) dX12_next_20 rfl ?_
    refine r_iload_n (x := p0) dX12_next_21 rfl ?_
    refine r_ishl dX12_next_22 ?_
    refine r_iconst (v := 0) dX12_next_23 rfl ?_
    obtain ⟨x9, S10, h11, h⟩ := bI_e h
    refine r_cVI (y := mX12_allTip) (As := [.int (1 <<< (p0 &&& 31)), .int 0]) (rest := []) dX12_next_24 qX12_387 kX12_allTip rfl ob80 vc12 rfl (okX12_allTip N (1 <<< (p0 &&& 31)) 0 S7 x9 S10 h11) (by decide) (Nat.zero_le _) rfl (Nat.le_of_ble_eq_true rfl) ?_
    cases h
    exact r_ireturn dX12_next_27 rfl (Nat.zero_le _) ⟨rfl, rfl⟩
  · rw [if_pos c5] at h
    refine r_iconst (v := 0) dX12_next_13 rfl ?_
    cases h
    exact r_ireturn dX12_next_14 rfl (Nat.zero_le _) ⟨rfl, rfl⟩
def fX12_together (N : Nat) (p0 : Int32) (S : PS) : Option (Int32 × PS) :=
  lt ((u2 S.1 80 0 0, S.2) : PS) fun S1 =>
  bI (fX12_isSome N p0 S1) fun x2 S3 =>
  (if x2 = 0 then
    some (0, S3)
  else
    bV (fX12_tries N  S3) fun S7 =>
    bI (fX12_allTip N p0 0 S7) fun x9 S10 =>
    some (x9, S10))
set_option maxHeartbeats 4000000 in
set_option maxRecDepth 100000 in
theorem okX12_together (N : Nat) (p0 : Int32) (S : PS) (r : Int32) (T : PS) (h : fX12_together N p0 S = some (r, T)) : CT mX12_together 6 0 [.ref 80, .int p0] S (qI r T) := by
  refine ct_of [some (.ref 80), some (.int p0)] rfl (fun _ => rfl) (fun _ => Nat.le_of_ble_eq_true rfl) ?_
  unfold fX12_together at h
  refine r_aload_n (x := 80) dX12_together_0 rfl ?_
  refine r_iconst (v := 0) dX12_together_1 rfl ?_
  refine r_putI dX12_together_2 lX12_114 ck80 nC80 ?_
  refine r_topS (fun S1 hS1 => ?_)
  replace h := lt_e hS1 h
  refine r_aload_n (x := 80) dX12_together_5 rfl ?_
  refine r_iload_n (x := p0) dX12_together_6 rfl ?_
  obtain ⟨x2, S3, h4, h⟩ := bI_e h
  refine r_cVI (y := mX12_isSome) (As := [.int p0]) (rest := []) dX12_together_7 qX12_390 kX12_isSome rfl ob80 vc12 rfl (okX12_isSome N p0 S1 x2 S3 h4) (by decide) (Nat.zero_le _) rfl (Nat.le_of_ble_eq_true rfl) ?_
  refine r_if_ne (tgt := 15) dX12_together_10 (by decide) (fun c5 => ?_) (fun c5 => ?_)
  · rw [if_neg c5] at h
    refine r_aload_n (x := 80) dX12_together_15 rfl ?_
    obtain ⟨S7, h8, h⟩ := bV_e h
    refine r_cVV (y := mX12_tries) (As := []) (rest := []) dX12_together_16 qX12_381 kX12_tries rfl ob80 vc12 rfl (okX12_tries N  S3 S7 h8) (by decide) (Nat.zero_le _) rfl (Nat.le_of_ble_eq_true rfl) ?_
    refine r_aload_n (x := 80) dX12_together_19 rfl ?_
    refine r_iload_n (x := p0) dX12_together_20 rfl ?_
    refine r_iconst (v := 0) dX12_together_21 rfl ?_
    obtain ⟨x9, S10, h11, h⟩ := bI_e h
    refine r_cVI (y := mX12_allTip) (As := [.int p0, .int 0]) (rest := []) dX12_together_22 qX12_387 kX12_allTip rfl ob80 vc12 rfl (okX12_allTip N p0 0 S7 x9 S10 h11) (by decide) (Nat.zero_le _) rfl (Nat.le_of_ble_eq_true rfl) ?_
    cases h
    exact r_ireturn dX12_together_25 rfl (Nat.zero_le _) ⟨rfl, rfl⟩
  · rw [if_pos c5] at h
    refine r_iconst (v := 0) dX12_together_13 rfl ?_
    cases h
    exact r_ireturn dX12_together_14 rfl (Nat.zero_le _) ⟨rfl, rfl⟩
def fX12_pause (N : Nat) (p0 : Int32) (S : PS) : Option (Int32 × PS) :=
  lt ((u2 S.1 80 0 0, S.2) : PS) fun S1 =>
  bI (fX12_isCup N p0 S1) fun x2 S3 =>
  (if x2 = 0 then
    some (0, S3)
  else
    bV (fX12_tries N  S3) fun S7 =>
    bI (fX12_allTip N (1 <<< (p0 &&& 31)) 0 S7) fun x9 S10 =>
    (if x9 = (-1) then
      lt ((if ((-1) : Int32) = (-1) then (-1) else ((-1) - x9)) : Int32) fun x19 =>
      some (x19, S10)
    else
      bI (fX12_allTip N (1 <<< (p0 &&& 31)) x9 S10) fun x13 S14 =>
      lt ((if x13 = (-1) then (-1) else (x13 - x9)) : Int32) fun x17 =>
      some (x17, S14)))
set_option maxHeartbeats 4000000 in
set_option maxRecDepth 100000 in
theorem okX12_pause (N : Nat) (p0 : Int32) (S : PS) (r : Int32) (T : PS) (h : fX12_pause N p0 S = some (r, T)) : CT mX12_pause 6 0 [.ref 80, .int p0] S (qI r T) := by
  refine ct_of [some (.ref 80), some (.int p0), none, none] rfl (fun _ => rfl) (fun _ => Nat.le_of_ble_eq_true rfl) ?_
  unfold fX12_pause at h
  refine r_aload_n (x := 80) dX12_pause_0 rfl ?_
  refine r_iconst (v := 0) dX12_pause_1 rfl ?_
  refine r_putI dX12_pause_2 lX12_114 ck80 nC80 ?_
  refine r_topS (fun S1 hS1 => ?_)
  replace h := lt_e hS1 h
  refine r_aload_n (x := 80) dX12_pause_5 rfl ?_
  refine r_iload_n (x := p0) dX12_pause_6 rfl ?_
  obtain ⟨x2, S3, h4, h⟩ := bI_e h
  refine r_cVI (y := mX12_isCup) (As := [.int p0]) (rest := []) dX12_pause_7 qX12_351 kX12_isCup rfl ob80 vc12 rfl (okX12_isCup N p0 S1 x2 S3 h4) (by decide) (Nat.zero_le _) rfl (Nat.le_of_ble_eq_true rfl) ?_
  refine r_if_ne (tgt := 15) dX12_pause_10 (by decide) (fun c5 => ?_) (fun c5 => ?_)
  · rw [if_neg c5] at h
    refine r_aload_n (x := 80) dX12_pause_15 rfl ?_
    obtain ⟨S7, h8, h⟩ := bV_e h
    refine r_cVV (y := mX12_tries) (As := []) (rest := []) dX12_pause_16 qX12_381 kX12_tries rfl ob80 vc12 rfl (okX12_tries N  S3 S7 h8) (by decide) (Nat.zero_le _) rfl (Nat.le_of_ble_eq_true rfl) ?_
    refine r_aload_n (x := 80) dX12_pause_19 rfl ?_
    refine r_iconst (v := 1) dX12_pause_20 rfl ?_
    refine r_iload_n (x := p0) dX12_pause_21 rfl ?_
    refine r_ishl dX12_pause_22 ?_
    refine r_iconst (v := 0) dX12_pause_23 rfl ?_
    obtain ⟨x9, S10, h11, h⟩ := bI_e h
    refine r_cVI (y := mX12_allTip) (As := [.int (1 <<< (p0 &&& 31)), .int 0]) (rest := []) dX12_pause_24 qX12_387 kX12_allTip rfl ob80 vc12 rfl (okX12_allTip N (1 <<< (p0 &&& 31)) 0 S7 x9 S10 h11) (by decide) (Nat.zero_le _) rfl (Nat.le_of_ble_eq_true rfl) ?_
    refine r_istore_n (L' := [some (.ref 80), some (.int p0), some (.int x9), none]) dX12_pause_27 (Nat.le_of_ble_eq_true rfl) rfl rfl ?_
    refine r_iload_n (x := x9) dX12_pause_28 rfl ?_
    refine r_iconst (v := (-1)) dX12_pause_29 rfl ?_
    refine r_icmp_ne (tgt := 37) dX12_pause_30 (by decide) (fun c12 => ?_) (fun c12 => ?_)
    · rw [if_neg c12] at h
      refine r_aload_n (x := 80) dX12_pause_37 rfl ?_
      refine r_iconst (v := 1) dX12_pause_38 rfl ?_
      refine r_iload_n (x := p0) dX12_pause_39 rfl ?_
      refine r_ishl dX12_pause_40 ?_
      refine r_iload_n (x := x9) dX12_pause_41 rfl ?_
      obtain ⟨x13, S14, h15, h⟩ := bI_e h
      refine r_cVI (y := mX12_allTip) (As := [.int (1 <<< (p0 &&& 31)), .int x9]) (rest := []) dX12_pause_42 qX12_387 kX12_allTip rfl ob80 vc12 rfl (okX12_allTip N (1 <<< (p0 &&& 31)) x9 S10 x13 S14 h15) (by decide) (Nat.zero_le _) rfl (Nat.le_of_ble_eq_true rfl) ?_
      refine r_istore_n (L' := [some (.ref 80), some (.int p0), some (.int x9), some (.int x13)]) dX12_pause_45 (Nat.le_of_ble_eq_true rfl) rfl rfl ?_
      refine r_iload_n (x := x13) dX12_pause_46 rfl ?_
      refine r_iconst (v := (-1)) dX12_pause_47 rfl ?_
      obtain ⟨x17, hx17⟩ : ∃ y : Int32, y = ((if x13 = (-1) then (-1) else (x13 - x9)) : Int32) := ⟨_, rfl⟩
      replace h := lt_e hx17 h
      have keyx17 : WP [] mX12_pause 6 0 (qI r T) 58 [some (.ref 80), some (.int p0), some (.int x9), some (.int x13)] (.int x17 :: []) S14 0 := by
        cases h
        exact r_ireturn dX12_pause_58 rfl (Nat.zero_le _) ⟨rfl, rfl⟩
      refine r_icmp_ne (tgt := 55) dX12_pause_48 (by decide) (fun c16 => ?_) (fun c16 => ?_)
      · refine r_iload_n (x := x13) dX12_pause_55 rfl ?_
        refine r_iload_n (x := x9) dX12_pause_56 rfl ?_
        refine r_isub dX12_pause_57 ?_
        exact r_tope (by rw [hx17, if_neg c16]) keyx17
      · refine r_iconst (v := (-1)) dX12_pause_51 rfl ?_
        refine r_goto (tgt := 58) dX12_pause_52 (by decide) ?_
        exact r_tope (by rw [hx17, if_pos c16]) keyx17
    · rw [if_pos c12] at h
      refine r_iconst (v := (-1)) dX12_pause_33 rfl ?_
      refine r_goto (tgt := 45) dX12_pause_34 (by decide) ?_
      refine r_istore_n (L' := [some (.ref 80), some (.int p0), some (.int x9), some (.int (-1))]) dX12_pause_45 (Nat.le_of_ble_eq_true rfl) rfl rfl ?_
      refine r_iload_n (x := (-1)) dX12_pause_46 rfl ?_
      refine r_iconst (v := (-1)) dX12_pause_47 rfl ?_
      obtain ⟨x19, hx19⟩ : ∃ y : Int32, y = ((if ((-1) : Int32) = (-1) then (-1) else ((-1) - x9)) : Int32) := ⟨_, rfl⟩
      replace h := lt_e hx19 h
      have keyx19 : WP [] mX12_pause 6 0 (qI r T) 58 [some (.ref 80), some (.int p0), some (.int x9), some (.int (-1))] (.int x19 :: []) S10 0 := by
        cases h
        exact r_ireturn dX12_pause_58 rfl (Nat.zero_le _) ⟨rfl, rfl⟩
      refine r_icmp_ne (tgt := 55) dX12_pause_48 (by decide) (fun c18 => ?_) (fun c18 => ?_)
      · refine r_iload_n (x := (-1)) dX12_pause_55 rfl ?_
        refine r_iload_n (x := x9) dX12_pause_56 rfl ?_
        refine r_isub dX12_pause_57 ?_
        exact r_tope (by rw [hx19, if_neg c18]) keyx19
      · refine r_iconst (v := (-1)) dX12_pause_51 rfl ?_
        refine r_goto (tgt := 58) dX12_pause_52 (by decide) ?_
        exact r_tope (by rw [hx19, if_pos c18]) keyx19
  · rw [if_pos c5] at h
    refine r_iconst (v := 0) dX12_pause_13 rfl ?_
    cases h
    exact r_ireturn dX12_pause_14 rfl (Nat.zero_le _) ⟨rfl, rfl⟩
def fX12_sound_44 (N : Nat) (v1 : Int32) (v2 : Int32) : Nat → Int32 → Int32 → Int32 → Int32 → Int32 → PS → Option (Int32 × Int32 × Int32 × Int32 × Int32 × PS)
  | 0, _, _, _, _, _, _ => none
  | n + 1, v3, v4, v5, v6, v7, S =>
    (if v1 < v7 then
      some (v3, v4, v5, v6, v7, S)
    else
      bV (fX12_hourGoes N 64 S) fun S15 =>
      lt ((if (S15.1 80 38) = 0 then (v3 + 1) else 0) : Int32) fun x18 =>
      bI (fX12_greater N v4 x18 S15) fun x19 S20 =>
      bI (fX12_bits N (S20.1 80 38) S20) fun x22 S23 =>
      (if v6 < x22 then
        bI (fX12_bits N (S23.1 80 38) S23) fun x26 S27 =>
        lt (v7 + 1 : Int32) fun x29 =>
        fX12_sound_44 N v1 v2 n x18 x19 v7 x26 x29 S27
      else
        lt (v7 + 1 : Int32) fun x30 =>
        fX12_sound_44 N v1 v2 n x18 x19 v5 v6 x30 S23))
set_option maxHeartbeats 4000000 in
set_option maxRecDepth 100000 in
theorem okX12_sound_44 (N : Nat) (v1 : Int32) (v2 : Int32) (Q : OQ) (u : Nat) (hu : u ≤ 0) : ∀ (n : Nat) (v3 : Int32) (v4 : Int32) (v5 : Int32) (v6 : Int32) (v7 : Int32) (S : PS) (y3 : Int32) (y4 : Int32) (y5 : Int32) (y6 : Int32) (y7 : Int32) (T : PS), fX12_sound_44 N v1 v2 n v3 v4 v5 v6 v7 S = some (y3, y4, y5, y6, y7, T) → WP [] mX12_sound 5 0 Q 113 [some (.ref 80), some (.int v1), some (.int v2), some (.int y3), some (.int y4), some (.int y5), some (.int y6), some (.int y7)] [] T u → WP [] mX12_sound 5 0 Q 44 [some (.ref 80), some (.int v1), some (.int v2), some (.int v3), some (.int v4), some (.int v5), some (.int v6), some (.int v7)] [] S u := by
  intro n
  induction n with
  | zero => intro v3 v4 v5 v6 v7 S y3 y4 y5 y6 y7 T h; rw [fX12_sound_44] at h; cases h
  | succ n ih =>
    intro v3 v4 v5 v6 v7 S y3 y4 y5 y6 y7 T h k0
    rw [fX12_sound_44] at h
    refine r_iload (x := v7) dX12_sound_44 rfl ?_
    refine r_iload_n (x := v1) dX12_sound_46 rfl ?_
    refine r_icmp_gt (tgt := 113) dX12_sound_47 (by decide) (fun c13 => ?_) (fun c13 => ?_)
    · rw [if_pos c13] at h
      cases h
      exact k0
    · rw [if_neg c13] at h
      refine r_aload_n (x := 80) dX12_sound_50 rfl ?_
      refine r_bipush (v := 64) dX12_sound_51 rfl ?_
      obtain ⟨S15, h16, h⟩ := bV_e h
      refine r_cVV (y := mX12_hourGoes) (As := [.int 64]) (rest := []) dX12_sound_53 qX12_323 kX12_hourGoes rfl ob80 vc12 rfl (okX12_hourGoes N 64 S S15 h16) (by decide) hu rfl (Nat.le_of_ble_eq_true rfl) ?_
      refine r_aload_n (x := 80) dX12_sound_56 rfl ?_
      refine r_getfield (o := 80) (v := .int (S15.1 80 38)) dX12_sound_57 lX12_300 ck80 nC80 rfl ?_
      obtain ⟨x18, hx18⟩ : ∃ y : Int32, y = ((if (S15.1 80 38) = 0 then (v3 + 1) else 0) : Int32) := ⟨_, rfl⟩
      replace h := lt_e hx18 h
      have keyx18 : WP [] mX12_sound 5 0 Q 70 [some (.ref 80), some (.int v1), some (.int v2), some (.int v3), some (.int v4), some (.int v5), some (.int v6), some (.int v7)] (.int x18 :: []) S15 u := by
        refine r_istore_n (L' := [some (.ref 80), some (.int v1), some (.int v2), some (.int x18), some (.int v4), some (.int v5), some (.int v6), some (.int v7)]) dX12_sound_70 (Nat.le_of_ble_eq_true rfl) rfl rfl ?_
        refine r_iload (x := v4) dX12_sound_71 rfl ?_
        refine r_iload_n (x := x18) dX12_sound_73 rfl ?_
        obtain ⟨x19, S20, h21, h⟩ := bI_e h
        refine r_cSI (y := mX12_greater) (As := [.int v4, .int x18]) (rest := []) dX12_sound_74 qX12_348 kX12_greater rfl (okX12_greater N v4 x18 S15 x19 S20 h21) (by decide) hu rfl (Nat.le_of_ble_eq_true rfl) ?_
        refine r_istore (L' := [some (.ref 80), some (.int v1), some (.int v2), some (.int x18), some (.int x19), some (.int v5), some (.int v6), some (.int v7)]) dX12_sound_77 (Nat.le_of_ble_eq_true rfl) rfl rfl ?_
        refine r_aload_n (x := 80) dX12_sound_79 rfl ?_
        refine r_getfield (o := 80) (v := .int (S20.1 80 38)) dX12_sound_80 lX12_300 ck80 nC80 rfl ?_
        obtain ⟨x22, S23, h24, h⟩ := bI_e h
        refine r_cSI (y := mX12_bits) (As := [.int (S20.1 80 38)]) (rest := []) dX12_sound_83 qX12_393 kX12_bits rfl (okX12_bits N (S20.1 80 38) S20 x22 S23 h24) (by decide) hu rfl (Nat.le_of_ble_eq_true rfl) ?_
        refine r_iload (x := v6) dX12_sound_86 rfl ?_
        refine r_icmp_gt (tgt := 94) dX12_sound_88 (by decide) (fun c25 => ?_) (fun c25 => ?_)
        · rw [if_pos c25] at h
          refine r_iload (x := v7) dX12_sound_94 rfl ?_
          refine r_istore (L' := [some (.ref 80), some (.int v1), some (.int v2), some (.int x18), some (.int x19), some (.int v7), some (.int v6), some (.int v7)]) dX12_sound_96 (Nat.le_of_ble_eq_true rfl) rfl rfl ?_
          refine r_aload_n (x := 80) dX12_sound_98 rfl ?_
          refine r_getfield (o := 80) (v := .int (S23.1 80 38)) dX12_sound_99 lX12_300 ck80 nC80 rfl ?_
          obtain ⟨x26, S27, h28, h⟩ := bI_e h
          refine r_cSI (y := mX12_bits) (As := [.int (S23.1 80 38)]) (rest := []) dX12_sound_102 qX12_393 kX12_bits rfl (okX12_bits N (S23.1 80 38) S23 x26 S27 h28) (by decide) hu rfl (Nat.le_of_ble_eq_true rfl) ?_
          refine r_istore (L' := [some (.ref 80), some (.int v1), some (.int v2), some (.int x18), some (.int x19), some (.int v7), some (.int x26), some (.int v7)]) dX12_sound_105 (Nat.le_of_ble_eq_true rfl) rfl rfl ?_
          obtain ⟨x29, hx29⟩ : ∃ y : Int32, y = (v7 + 1 : Int32) := ⟨_, rfl⟩
          replace h := lt_e hx29 h
          refine r_iinc (x := v7) (v := x29) (L' := [some (.ref 80), some (.int v1), some (.int v2), some (.int x18), some (.int x19), some (.int v7), some (.int x26), some (.int x29)]) dX12_sound_107 rfl (by rw [hx29]; rfl) (Nat.le_of_ble_eq_true rfl) rfl rfl ?_
          refine r_goto (tgt := 44) dX12_sound_110 (by decide) ?_
          exact ih _ _ _ _ _ _ _ _ _ _ _ _ h k0
        · rw [if_neg c25] at h
          refine r_goto (tgt := 107) dX12_sound_91 (by decide) ?_
          obtain ⟨x30, hx30⟩ : ∃ y : Int32, y = (v7 + 1 : Int32) := ⟨_, rfl⟩
          replace h := lt_e hx30 h
          refine r_iinc (x := v7) (v := x30) (L' := [some (.ref 80), some (.int v1), some (.int v2), some (.int x18), some (.int x19), some (.int v5), some (.int v6), some (.int x30)]) dX12_sound_107 rfl (by rw [hx30]; rfl) (Nat.le_of_ble_eq_true rfl) rfl rfl ?_
          refine r_goto (tgt := 44) dX12_sound_110 (by decide) ?_
          exact ih _ _ _ _ _ _ _ _ _ _ _ _ h k0
      refine r_if_ne (tgt := 69) dX12_sound_60 (by decide) (fun c17 => ?_) (fun c17 => ?_)
      · refine r_iconst (v := 0) dX12_sound_69 rfl ?_
        exact r_tope (by rw [hx18, if_neg c17]) keyx18
      · refine r_iload_n (x := v3) dX12_sound_63 rfl ?_
        refine r_iconst (v := 1) dX12_sound_64 rfl ?_
        refine r_iadd dX12_sound_65 ?_
        refine r_goto (tgt := 70) dX12_sound_66 (by decide) ?_
        exact r_tope (by rw [hx18, if_pos c17]) keyx18
def fX12_sound (N : Nat) (p0 : Int32) (p1 : Int32) (S : PS) : Option (Int32 × PS) :=
  lt ((u2 S.1 80 0 0, S.2) : PS) fun S1 =>
  bI (fX12_isWhat N p1 1 S1) fun x2 S3 =>
  (if x2 = 0 then
    some (0, S3)
  else
    bI (fX12_isSoon N p0 1 2 S3) fun x6 S7 =>
    (if x6 = 0 then
      some (0, S7)
    else
      bV (fX12_tries N  S7) fun S11 =>
      bT (fX12_sound_44 N p0 p1 N 0 0 (-1) (-1) 1 S11) fun q31 =>
      lt (q31.1 : Int32) fun x32 =>
      lt (q31.2.1 : Int32) fun x33 =>
      lt (q31.2.2.1 : Int32) fun x34 =>
      lt (q31.2.2.2.1 : Int32) fun x35 =>
      lt (q31.2.2.2.2.1 : Int32) fun x36 =>
      lt (q31.2.2.2.2.2 : PS) fun S37 =>
      lt ((if p1 = 0 then x33 else x34) : Int32) fun x41 =>
      some (x41, S37)))
set_option maxHeartbeats 4000000 in
set_option maxRecDepth 100000 in
theorem okX12_sound (N : Nat) (p0 : Int32) (p1 : Int32) (S : PS) (r : Int32) (T : PS) (h : fX12_sound N p0 p1 S = some (r, T)) : CT mX12_sound 5 0 [.ref 80, .int p0, .int p1] S (qI r T) := by
  refine ct_of [some (.ref 80), some (.int p0), some (.int p1), none, none, none, none, none] rfl (fun _ => rfl) (fun _ => Nat.le_of_ble_eq_true rfl) ?_
  unfold fX12_sound at h
  refine r_aload_n (x := 80) dX12_sound_0 rfl ?_
  refine r_iconst (v := 0) dX12_sound_1 rfl ?_
  refine r_putI dX12_sound_2 lX12_114 ck80 nC80 ?_
  refine r_topS (fun S1 hS1 => ?_)
  replace h := lt_e hS1 h
  refine r_aload_n (x := 80) dX12_sound_5 rfl ?_
  refine r_iload_n (x := p1) dX12_sound_6 rfl ?_
  refine r_iconst (v := 1) dX12_sound_7 rfl ?_
  obtain ⟨x2, S3, h4, h⟩ := bI_e h
  refine r_cVI (y := mX12_isWhat) (As := [.int p1, .int 1]) (rest := []) dX12_sound_8 qX12_354 kX12_isWhat rfl ob80 vc12 rfl (okX12_isWhat N p1 1 S1 x2 S3 h4) (by decide) (Nat.zero_le _) rfl (Nat.le_of_ble_eq_true rfl) ?_
  refine r_if_eq (tgt := 24) dX12_sound_11 (by decide) (fun c5 => ?_) (fun c5 => ?_)
  · rw [if_pos c5] at h
    refine r_iconst (v := 0) dX12_sound_24 rfl ?_
    cases h
    exact r_ireturn dX12_sound_25 rfl (Nat.zero_le _) ⟨rfl, rfl⟩
  · rw [if_neg c5] at h
    refine r_aload_n (x := 80) dX12_sound_14 rfl ?_
    refine r_iload_n (x := p0) dX12_sound_15 rfl ?_
    refine r_iconst (v := 1) dX12_sound_16 rfl ?_
    refine r_iconst (v := 2) dX12_sound_17 rfl ?_
    obtain ⟨x6, S7, h8, h⟩ := bI_e h
    refine r_cVI (y := mX12_isSoon) (As := [.int p0, .int 1, .int 2]) (rest := []) dX12_sound_18 qX12_378 kX12_isSoon rfl ob80 vc12 rfl (okX12_isSoon N p0 1 2 S3 x6 S7 h8) (by decide) (Nat.zero_le _) rfl (Nat.le_of_ble_eq_true rfl) ?_
    refine r_if_ne (tgt := 26) dX12_sound_21 (by decide) (fun c9 => ?_) (fun c9 => ?_)
    · rw [if_neg c9] at h
      refine r_iconst (v := 0) dX12_sound_26 rfl ?_
      refine r_istore_n (L' := [some (.ref 80), some (.int p0), some (.int p1), some (.int 0), none, none, none, none]) dX12_sound_27 (Nat.le_of_ble_eq_true rfl) rfl rfl ?_
      refine r_iconst (v := 0) dX12_sound_28 rfl ?_
      refine r_istore (L' := [some (.ref 80), some (.int p0), some (.int p1), some (.int 0), some (.int 0), none, none, none]) dX12_sound_29 (Nat.le_of_ble_eq_true rfl) rfl rfl ?_
      refine r_iconst (v := (-1)) dX12_sound_31 rfl ?_
      refine r_istore (L' := [some (.ref 80), some (.int p0), some (.int p1), some (.int 0), some (.int 0), some (.int (-1)), none, none]) dX12_sound_32 (Nat.le_of_ble_eq_true rfl) rfl rfl ?_
      refine r_iconst (v := (-1)) dX12_sound_34 rfl ?_
      refine r_istore (L' := [some (.ref 80), some (.int p0), some (.int p1), some (.int 0), some (.int 0), some (.int (-1)), some (.int (-1)), none]) dX12_sound_35 (Nat.le_of_ble_eq_true rfl) rfl rfl ?_
      refine r_aload_n (x := 80) dX12_sound_37 rfl ?_
      obtain ⟨S11, h12, h⟩ := bV_e h
      refine r_cVV (y := mX12_tries) (As := []) (rest := []) dX12_sound_38 qX12_381 kX12_tries rfl ob80 vc12 rfl (okX12_tries N  S7 S11 h12) (by decide) (Nat.zero_le _) rfl (Nat.le_of_ble_eq_true rfl) ?_
      refine r_iconst (v := 1) dX12_sound_41 rfl ?_
      refine r_istore (L' := [some (.ref 80), some (.int p0), some (.int p1), some (.int 0), some (.int 0), some (.int (-1)), some (.int (-1)), some (.int 1)]) dX12_sound_42 (Nat.le_of_ble_eq_true rfl) rfl rfl ?_
      obtain ⟨⟨x32, x33, x34, x35, x36, S37⟩, h39, h⟩ := bT_e h
      dsimp only at h
      replace h := pl_s (pl_s (pl_s (pl_s (pl_s (pl_s (h))))))
      refine okX12_sound_44 N p0 p1 (qI r T) 0 (Nat.zero_le _) _ _ _ _ _ _ _ _ _ _ _ _ _ h39 ?_
      refine r_iload_n (x := p1) dX12_sound_113 rfl ?_
      obtain ⟨x41, hx41⟩ : ∃ y : Int32, y = ((if p1 = 0 then x33 else x34) : Int32) := ⟨_, rfl⟩
      replace h := lt_e hx41 h
      have keyx41 : WP [] mX12_sound 5 0 (qI r T) 124 [some (.ref 80), some (.int p0), some (.int p1), some (.int x32), some (.int x33), some (.int x34), some (.int x35), some (.int x36)] (.int x41 :: []) S37 0 := by
        cases h
        exact r_ireturn dX12_sound_124 rfl (Nat.zero_le _) ⟨rfl, rfl⟩
      refine r_if_ne (tgt := 122) dX12_sound_114 (by decide) (fun c40 => ?_) (fun c40 => ?_)
      · refine r_iload (x := x34) dX12_sound_122 rfl ?_
        exact r_tope (by rw [hx41, if_neg c40]) keyx41
      · refine r_iload (x := x33) dX12_sound_117 rfl ?_
        refine r_goto (tgt := 124) dX12_sound_119 (by decide) ?_
        exact r_tope (by rw [hx41, if_pos c40]) keyx41
    · rw [if_pos c9] at h
      refine r_iconst (v := 0) dX12_sound_24 rfl ?_
      cases h
      exact r_ireturn dX12_sound_25 rfl (Nat.zero_le _) ⟨rfl, rfl⟩
def fX12_chorus_34 (N : Nat) (v1 : Int32) (v2 : Int32) : Nat → Int32 → Int32 → PS → Option (Int32 × Int32 × PS)
  | 0, _, _, _ => none
  | n + 1, v3, v4, S =>
    (if v2 ≤ v4 then
      some (v3, v4, S)
    else
      bV (fX12_hourGoes N 64 S) fun S15 =>
      lt ((if ((S15.1 80 38) &&& v1) = v1 then 1 else 0) : Int32) fun x18 =>
      lt ((v3 + x18) : Int32) fun x19 =>
      lt (v4 + 1 : Int32) fun x20 =>
      fX12_chorus_34 N v1 v2 n x19 x20 S15)
set_option maxHeartbeats 4000000 in
set_option maxRecDepth 100000 in
theorem okX12_chorus_34 (N : Nat) (v1 : Int32) (v2 : Int32) (Q : OQ) (u : Nat) (hu : u ≤ 0) : ∀ (n : Nat) (v3 : Int32) (v4 : Int32) (S : PS) (y3 : Int32) (y4 : Int32) (T : PS), fX12_chorus_34 N v1 v2 n v3 v4 S = some (y3, y4, T) → WP [] mX12_chorus 5 0 Q 70 [some (.ref 80), some (.int v1), some (.int v2), some (.int y3), some (.int y4)] [] T u → WP [] mX12_chorus 5 0 Q 34 [some (.ref 80), some (.int v1), some (.int v2), some (.int v3), some (.int v4)] [] S u := by
  intro n
  induction n with
  | zero => intro v3 v4 S y3 y4 T h; rw [fX12_chorus_34] at h; cases h
  | succ n ih =>
    intro v3 v4 S y3 y4 T h k0
    rw [fX12_chorus_34] at h
    refine r_iload (x := v4) dX12_chorus_34 rfl ?_
    refine r_iload_n (x := v2) dX12_chorus_36 rfl ?_
    refine r_icmp_ge (tgt := 70) dX12_chorus_37 (by decide) (fun c13 => ?_) (fun c13 => ?_)
    · rw [if_pos c13] at h
      cases h
      exact k0
    · rw [if_neg c13] at h
      refine r_aload_n (x := 80) dX12_chorus_40 rfl ?_
      refine r_bipush (v := 64) dX12_chorus_41 rfl ?_
      obtain ⟨S15, h16, h⟩ := bV_e h
      refine r_cVV (y := mX12_hourGoes) (As := [.int 64]) (rest := []) dX12_chorus_43 qX12_323 kX12_hourGoes rfl ob80 vc12 rfl (okX12_hourGoes N 64 S S15 h16) (by decide) hu rfl (Nat.le_of_ble_eq_true rfl) ?_
      refine r_iload_n (x := v3) dX12_chorus_46 rfl ?_
      refine r_aload_n (x := 80) dX12_chorus_47 rfl ?_
      refine r_getfield (o := 80) (v := .int (S15.1 80 38)) dX12_chorus_48 lX12_300 ck80 nC80 rfl ?_
      refine r_iload_n (x := v1) dX12_chorus_51 rfl ?_
      refine r_iand dX12_chorus_52 ?_
      refine r_iload_n (x := v1) dX12_chorus_53 rfl ?_
      obtain ⟨x18, hx18⟩ : ∃ y : Int32, y = ((if ((S15.1 80 38) &&& v1) = v1 then 1 else 0) : Int32) := ⟨_, rfl⟩
      replace h := lt_e hx18 h
      have keyx18 : WP [] mX12_chorus 5 0 Q 62 [some (.ref 80), some (.int v1), some (.int v2), some (.int v3), some (.int v4)] (.int x18 :: [.int v3]) S15 u := by
        refine r_iadd dX12_chorus_62 ?_
        refine r_topi (fun x19 hx19 => ?_)
        replace h := lt_e hx19 h
        refine r_istore_n (L' := [some (.ref 80), some (.int v1), some (.int v2), some (.int x19), some (.int v4)]) dX12_chorus_63 (Nat.le_of_ble_eq_true rfl) rfl rfl ?_
        obtain ⟨x20, hx20⟩ : ∃ y : Int32, y = (v4 + 1 : Int32) := ⟨_, rfl⟩
        replace h := lt_e hx20 h
        refine r_iinc (x := v4) (v := x20) (L' := [some (.ref 80), some (.int v1), some (.int v2), some (.int x19), some (.int x20)]) dX12_chorus_64 rfl (by rw [hx20]; rfl) (Nat.le_of_ble_eq_true rfl) rfl rfl ?_
        refine r_goto (tgt := 34) dX12_chorus_67 (by decide) ?_
        exact ih _ _ _ _ _ _ h k0
      refine r_icmp_ne (tgt := 61) dX12_chorus_54 (by decide) (fun c17 => ?_) (fun c17 => ?_)
      · refine r_iconst (v := 0) dX12_chorus_61 rfl ?_
        exact r_tope (by rw [hx18, if_neg c17]) keyx18
      · refine r_iconst (v := 1) dX12_chorus_57 rfl ?_
        refine r_goto (tgt := 62) dX12_chorus_58 (by decide) ?_
        exact r_tope (by rw [hx18, if_pos c17]) keyx18
def fX12_chorus (N : Nat) (p0 : Int32) (p1 : Int32) (S : PS) : Option (Int32 × PS) :=
  lt ((u2 S.1 80 0 0, S.2) : PS) fun S1 =>
  bI (fX12_isSome N p0 S1) fun x2 S3 =>
  (if x2 = 0 then
    some (0, S3)
  else
    bI (fX12_isSoon N p1 1 1 S3) fun x6 S7 =>
    (if x6 = 0 then
      some (0, S7)
    else
      bV (fX12_tries N  S7) fun S11 =>
      bT (fX12_chorus_34 N p0 p1 N 0 0 S11) fun q21 =>
      lt (q21.1 : Int32) fun x22 =>
      lt (q21.2.1 : Int32) fun x23 =>
      lt (q21.2.2 : PS) fun S24 =>
      some (x22, S24)))
set_option maxHeartbeats 4000000 in
set_option maxRecDepth 100000 in
theorem okX12_chorus (N : Nat) (p0 : Int32) (p1 : Int32) (S : PS) (r : Int32) (T : PS) (h : fX12_chorus N p0 p1 S = some (r, T)) : CT mX12_chorus 5 0 [.ref 80, .int p0, .int p1] S (qI r T) := by
  refine ct_of [some (.ref 80), some (.int p0), some (.int p1), none, none] rfl (fun _ => rfl) (fun _ => Nat.le_of_ble_eq_true rfl) ?_
  unfold fX12_chorus at h
  refine r_aload_n (x := 80) dX12_chorus_0 rfl ?_
  refine r_iconst (v := 0) dX12_chorus_1 rfl ?_
  refine r_putI dX12_chorus_2 lX12_114 ck80 nC80 ?_
  refine r_topS (fun S1 hS1 => ?_)
  replace h := lt_e hS1 h
  refine r_aload_n (x := 80) dX12_chorus_5 rfl ?_
  refine r_iload_n (x := p0) dX12_chorus_6 rfl ?_
  obtain ⟨x2, S3, h4, h⟩ := bI_e h
  refine r_cVI (y := mX12_isSome) (As := [.int p0]) (rest := []) dX12_chorus_7 qX12_390 kX12_isSome rfl ob80 vc12 rfl (okX12_isSome N p0 S1 x2 S3 h4) (by decide) (Nat.zero_le _) rfl (Nat.le_of_ble_eq_true rfl) ?_
  refine r_if_eq (tgt := 23) dX12_chorus_10 (by decide) (fun c5 => ?_) (fun c5 => ?_)
  · rw [if_pos c5] at h
    refine r_iconst (v := 0) dX12_chorus_23 rfl ?_
    cases h
    exact r_ireturn dX12_chorus_24 rfl (Nat.zero_le _) ⟨rfl, rfl⟩
  · rw [if_neg c5] at h
    refine r_aload_n (x := 80) dX12_chorus_13 rfl ?_
    refine r_iload_n (x := p1) dX12_chorus_14 rfl ?_
    refine r_iconst (v := 1) dX12_chorus_15 rfl ?_
    refine r_iconst (v := 1) dX12_chorus_16 rfl ?_
    obtain ⟨x6, S7, h8, h⟩ := bI_e h
    refine r_cVI (y := mX12_isSoon) (As := [.int p1, .int 1, .int 1]) (rest := []) dX12_chorus_17 qX12_378 kX12_isSoon rfl ob80 vc12 rfl (okX12_isSoon N p1 1 1 S3 x6 S7 h8) (by decide) (Nat.zero_le _) rfl (Nat.le_of_ble_eq_true rfl) ?_
    refine r_if_ne (tgt := 25) dX12_chorus_20 (by decide) (fun c9 => ?_) (fun c9 => ?_)
    · rw [if_neg c9] at h
      refine r_iconst (v := 0) dX12_chorus_25 rfl ?_
      refine r_istore_n (L' := [some (.ref 80), some (.int p0), some (.int p1), some (.int 0), none]) dX12_chorus_26 (Nat.le_of_ble_eq_true rfl) rfl rfl ?_
      refine r_aload_n (x := 80) dX12_chorus_27 rfl ?_
      obtain ⟨S11, h12, h⟩ := bV_e h
      refine r_cVV (y := mX12_tries) (As := []) (rest := []) dX12_chorus_28 qX12_381 kX12_tries rfl ob80 vc12 rfl (okX12_tries N  S7 S11 h12) (by decide) (Nat.zero_le _) rfl (Nat.le_of_ble_eq_true rfl) ?_
      refine r_iconst (v := 0) dX12_chorus_31 rfl ?_
      refine r_istore (L' := [some (.ref 80), some (.int p0), some (.int p1), some (.int 0), some (.int 0)]) dX12_chorus_32 (Nat.le_of_ble_eq_true rfl) rfl rfl ?_
      obtain ⟨⟨x22, x23, S24⟩, h26, h⟩ := bT_e h
      dsimp only at h
      replace h := pl_s (pl_s (pl_s (h)))
      refine okX12_chorus_34 N p0 p1 (qI r T) 0 (Nat.zero_le _) _ _ _ _ _ _ _ h26 ?_
      refine r_iload_n (x := x22) dX12_chorus_70 rfl ?_
      cases h
      exact r_ireturn dX12_chorus_71 rfl (Nat.zero_le _) ⟨rfl, rfl⟩
    · rw [if_pos c9] at h
      refine r_iconst (v := 0) dX12_chorus_23 rfl ?_
      cases h
      exact r_ireturn dX12_chorus_24 rfl (Nat.zero_le _) ⟨rfl, rfl⟩
def fX12_never_32 (N : Nat) (v1 : Int32) : Nat → Int32 → Int32 → PS → Option (Int32 × Int32 × PS)
  | 0, _, _, _ => none
  | n + 1, v2, v3, S =>
    (if v1 ≤ v3 then
      some (v2, v3, S)
    else
      bV (fX12_hourGoes N 64 S) fun S12 =>
      lt ((v2 &&& ((S12.1 80 38) ^^^ (-1))) : Int32) fun x14 =>
      lt (v3 + 1 : Int32) fun x15 =>
      fX12_never_32 N v1 n x14 x15 S12)
set_option maxHeartbeats 4000000 in
set_option maxRecDepth 100000 in
theorem okX12_never_32 (N : Nat) (v1 : Int32) (Q : OQ) (u : Nat) (hu : u ≤ 0) : ∀ (n : Nat) (v2 : Int32) (v3 : Int32) (S : PS) (y2 : Int32) (y3 : Int32) (T : PS), fX12_never_32 N v1 n v2 v3 S = some (y2, y3, T) → WP [] mX12_never 5 0 Q 58 [some (.ref 80), some (.int v1), some (.int y2), some (.int y3)] [] T u → WP [] mX12_never 5 0 Q 32 [some (.ref 80), some (.int v1), some (.int v2), some (.int v3)] [] S u := by
  intro n
  induction n with
  | zero => intro v2 v3 S y2 y3 T h; rw [fX12_never_32] at h; cases h
  | succ n ih =>
    intro v2 v3 S y2 y3 T h k0
    rw [fX12_never_32] at h
    refine r_iload_n (x := v3) dX12_never_32 rfl ?_
    refine r_iload_n (x := v1) dX12_never_33 rfl ?_
    refine r_icmp_ge (tgt := 58) dX12_never_34 (by decide) (fun c10 => ?_) (fun c10 => ?_)
    · rw [if_pos c10] at h
      cases h
      exact k0
    · rw [if_neg c10] at h
      refine r_aload_n (x := 80) dX12_never_37 rfl ?_
      refine r_bipush (v := 64) dX12_never_38 rfl ?_
      obtain ⟨S12, h13, h⟩ := bV_e h
      refine r_cVV (y := mX12_hourGoes) (As := [.int 64]) (rest := []) dX12_never_40 qX12_323 kX12_hourGoes rfl ob80 vc12 rfl (okX12_hourGoes N 64 S S12 h13) (by decide) hu rfl (Nat.le_of_ble_eq_true rfl) ?_
      refine r_iload_n (x := v2) dX12_never_43 rfl ?_
      refine r_aload_n (x := 80) dX12_never_44 rfl ?_
      refine r_getfield (o := 80) (v := .int (S12.1 80 38)) dX12_never_45 lX12_300 ck80 nC80 rfl ?_
      refine r_iconst (v := (-1)) dX12_never_48 rfl ?_
      refine r_ixor dX12_never_49 ?_
      refine r_iand dX12_never_50 ?_
      refine r_topi (fun x14 hx14 => ?_)
      replace h := lt_e hx14 h
      refine r_istore_n (L' := [some (.ref 80), some (.int v1), some (.int x14), some (.int v3)]) dX12_never_51 (Nat.le_of_ble_eq_true rfl) rfl rfl ?_
      obtain ⟨x15, hx15⟩ : ∃ y : Int32, y = (v3 + 1 : Int32) := ⟨_, rfl⟩
      replace h := lt_e hx15 h
      refine r_iinc (x := v3) (v := x15) (L' := [some (.ref 80), some (.int v1), some (.int x14), some (.int x15)]) dX12_never_52 rfl (by rw [hx15]; rfl) (Nat.le_of_ble_eq_true rfl) rfl rfl ?_
      refine r_goto (tgt := 32) dX12_never_55 (by decide) ?_
      exact ih _ _ _ _ _ _ h k0
def fX12_never (N : Nat) (p0 : Int32) (S : PS) : Option (Int32 × PS) :=
  lt ((u2 S.1 80 0 0, S.2) : PS) fun S1 =>
  bI (fX12_isSoon N p0 1 1 S1) fun x2 S3 =>
  (if x2 = 0 then
    some (0, S3)
  else
    lt (((1 <<< ((S3.1 80 1) &&& 31)) - 1) : Int32) fun x6 =>
    bV (fX12_tries N  S3) fun S8 =>
    bT (fX12_never_32 N p0 N x6 0 S8) fun q16 =>
    lt (q16.1 : Int32) fun x17 =>
    lt (q16.2.1 : Int32) fun x18 =>
    lt (q16.2.2 : PS) fun S19 =>
    some (x17, S19))
set_option maxHeartbeats 4000000 in
set_option maxRecDepth 100000 in
theorem okX12_never (N : Nat) (p0 : Int32) (S : PS) (r : Int32) (T : PS) (h : fX12_never N p0 S = some (r, T)) : CT mX12_never 5 0 [.ref 80, .int p0] S (qI r T) := by
  refine ct_of [some (.ref 80), some (.int p0), none, none] rfl (fun _ => rfl) (fun _ => Nat.le_of_ble_eq_true rfl) ?_
  unfold fX12_never at h
  refine r_aload_n (x := 80) dX12_never_0 rfl ?_
  refine r_iconst (v := 0) dX12_never_1 rfl ?_
  refine r_putI dX12_never_2 lX12_114 ck80 nC80 ?_
  refine r_topS (fun S1 hS1 => ?_)
  replace h := lt_e hS1 h
  refine r_aload_n (x := 80) dX12_never_5 rfl ?_
  refine r_iload_n (x := p0) dX12_never_6 rfl ?_
  refine r_iconst (v := 1) dX12_never_7 rfl ?_
  refine r_iconst (v := 1) dX12_never_8 rfl ?_
  obtain ⟨x2, S3, h4, h⟩ := bI_e h
  refine r_cVI (y := mX12_isSoon) (As := [.int p0, .int 1, .int 1]) (rest := []) dX12_never_9 qX12_378 kX12_isSoon rfl ob80 vc12 rfl (okX12_isSoon N p0 1 1 S1 x2 S3 h4) (by decide) (Nat.zero_le _) rfl (Nat.le_of_ble_eq_true rfl) ?_
  refine r_if_ne (tgt := 17) dX12_never_12 (by decide) (fun c5 => ?_) (fun c5 => ?_)
  · rw [if_neg c5] at h
    refine r_iconst (v := 1) dX12_never_17 rfl ?_
    refine r_aload_n (x := 80) dX12_never_18 rfl ?_
    refine r_getfield (o := 80) (v := .int (S3.1 80 1)) dX12_never_19 lX12_269 ck80 nC80 rfl ?_
    refine r_ishl dX12_never_22 ?_
    refine r_iconst (v := 1) dX12_never_23 rfl ?_
    refine r_isub dX12_never_24 ?_
    refine r_topi (fun x6 hx6 => ?_)
    replace h := lt_e hx6 h
    refine r_istore_n (L' := [some (.ref 80), some (.int p0), some (.int x6), none]) dX12_never_25 (Nat.le_of_ble_eq_true rfl) rfl rfl ?_
    refine r_aload_n (x := 80) dX12_never_26 rfl ?_
    obtain ⟨S8, h9, h⟩ := bV_e h
    refine r_cVV (y := mX12_tries) (As := []) (rest := []) dX12_never_27 qX12_381 kX12_tries rfl ob80 vc12 rfl (okX12_tries N  S3 S8 h9) (by decide) (Nat.zero_le _) rfl (Nat.le_of_ble_eq_true rfl) ?_
    refine r_iconst (v := 0) dX12_never_30 rfl ?_
    refine r_istore_n (L' := [some (.ref 80), some (.int p0), some (.int x6), some (.int 0)]) dX12_never_31 (Nat.le_of_ble_eq_true rfl) rfl rfl ?_
    obtain ⟨⟨x17, x18, S19⟩, h21, h⟩ := bT_e h
    dsimp only at h
    replace h := pl_s (pl_s (pl_s (h)))
    refine okX12_never_32 N p0 (qI r T) 0 (Nat.zero_le _) _ _ _ _ _ _ _ h21 ?_
    refine r_iload_n (x := x17) dX12_never_58 rfl ?_
    cases h
    exact r_ireturn dX12_never_59 rfl (Nat.zero_le _) ⟨rfl, rfl⟩
  · rw [if_pos c5] at h
    refine r_iconst (v := 0) dX12_never_15 rfl ?_
    cases h
    exact r_ireturn dX12_never_16 rfl (Nat.zero_le _) ⟨rfl, rfl⟩
def fX12_swell_42 (N : Nat) (v1 : Int32) (v2 : Int32) : Nat → Int32 → Int32 → PS → Option (Int32 × Int32 × PS)
  | 0, _, _, _ => none
  | n + 1, v3, v4, S =>
    (if v2 ≤ v4 then
      some (v3, v4, S)
    else
      bV (fX12_hourGoes N 64 S) fun S17 =>
      gd (inr (74 + v1) 128) <|
      bI (fX12_greater N v3 (S17.1 91 (ix (74 + v1))) S17) fun x20 S21 =>
      lt (v4 + 1 : Int32) fun x23 =>
      fX12_swell_42 N v1 v2 n x20 x23 S21)
set_option maxHeartbeats 4000000 in
set_option maxRecDepth 100000 in
theorem okX12_swell_42 (N : Nat) (v1 : Int32) (v2 : Int32) (Q : OQ) (u : Nat) (hu : u ≤ 0) : ∀ (n : Nat) (v3 : Int32) (v4 : Int32) (S : PS) (y3 : Int32) (y4 : Int32) (T : PS), fX12_swell_42 N v1 v2 n v3 v4 S = some (y3, y4, T) → WP [] mX12_swell 5 0 Q 74 [some (.ref 80), some (.int v1), some (.int v2), some (.int y3), some (.int y4)] [] T u → WP [] mX12_swell 5 0 Q 42 [some (.ref 80), some (.int v1), some (.int v2), some (.int v3), some (.int v4)] [] S u := by
  intro n
  induction n with
  | zero => intro v3 v4 S y3 y4 T h; rw [fX12_swell_42] at h; cases h
  | succ n ih =>
    intro v3 v4 S y3 y4 T h k0
    rw [fX12_swell_42] at h
    refine r_iload (x := v4) dX12_swell_42 rfl ?_
    refine r_iload_n (x := v2) dX12_swell_44 rfl ?_
    refine r_icmp_ge (tgt := 74) dX12_swell_45 (by decide) (fun c15 => ?_) (fun c15 => ?_)
    · rw [if_pos c15] at h
      cases h
      exact k0
    · rw [if_neg c15] at h
      refine r_aload_n (x := 80) dX12_swell_48 rfl ?_
      refine r_bipush (v := 64) dX12_swell_49 rfl ?_
      obtain ⟨S17, h18, h⟩ := bV_e h
      refine r_cVV (y := mX12_hourGoes) (As := [.int 64]) (rest := []) dX12_swell_51 qX12_323 kX12_hourGoes rfl ob80 vc12 rfl (okX12_hourGoes N 64 S S17 h18) (by decide) hu rfl (Nat.le_of_ble_eq_true rfl) ?_
      refine r_iload_n (x := v3) dX12_swell_54 rfl ?_
      refine r_aload_n (x := 80) dX12_swell_55 rfl ?_
      refine r_getfield (o := 80) (v := .ref 91) dX12_swell_56 lX12_51 ck80 nC80 rfl ?_
      refine r_bipush (v := 74) dX12_swell_59 rfl ?_
      refine r_iload_n (x := v1) dX12_swell_61 rfl ?_
      refine r_iadd dX12_swell_62 ?_
      obtain ⟨g19, h⟩ := gd_e h
      refine r_iaload (a := 91) dX12_swell_63 ck91 nC91 (inr_IX g19) ?_
      obtain ⟨x20, S21, h22, h⟩ := bI_e h
      refine r_cSI (y := mX12_greater) (As := [.int v3, .int (S17.1 91 (ix (74 + v1)))]) (rest := []) dX12_swell_64 qX12_348 kX12_greater rfl (okX12_greater N v3 (S17.1 91 (ix (74 + v1))) S17 x20 S21 h22) (by decide) hu rfl (Nat.le_of_ble_eq_true rfl) ?_
      refine r_istore_n (L' := [some (.ref 80), some (.int v1), some (.int v2), some (.int x20), some (.int v4)]) dX12_swell_67 (Nat.le_of_ble_eq_true rfl) rfl rfl ?_
      obtain ⟨x23, hx23⟩ : ∃ y : Int32, y = (v4 + 1 : Int32) := ⟨_, rfl⟩
      replace h := lt_e hx23 h
      refine r_iinc (x := v4) (v := x23) (L' := [some (.ref 80), some (.int v1), some (.int v2), some (.int x20), some (.int x23)]) dX12_swell_68 rfl (by rw [hx23]; rfl) (Nat.le_of_ble_eq_true rfl) rfl rfl ?_
      refine r_goto (tgt := 42) dX12_swell_71 (by decide) ?_
      exact ih _ _ _ _ _ _ h k0
def fX12_swell (N : Nat) (p0 : Int32) (p1 : Int32) (S : PS) : Option (Int32 × PS) :=
  lt ((u2 S.1 80 0 0, S.2) : PS) fun S1 =>
  bI (fX12_isCup N p0 S1) fun x2 S3 =>
  (if x2 = 0 then
    some (0, S3)
  else
    bI (fX12_isSoon N p1 0 2 S3) fun x6 S7 =>
    (if x6 = 0 then
      some (0, S7)
    else
      gd (inr (10 + p0) 128) <|
      lt ((S7.1 91 (ix (10 + p0))) : Int32) fun x11 =>
      bV (fX12_tries N  S7) fun S13 =>
      bT (fX12_swell_42 N p0 p1 N x11 0 S13) fun q24 =>
      lt (q24.1 : Int32) fun x25 =>
      lt (q24.2.1 : Int32) fun x26 =>
      lt (q24.2.2 : PS) fun S27 =>
      some (x25, S27)))
set_option maxHeartbeats 4000000 in
set_option maxRecDepth 100000 in
theorem okX12_swell (N : Nat) (p0 : Int32) (p1 : Int32) (S : PS) (r : Int32) (T : PS) (h : fX12_swell N p0 p1 S = some (r, T)) : CT mX12_swell 5 0 [.ref 80, .int p0, .int p1] S (qI r T) := by
  refine ct_of [some (.ref 80), some (.int p0), some (.int p1), none, none] rfl (fun _ => rfl) (fun _ => Nat.le_of_ble_eq_true rfl) ?_
  unfold fX12_swell at h
  refine r_aload_n (x := 80) dX12_swell_0 rfl ?_
  refine r_iconst (v := 0) dX12_swell_1 rfl ?_
  refine r_putI dX12_swell_2 lX12_114 ck80 nC80 ?_
  refine r_topS (fun S1 hS1 => ?_)
  replace h := lt_e hS1 h
  refine r_aload_n (x := 80) dX12_swell_5 rfl ?_
  refine r_iload_n (x := p0) dX12_swell_6 rfl ?_
  obtain ⟨x2, S3, h4, h⟩ := bI_e h
  refine r_cVI (y := mX12_isCup) (As := [.int p0]) (rest := []) dX12_swell_7 qX12_351 kX12_isCup rfl ob80 vc12 rfl (okX12_isCup N p0 S1 x2 S3 h4) (by decide) (Nat.zero_le _) rfl (Nat.le_of_ble_eq_true rfl) ?_
  refine r_if_eq (tgt := 23) dX12_swell_10 (by decide) (fun c5 => ?_) (fun c5 => ?_)
  · rw [if_pos c5] at h
    refine r_iconst (v := 0) dX12_swell_23 rfl ?_
    cases h
    exact r_ireturn dX12_swell_24 rfl (Nat.zero_le _) ⟨rfl, rfl⟩
  · rw [if_neg c5] at h
    refine r_aload_n (x := 80) dX12_swell_13 rfl ?_
    refine r_iload_n (x := p1) dX12_swell_14 rfl ?_
    refine r_iconst (v := 0) dX12_swell_15 rfl ?_
    refine r_iconst (v := 2) dX12_swell_16 rfl ?_
    obtain ⟨x6, S7, h8, h⟩ := bI_e h
    refine r_cVI (y := mX12_isSoon) (As := [.int p1, .int 0, .int 2]) (rest := []) dX12_swell_17 qX12_378 kX12_isSoon rfl ob80 vc12 rfl (okX12_isSoon N p1 0 2 S3 x6 S7 h8) (by decide) (Nat.zero_le _) rfl (Nat.le_of_ble_eq_true rfl) ?_
    refine r_if_ne (tgt := 25) dX12_swell_20 (by decide) (fun c9 => ?_) (fun c9 => ?_)
    · rw [if_neg c9] at h
      refine r_aload_n (x := 80) dX12_swell_25 rfl ?_
      refine r_getfield (o := 80) (v := .ref 91) dX12_swell_26 lX12_51 ck80 nC80 rfl ?_
      refine r_bipush (v := 10) dX12_swell_29 rfl ?_
      refine r_iload_n (x := p0) dX12_swell_31 rfl ?_
      refine r_iadd dX12_swell_32 ?_
      obtain ⟨g10, h⟩ := gd_e h
      refine r_iaload (a := 91) dX12_swell_33 ck91 nC91 (inr_IX g10) ?_
      refine r_topi (fun x11 hx11 => ?_)
      replace h := lt_e hx11 h
      refine r_istore_n (L' := [some (.ref 80), some (.int p0), some (.int p1), some (.int x11), none]) dX12_swell_34 (Nat.le_of_ble_eq_true rfl) rfl rfl ?_
      refine r_aload_n (x := 80) dX12_swell_35 rfl ?_
      obtain ⟨S13, h14, h⟩ := bV_e h
      refine r_cVV (y := mX12_tries) (As := []) (rest := []) dX12_swell_36 qX12_381 kX12_tries rfl ob80 vc12 rfl (okX12_tries N  S7 S13 h14) (by decide) (Nat.zero_le _) rfl (Nat.le_of_ble_eq_true rfl) ?_
      refine r_iconst (v := 0) dX12_swell_39 rfl ?_
      refine r_istore (L' := [some (.ref 80), some (.int p0), some (.int p1), some (.int x11), some (.int 0)]) dX12_swell_40 (Nat.le_of_ble_eq_true rfl) rfl rfl ?_
      obtain ⟨⟨x25, x26, S27⟩, h29, h⟩ := bT_e h
      dsimp only at h
      replace h := pl_s (pl_s (pl_s (h)))
      refine okX12_swell_42 N p0 p1 (qI r T) 0 (Nat.zero_le _) _ _ _ _ _ _ _ h29 ?_
      refine r_iload_n (x := x25) dX12_swell_74 rfl ?_
      cases h
      exact r_ireturn dX12_swell_75 rfl (Nat.zero_le _) ⟨rfl, rfl⟩
    · rw [if_pos c9] at h
      refine r_iconst (v := 0) dX12_swell_23 rfl ?_
      cases h
      exact r_ireturn dX12_swell_24 rfl (Nat.zero_le _) ⟨rfl, rfl⟩
def fX12_later_35 (N : Nat) (v1 : Int32) (v2 : Int32) : Nat → Int32 → Int32 → PS → Option (Int32 × Int32 × PS)
  | 0, _, _, _ => none
  | n + 1, v3, v4, S =>
    (if v1 ≤ v4 then
      some (v3, v4, S)
    else
      bV (fX12_hourGoes N 64 S) fun S15 =>
      lt ((v3 + (S15.1 80 39)) : Int32) fun x17 =>
      lt (v4 + 1 : Int32) fun x18 =>
      fX12_later_35 N v1 v2 n x17 x18 S15)
set_option maxHeartbeats 4000000 in
set_option maxRecDepth 100000 in
theorem okX12_later_35 (N : Nat) (v1 : Int32) (v2 : Int32) (Q : OQ) (u : Nat) (hu : u ≤ 0) : ∀ (n : Nat) (v3 : Int32) (v4 : Int32) (S : PS) (y3 : Int32) (y4 : Int32) (T : PS), fX12_later_35 N v1 v2 n v3 v4 S = some (y3, y4, T) → WP [] mX12_later 5 0 Q 60 [some (.ref 80), some (.int v1), some (.int v2), some (.int y3), some (.int y4), none, none] [] T u → WP [] mX12_later 5 0 Q 35 [some (.ref 80), some (.int v1), some (.int v2), some (.int v3), some (.int v4), none, none] [] S u := by
  intro n
  induction n with
  | zero => intro v3 v4 S y3 y4 T h; rw [fX12_later_35] at h; cases h
  | succ n ih =>
    intro v3 v4 S y3 y4 T h k0
    rw [fX12_later_35] at h
    refine r_iload (x := v4) dX12_later_35 rfl ?_
    refine r_iload_n (x := v1) dX12_later_37 rfl ?_
    refine r_icmp_ge (tgt := 60) dX12_later_38 (by decide) (fun c13 => ?_) (fun c13 => ?_)
    · rw [if_pos c13] at h
      cases h
      exact k0
    · rw [if_neg c13] at h
      refine r_aload_n (x := 80) dX12_later_41 rfl ?_
      refine r_bipush (v := 64) dX12_later_42 rfl ?_
      obtain ⟨S15, h16, h⟩ := bV_e h
      refine r_cVV (y := mX12_hourGoes) (As := [.int 64]) (rest := []) dX12_later_44 qX12_323 kX12_hourGoes rfl ob80 vc12 rfl (okX12_hourGoes N 64 S S15 h16) (by decide) hu rfl (Nat.le_of_ble_eq_true rfl) ?_
      refine r_iload_n (x := v3) dX12_later_47 rfl ?_
      refine r_aload_n (x := 80) dX12_later_48 rfl ?_
      refine r_getfield (o := 80) (v := .int (S15.1 80 39)) dX12_later_49 lX12_293 ck80 nC80 rfl ?_
      refine r_iadd dX12_later_52 ?_
      refine r_topi (fun x17 hx17 => ?_)
      replace h := lt_e hx17 h
      refine r_istore_n (L' := [some (.ref 80), some (.int v1), some (.int v2), some (.int x17), some (.int v4), none, none]) dX12_later_53 (Nat.le_of_ble_eq_true rfl) rfl rfl ?_
      obtain ⟨x18, hx18⟩ : ∃ y : Int32, y = (v4 + 1 : Int32) := ⟨_, rfl⟩
      replace h := lt_e hx18 h
      refine r_iinc (x := v4) (v := x18) (L' := [some (.ref 80), some (.int v1), some (.int v2), some (.int x17), some (.int x18), none, none]) dX12_later_54 rfl (by rw [hx18]; rfl) (Nat.le_of_ble_eq_true rfl) rfl rfl ?_
      refine r_goto (tgt := 35) dX12_later_57 (by decide) ?_
      exact ih _ _ _ _ _ _ h k0
def fX12_later_69 (N : Nat) (v1 : Int32) (v2 : Int32) (v3 : Int32) : Nat → Int32 → Int32 → Int32 → PS → Option (Int32 × Int32 × Int32 × PS)
  | 0, _, _, _, _ => none
  | n + 1, v4, v5, v6, S =>
    (if (S.1 80 1) ≤ v6 then
      some (v4, v5, v6, S)
    else
      (if v4 = (-1) then
        gd (inr (74 + v6) 128) <|
        lt ((if (S.1 91 (ix (74 + v6))) = 0 then (1 <<< (v6 &&& 31)) else 0) : Int32) fun x29 =>
        lt ((v5 ||| x29) : Int32) fun x30 =>
        lt (v6 + 1 : Int32) fun x31 =>
        fX12_later_69 N v1 v2 v3 n v6 x30 x31 S
      else
        gd (inr (74 + v6) 128) <|
        gd (inr (74 + v4) 128) <|
        (if (S.1 91 (ix (74 + v6))) ≤ (S.1 91 (ix (74 + v4))) then
          gd (inr (74 + v6) 128) <|
          lt ((if (S.1 91 (ix (74 + v6))) = 0 then (1 <<< (v6 &&& 31)) else 0) : Int32) fun x37 =>
          lt ((v5 ||| x37) : Int32) fun x38 =>
          lt (v6 + 1 : Int32) fun x39 =>
          fX12_later_69 N v1 v2 v3 n v4 x38 x39 S
        else
          gd (inr (74 + v6) 128) <|
          lt ((if (S.1 91 (ix (74 + v6))) = 0 then (1 <<< (v6 &&& 31)) else 0) : Int32) fun x42 =>
          lt ((v5 ||| x42) : Int32) fun x43 =>
          lt (v6 + 1 : Int32) fun x44 =>
          fX12_later_69 N v1 v2 v3 n v6 x43 x44 S)))
set_option maxHeartbeats 4000000 in
set_option maxRecDepth 100000 in
theorem okX12_later_69 (N : Nat) (v1 : Int32) (v2 : Int32) (v3 : Int32) (Q : OQ) (u : Nat) (hu : u ≤ 0) : ∀ (n : Nat) (v4 : Int32) (v5 : Int32) (v6 : Int32) (S : PS) (y4 : Int32) (y5 : Int32) (y6 : Int32) (T : PS), fX12_later_69 N v1 v2 v3 n v4 v5 v6 S = some (y4, y5, y6, T) → WP [] mX12_later 5 0 Q 143 [some (.ref 80), some (.int v1), some (.int v2), some (.int v3), some (.int y4), some (.int y5), some (.int y6)] [] T u → WP [] mX12_later 5 0 Q 69 [some (.ref 80), some (.int v1), some (.int v2), some (.int v3), some (.int v4), some (.int v5), some (.int v6)] [] S u := by
  intro n
  induction n with
  | zero => intro v4 v5 v6 S y4 y5 y6 T h; rw [fX12_later_69] at h; cases h
  | succ n ih =>
    intro v4 v5 v6 S y4 y5 y6 T h k0
    rw [fX12_later_69] at h
    refine r_iload (x := v6) dX12_later_69 rfl ?_
    refine r_aload_n (x := 80) dX12_later_71 rfl ?_
    refine r_getfield (o := 80) (v := .int (S.1 80 1)) dX12_later_72 lX12_269 ck80 nC80 rfl ?_
    refine r_icmp_ge (tgt := 143) dX12_later_75 (by decide) (fun c25 => ?_) (fun c25 => ?_)
    · rw [if_pos c25] at h
      cases h
      exact k0
    · rw [if_neg c25] at h
      refine r_iload (x := v4) dX12_later_78 rfl ?_
      refine r_iconst (v := (-1)) dX12_later_80 rfl ?_
      refine r_icmp_eq (tgt := 107) dX12_later_81 (by decide) (fun c26 => ?_) (fun c26 => ?_)
      · rw [if_pos c26] at h
        refine r_iload (x := v6) dX12_later_107 rfl ?_
        refine r_istore (L' := [some (.ref 80), some (.int v1), some (.int v2), some (.int v3), some (.int v6), some (.int v5), some (.int v6)]) dX12_later_109 (Nat.le_of_ble_eq_true rfl) rfl rfl ?_
        refine r_iload (x := v5) dX12_later_111 rfl ?_
        refine r_aload_n (x := 80) dX12_later_113 rfl ?_
        refine r_getfield (o := 80) (v := .ref 91) dX12_later_114 lX12_51 ck80 nC80 rfl ?_
        refine r_bipush (v := 74) dX12_later_117 rfl ?_
        refine r_iload (x := v6) dX12_later_119 rfl ?_
        refine r_iadd dX12_later_121 ?_
        obtain ⟨g27, h⟩ := gd_e h
        refine r_iaload (a := 91) dX12_later_122 ck91 nC91 (inr_IX g27) ?_
        obtain ⟨x29, hx29⟩ : ∃ y : Int32, y = ((if (S.1 91 (ix (74 + v6))) = 0 then (1 <<< (v6 &&& 31)) else 0) : Int32) := ⟨_, rfl⟩
        replace h := lt_e hx29 h
        have keyx29 : WP [] mX12_later 5 0 Q 134 [some (.ref 80), some (.int v1), some (.int v2), some (.int v3), some (.int v6), some (.int v5), some (.int v6)] (.int x29 :: [.int v5]) S u := by
          refine r_ior dX12_later_134 ?_
          refine r_topi (fun x30 hx30 => ?_)
          replace h := lt_e hx30 h
          refine r_istore (L' := [some (.ref 80), some (.int v1), some (.int v2), some (.int v3), some (.int v6), some (.int x30), some (.int v6)]) dX12_later_135 (Nat.le_of_ble_eq_true rfl) rfl rfl ?_
          obtain ⟨x31, hx31⟩ : ∃ y : Int32, y = (v6 + 1 : Int32) := ⟨_, rfl⟩
          replace h := lt_e hx31 h
          refine r_iinc (x := v6) (v := x31) (L' := [some (.ref 80), some (.int v1), some (.int v2), some (.int v3), some (.int v6), some (.int x30), some (.int x31)]) dX12_later_137 rfl (by rw [hx31]; rfl) (Nat.le_of_ble_eq_true rfl) rfl rfl ?_
          refine r_goto (tgt := 69) dX12_later_140 (by decide) ?_
          exact ih _ _ _ _ _ _ _ _ h k0
        refine r_if_ne (tgt := 133) dX12_later_123 (by decide) (fun c28 => ?_) (fun c28 => ?_)
        · refine r_iconst (v := 0) dX12_later_133 rfl ?_
          exact r_tope (by rw [hx29, if_neg c28]) keyx29
        · refine r_iconst (v := 1) dX12_later_126 rfl ?_
          refine r_iload (x := v6) dX12_later_127 rfl ?_
          refine r_ishl dX12_later_129 ?_
          refine r_goto (tgt := 134) dX12_later_130 (by decide) ?_
          exact r_tope (by rw [hx29, if_pos c28]) keyx29
      · rw [if_neg c26] at h
        refine r_aload_n (x := 80) dX12_later_84 rfl ?_
        refine r_getfield (o := 80) (v := .ref 91) dX12_later_85 lX12_51 ck80 nC80 rfl ?_
        refine r_bipush (v := 74) dX12_later_88 rfl ?_
        refine r_iload (x := v6) dX12_later_90 rfl ?_
        refine r_iadd dX12_later_92 ?_
        obtain ⟨g32, h⟩ := gd_e h
        refine r_iaload (a := 91) dX12_later_93 ck91 nC91 (inr_IX g32) ?_
        refine r_aload_n (x := 80) dX12_later_94 rfl ?_
        refine r_getfield (o := 80) (v := .ref 91) dX12_later_95 lX12_51 ck80 nC80 rfl ?_
        refine r_bipush (v := 74) dX12_later_98 rfl ?_
        refine r_iload (x := v4) dX12_later_100 rfl ?_
        refine r_iadd dX12_later_102 ?_
        obtain ⟨g33, h⟩ := gd_e h
        refine r_iaload (a := 91) dX12_later_103 ck91 nC91 (inr_IX g33) ?_
        refine r_icmp_le (tgt := 111) dX12_later_104 (by decide) (fun c34 => ?_) (fun c34 => ?_)
        · rw [if_pos c34] at h
          refine r_iload (x := v5) dX12_later_111 rfl ?_
          refine r_aload_n (x := 80) dX12_later_113 rfl ?_
          refine r_getfield (o := 80) (v := .ref 91) dX12_later_114 lX12_51 ck80 nC80 rfl ?_
          refine r_bipush (v := 74) dX12_later_117 rfl ?_
          refine r_iload (x := v6) dX12_later_119 rfl ?_
          refine r_iadd dX12_later_121 ?_
          obtain ⟨g35, h⟩ := gd_e h
          refine r_iaload (a := 91) dX12_later_122 ck91 nC91 (inr_IX g35) ?_
          obtain ⟨x37, hx37⟩ : ∃ y : Int32, y = ((if (S.1 91 (ix (74 + v6))) = 0 then (1 <<< (v6 &&& 31)) else 0) : Int32) := ⟨_, rfl⟩
          replace h := lt_e hx37 h
          have keyx37 : WP [] mX12_later 5 0 Q 134 [some (.ref 80), some (.int v1), some (.int v2), some (.int v3), some (.int v4), some (.int v5), some (.int v6)] (.int x37 :: [.int v5]) S u := by
            refine r_ior dX12_later_134 ?_
            refine r_topi (fun x38 hx38 => ?_)
            replace h := lt_e hx38 h
            refine r_istore (L' := [some (.ref 80), some (.int v1), some (.int v2), some (.int v3), some (.int v4), some (.int x38), some (.int v6)]) dX12_later_135 (Nat.le_of_ble_eq_true rfl) rfl rfl ?_
            obtain ⟨x39, hx39⟩ : ∃ y : Int32, y = (v6 + 1 : Int32) := ⟨_, rfl⟩
            replace h := lt_e hx39 h
            refine r_iinc (x := v6) (v := x39) (L' := [some (.ref 80), some (.int v1), some (.int v2), some (.int v3), some (.int v4), some (.int x38), some (.int x39)]) dX12_later_137 rfl (by rw [hx39]; rfl) (Nat.le_of_ble_eq_true rfl) rfl rfl ?_
            refine r_goto (tgt := 69) dX12_later_140 (by decide) ?_
            exact ih _ _ _ _ _ _ _ _ h k0
          refine r_if_ne (tgt := 133) dX12_later_123 (by decide) (fun c36 => ?_) (fun c36 => ?_)
          · refine r_iconst (v := 0) dX12_later_133 rfl ?_
            exact r_tope (by rw [hx37, if_neg c36]) keyx37
          · refine r_iconst (v := 1) dX12_later_126 rfl ?_
            refine r_iload (x := v6) dX12_later_127 rfl ?_
            refine r_ishl dX12_later_129 ?_
            refine r_goto (tgt := 134) dX12_later_130 (by decide) ?_
            exact r_tope (by rw [hx37, if_pos c36]) keyx37
        · rw [if_neg c34] at h
          refine r_iload (x := v6) dX12_later_107 rfl ?_
          refine r_istore (L' := [some (.ref 80), some (.int v1), some (.int v2), some (.int v3), some (.int v6), some (.int v5), some (.int v6)]) dX12_later_109 (Nat.le_of_ble_eq_true rfl) rfl rfl ?_
          refine r_iload (x := v5) dX12_later_111 rfl ?_
          refine r_aload_n (x := 80) dX12_later_113 rfl ?_
          refine r_getfield (o := 80) (v := .ref 91) dX12_later_114 lX12_51 ck80 nC80 rfl ?_
          refine r_bipush (v := 74) dX12_later_117 rfl ?_
          refine r_iload (x := v6) dX12_later_119 rfl ?_
          refine r_iadd dX12_later_121 ?_
          obtain ⟨g40, h⟩ := gd_e h
          refine r_iaload (a := 91) dX12_later_122 ck91 nC91 (inr_IX g40) ?_
          obtain ⟨x42, hx42⟩ : ∃ y : Int32, y = ((if (S.1 91 (ix (74 + v6))) = 0 then (1 <<< (v6 &&& 31)) else 0) : Int32) := ⟨_, rfl⟩
          replace h := lt_e hx42 h
          have keyx42 : WP [] mX12_later 5 0 Q 134 [some (.ref 80), some (.int v1), some (.int v2), some (.int v3), some (.int v6), some (.int v5), some (.int v6)] (.int x42 :: [.int v5]) S u := by
            refine r_ior dX12_later_134 ?_
            refine r_topi (fun x43 hx43 => ?_)
            replace h := lt_e hx43 h
            refine r_istore (L' := [some (.ref 80), some (.int v1), some (.int v2), some (.int v3), some (.int v6), some (.int x43), some (.int v6)]) dX12_later_135 (Nat.le_of_ble_eq_true rfl) rfl rfl ?_
            obtain ⟨x44, hx44⟩ : ∃ y : Int32, y = (v6 + 1 : Int32) := ⟨_, rfl⟩
            replace h := lt_e hx44 h
            refine r_iinc (x := v6) (v := x44) (L' := [some (.ref 80), some (.int v1), some (.int v2), some (.int v3), some (.int v6), some (.int x43), some (.int x44)]) dX12_later_137 rfl (by rw [hx44]; rfl) (Nat.le_of_ble_eq_true rfl) rfl rfl ?_
            refine r_goto (tgt := 69) dX12_later_140 (by decide) ?_
            exact ih _ _ _ _ _ _ _ _ h k0
          refine r_if_ne (tgt := 133) dX12_later_123 (by decide) (fun c41 => ?_) (fun c41 => ?_)
          · refine r_iconst (v := 0) dX12_later_133 rfl ?_
            exact r_tope (by rw [hx42, if_neg c41]) keyx42
          · refine r_iconst (v := 1) dX12_later_126 rfl ?_
            refine r_iload (x := v6) dX12_later_127 rfl ?_
            refine r_ishl dX12_later_129 ?_
            refine r_goto (tgt := 134) dX12_later_130 (by decide) ?_
            exact r_tope (by rw [hx42, if_pos c41]) keyx42
def fX12_later (N : Nat) (p0 : Int32) (p1 : Int32) (S : PS) : Option (Int32 × PS) :=
  lt ((u2 S.1 80 0 0, S.2) : PS) fun S1 =>
  bI (fX12_isWhat N p1 2 S1) fun x2 S3 =>
  (if x2 = 0 then
    some (0, S3)
  else
    bI (fX12_isSoon N p0 0 2 S3) fun x6 S7 =>
    (if x6 = 0 then
      some (0, S7)
    else
      bV (fX12_tries N  S7) fun S11 =>
      bT (fX12_later_35 N p0 p1 N 0 0 S11) fun q19 =>
      lt (q19.1 : Int32) fun x20 =>
      lt (q19.2.1 : Int32) fun x21 =>
      lt (q19.2.2 : PS) fun S22 =>
      bT (fX12_later_69 N p0 p1 x20 N (-1) 0 0 S22) fun q45 =>
      lt (q45.1 : Int32) fun x46 =>
      lt (q45.2.1 : Int32) fun x47 =>
      lt (q45.2.2.1 : Int32) fun x48 =>
      lt (q45.2.2.2 : PS) fun S49 =>
      lt ((if p1 = 0 then x46 else (if p1 = 1 then x47 else x20)) : Int32) fun x54 =>
      some (x54, S49)))
set_option maxHeartbeats 4000000 in
set_option maxRecDepth 100000 in
theorem okX12_later (N : Nat) (p0 : Int32) (p1 : Int32) (S : PS) (r : Int32) (T : PS) (h : fX12_later N p0 p1 S = some (r, T)) : CT mX12_later 5 0 [.ref 80, .int p0, .int p1] S (qI r T) := by
  refine ct_of [some (.ref 80), some (.int p0), some (.int p1), none, none, none, none] rfl (fun _ => rfl) (fun _ => Nat.le_of_ble_eq_true rfl) ?_
  unfold fX12_later at h
  refine r_aload_n (x := 80) dX12_later_0 rfl ?_
  refine r_iconst (v := 0) dX12_later_1 rfl ?_
  refine r_putI dX12_later_2 lX12_114 ck80 nC80 ?_
  refine r_topS (fun S1 hS1 => ?_)
  replace h := lt_e hS1 h
  refine r_aload_n (x := 80) dX12_later_5 rfl ?_
  refine r_iload_n (x := p1) dX12_later_6 rfl ?_
  refine r_iconst (v := 2) dX12_later_7 rfl ?_
  obtain ⟨x2, S3, h4, h⟩ := bI_e h
  refine r_cVI (y := mX12_isWhat) (As := [.int p1, .int 2]) (rest := []) dX12_later_8 qX12_354 kX12_isWhat rfl ob80 vc12 rfl (okX12_isWhat N p1 2 S1 x2 S3 h4) (by decide) (Nat.zero_le _) rfl (Nat.le_of_ble_eq_true rfl) ?_
  refine r_if_eq (tgt := 24) dX12_later_11 (by decide) (fun c5 => ?_) (fun c5 => ?_)
  · rw [if_pos c5] at h
    refine r_iconst (v := 0) dX12_later_24 rfl ?_
    cases h
    exact r_ireturn dX12_later_25 rfl (Nat.zero_le _) ⟨rfl, rfl⟩
  · rw [if_neg c5] at h
    refine r_aload_n (x := 80) dX12_later_14 rfl ?_
    refine r_iload_n (x := p0) dX12_later_15 rfl ?_
    refine r_iconst (v := 0) dX12_later_16 rfl ?_
    refine r_iconst (v := 2) dX12_later_17 rfl ?_
    obtain ⟨x6, S7, h8, h⟩ := bI_e h
    refine r_cVI (y := mX12_isSoon) (As := [.int p0, .int 0, .int 2]) (rest := []) dX12_later_18 qX12_378 kX12_isSoon rfl ob80 vc12 rfl (okX12_isSoon N p0 0 2 S3 x6 S7 h8) (by decide) (Nat.zero_le _) rfl (Nat.le_of_ble_eq_true rfl) ?_
    refine r_if_ne (tgt := 26) dX12_later_21 (by decide) (fun c9 => ?_) (fun c9 => ?_)
    · rw [if_neg c9] at h
      refine r_iconst (v := 0) dX12_later_26 rfl ?_
      refine r_istore_n (L' := [some (.ref 80), some (.int p0), some (.int p1), some (.int 0), none, none, none]) dX12_later_27 (Nat.le_of_ble_eq_true rfl) rfl rfl ?_
      refine r_aload_n (x := 80) dX12_later_28 rfl ?_
      obtain ⟨S11, h12, h⟩ := bV_e h
      refine r_cVV (y := mX12_tries) (As := []) (rest := []) dX12_later_29 qX12_381 kX12_tries rfl ob80 vc12 rfl (okX12_tries N  S7 S11 h12) (by decide) (Nat.zero_le _) rfl (Nat.le_of_ble_eq_true rfl) ?_
      refine r_iconst (v := 0) dX12_later_32 rfl ?_
      refine r_istore (L' := [some (.ref 80), some (.int p0), some (.int p1), some (.int 0), some (.int 0), none, none]) dX12_later_33 (Nat.le_of_ble_eq_true rfl) rfl rfl ?_
      obtain ⟨⟨x20, x21, S22⟩, h24, h⟩ := bT_e h
      dsimp only at h
      replace h := pl_s (pl_s (pl_s (h)))
      refine okX12_later_35 N p0 p1 (qI r T) 0 (Nat.zero_le _) _ _ _ _ _ _ _ h24 ?_
      refine r_iconst (v := (-1)) dX12_later_60 rfl ?_
      refine r_istore (L' := [some (.ref 80), some (.int p0), some (.int p1), some (.int x20), some (.int (-1)), none, none]) dX12_later_61 (Nat.le_of_ble_eq_true rfl) rfl rfl ?_
      refine r_iconst (v := 0) dX12_later_63 rfl ?_
      refine r_istore (L' := [some (.ref 80), some (.int p0), some (.int p1), some (.int x20), some (.int (-1)), some (.int 0), none]) dX12_later_64 (Nat.le_of_ble_eq_true rfl) rfl rfl ?_
      refine r_iconst (v := 0) dX12_later_66 rfl ?_
      refine r_istore (L' := [some (.ref 80), some (.int p0), some (.int p1), some (.int x20), some (.int (-1)), some (.int 0), some (.int 0)]) dX12_later_67 (Nat.le_of_ble_eq_true rfl) rfl rfl ?_
      obtain ⟨⟨x46, x47, x48, S49⟩, h51, h⟩ := bT_e h
      dsimp only at h
      replace h := pl_s (pl_s (pl_s (pl_s (h))))
      refine okX12_later_69 N p0 p1 x20 (qI r T) 0 (Nat.zero_le _) _ _ _ _ _ _ _ _ _ h51 ?_
      refine r_iload_n (x := p1) dX12_later_143 rfl ?_
      obtain ⟨x54, hx54⟩ : ∃ y : Int32, y = ((if p1 = 0 then x46 else (if p1 = 1 then x47 else x20)) : Int32) := ⟨_, rfl⟩
      replace h := lt_e hx54 h
      have keyx54 : WP [] mX12_later 5 0 (qI r T) 163 [some (.ref 80), some (.int p0), some (.int p1), some (.int x20), some (.int x46), some (.int x47), some (.int x48)] (.int x54 :: []) S49 0 := by
        cases h
        exact r_ireturn dX12_later_163 rfl (Nat.zero_le _) ⟨rfl, rfl⟩
      refine r_if_ne (tgt := 152) dX12_later_144 (by decide) (fun c52 => ?_) (fun c52 => ?_)
      · refine r_iload_n (x := p1) dX12_later_152 rfl ?_
        refine r_iconst (v := 1) dX12_later_153 rfl ?_
        refine r_icmp_ne (tgt := 162) dX12_later_154 (by decide) (fun c53 => ?_) (fun c53 => ?_)
        · refine r_iload_n (x := x20) dX12_later_162 rfl ?_
          exact r_tope (by rw [hx54, if_neg c52, if_neg c53]) keyx54
        · refine r_iload (x := x47) dX12_later_157 rfl ?_
          refine r_goto (tgt := 163) dX12_later_159 (by decide) ?_
          exact r_tope (by rw [hx54, if_neg c52, if_pos c53]) keyx54
      · refine r_iload (x := x46) dX12_later_147 rfl ?_
        refine r_goto (tgt := 163) dX12_later_149 (by decide) ?_
        exact r_tope (by rw [hx54, if_pos c52]) keyx54
    · rw [if_pos c9] at h
      refine r_iconst (v := 0) dX12_later_24 rfl ?_
      cases h
      exact r_ireturn dX12_later_25 rfl (Nat.zero_le _) ⟨rfl, rfl⟩
def fX12_oftenest_19 (N : Nat) (v1 : Int32) : Nat → Int32 → PS → Option (Int32 × PS)
  | 0, _, _ => none
  | n + 1, v2, S =>
    (if 9 ≤ v2 then
      some (v2, S)
    else
      gd (inr v2 9) <|
      lt ((u2 S.1 98 (ix v2) 0, S.2) : PS) fun S8 =>
      lt (v2 + 1 : Int32) fun x9 =>
      fX12_oftenest_19 N v1 n x9 S8)
set_option maxHeartbeats 4000000 in
set_option maxRecDepth 100000 in
theorem okX12_oftenest_19 (N : Nat) (v1 : Int32) (Q : OQ) (u : Nat) (hu : u ≤ 0) : ∀ (n : Nat) (v2 : Int32) (S : PS) (y2 : Int32) (T : PS), fX12_oftenest_19 N v1 n v2 S = some (y2, T) → WP [] mX12_oftenest 5 0 Q 38 [some (.ref 80), some (.int v1), some (.int y2), none] [] T u → WP [] mX12_oftenest 5 0 Q 19 [some (.ref 80), some (.int v1), some (.int v2), none] [] S u := by
  intro n
  induction n with
  | zero => intro v2 S y2 T h; rw [fX12_oftenest_19] at h; cases h
  | succ n ih =>
    intro v2 S y2 T h k0
    rw [fX12_oftenest_19] at h
    refine r_iload_n (x := v2) dX12_oftenest_19 rfl ?_
    refine r_bipush (v := 9) dX12_oftenest_20 rfl ?_
    refine r_icmp_ge (tgt := 38) dX12_oftenest_22 (by decide) (fun c6 => ?_) (fun c6 => ?_)
    · rw [if_pos c6] at h
      cases h
      exact k0
    · rw [if_neg c6] at h
      refine r_aload_n (x := 80) dX12_oftenest_25 rfl ?_
      refine r_getfield (o := 80) (v := .ref 98) dX12_oftenest_26 lX12_75 ck80 nC80 rfl ?_
      refine r_iload_n (x := v2) dX12_oftenest_29 rfl ?_
      refine r_iconst (v := 0) dX12_oftenest_30 rfl ?_
      obtain ⟨g7, h⟩ := gd_e h
      refine r_iastore (a := 98) dX12_oftenest_31 ck98 nC98 (inr_IX g7) ?_
      refine r_topS (fun S8 hS8 => ?_)
      replace h := lt_e hS8 h
      obtain ⟨x9, hx9⟩ : ∃ y : Int32, y = (v2 + 1 : Int32) := ⟨_, rfl⟩
      replace h := lt_e hx9 h
      refine r_iinc (x := v2) (v := x9) (L' := [some (.ref 80), some (.int v1), some (.int x9), none]) dX12_oftenest_32 rfl (by rw [hx9]; rfl) (Nat.le_of_ble_eq_true rfl) rfl rfl ?_
      refine r_goto (tgt := 19) dX12_oftenest_35 (by decide) ?_
      exact ih _ _ _ _ h k0
def fX12_oftenest_57 (N : Nat) (v1 : Int32) (v2 : Int32) : Nat → Int32 → PS → Option (Int32 × PS)
  | 0, _, _ => none
  | n + 1, v3, S =>
    (if (S.1 80 1) ≤ v3 then
      some (v3, S)
    else
      gd (inr v3 9) <|
      gd (inr v3 9) <|
      gd (inr v3 9) <|
      lt ((u2 S.1 98 (ix v3) ((S.1 98 (ix v3)) + (S.1 96 (ix v3))), S.2) : PS) fun S26 =>
      lt (v3 + 1 : Int32) fun x27 =>
      fX12_oftenest_57 N v1 v2 n x27 S26)
set_option maxHeartbeats 4000000 in
set_option maxRecDepth 100000 in
theorem okX12_oftenest_57 (N : Nat) (v1 : Int32) (v2 : Int32) (Q : OQ) (u : Nat) (hu : u ≤ 0) : ∀ (n : Nat) (v3 : Int32) (S : PS) (y3 : Int32) (T : PS), fX12_oftenest_57 N v1 v2 n v3 S = some (y3, T) → WP [] mX12_oftenest 5 0 Q 86 [some (.ref 80), some (.int v1), some (.int v2), some (.int y3)] [] T u → WP [] mX12_oftenest 5 0 Q 57 [some (.ref 80), some (.int v1), some (.int v2), some (.int v3)] [] S u := by
  intro n
  induction n with
  | zero => intro v3 S y3 T h; rw [fX12_oftenest_57] at h; cases h
  | succ n ih =>
    intro v3 S y3 T h k0
    rw [fX12_oftenest_57] at h
    refine r_iload_n (x := v3) dX12_oftenest_57 rfl ?_
    refine r_aload_n (x := 80) dX12_oftenest_58 rfl ?_
    refine r_getfield (o := 80) (v := .int (S.1 80 1)) dX12_oftenest_59 lX12_269 ck80 nC80 rfl ?_
    refine r_icmp_ge (tgt := 86) dX12_oftenest_62 (by decide) (fun c22 => ?_) (fun c22 => ?_)
    · rw [if_pos c22] at h
      cases h
      exact k0
    · rw [if_neg c22] at h
      refine r_aload_n (x := 80) dX12_oftenest_65 rfl ?_
      refine r_getfield (o := 80) (v := .ref 98) dX12_oftenest_66 lX12_75 ck80 nC80 rfl ?_
      refine r_iload_n (x := v3) dX12_oftenest_69 rfl ?_
      refine r_dup2 dX12_oftenest_70 ?_
      obtain ⟨g23, h⟩ := gd_e h
      refine r_iaload (a := 98) dX12_oftenest_71 ck98 nC98 (inr_IX g23) ?_
      refine r_aload_n (x := 80) dX12_oftenest_72 rfl ?_
      refine r_getfield (o := 80) (v := .ref 96) dX12_oftenest_73 lX12_66 ck80 nC80 rfl ?_
      refine r_iload_n (x := v3) dX12_oftenest_76 rfl ?_
      obtain ⟨g24, h⟩ := gd_e h
      refine r_iaload (a := 96) dX12_oftenest_77 ck96 nC96 (inr_IX g24) ?_
      refine r_iadd dX12_oftenest_78 ?_
      obtain ⟨g25, h⟩ := gd_e h
      refine r_iastore (a := 98) dX12_oftenest_79 ck98 nC98 (inr_IX g25) ?_
      refine r_topS (fun S26 hS26 => ?_)
      replace h := lt_e hS26 h
      obtain ⟨x27, hx27⟩ : ∃ y : Int32, y = (v3 + 1 : Int32) := ⟨_, rfl⟩
      replace h := lt_e hx27 h
      refine r_iinc (x := v3) (v := x27) (L' := [some (.ref 80), some (.int v1), some (.int v2), some (.int x27)]) dX12_oftenest_80 rfl (by rw [hx27]; rfl) (Nat.le_of_ble_eq_true rfl) rfl rfl ?_
      refine r_goto (tgt := 57) dX12_oftenest_83 (by decide) ?_
      exact ih _ _ _ _ h k0
def fX12_oftenest_44 (N : Nat) (v1 : Int32) : Nat → Int32 → PS → Option (Int32 × PS)
  | 0, _, _ => none
  | n + 1, v2, S =>
    (if v1 ≤ v2 then
      some (v2, S)
    else
      bV (fX12_hourGoes N 64 S) fun S20 =>
      bT (fX12_oftenest_57 N v1 v2 N 0 S20) fun q28 =>
      lt (q28.1 : Int32) fun x29 =>
      lt (q28.2 : PS) fun S30 =>
      lt (v2 + 1 : Int32) fun x33 =>
      fX12_oftenest_44 N v1 n x33 S30)
set_option maxHeartbeats 4000000 in
set_option maxRecDepth 100000 in
theorem okX12_oftenest_44 (N : Nat) (v1 : Int32) (Q : OQ) (u : Nat) (hu : u ≤ 0) : ∀ (n : Nat) (v2 : Int32) (S : PS) (y2 : Int32) (T : PS), fX12_oftenest_44 N v1 n v2 S = some (y2, T) → WP [] mX12_oftenest 5 0 Q 92 [some (.ref 80), some (.int v1), some (.int y2), none] [] T u → WP [] mX12_oftenest 5 0 Q 44 [some (.ref 80), some (.int v1), some (.int v2), none] [] S u := by
  intro n
  induction n with
  | zero => intro v2 S y2 T h; rw [fX12_oftenest_44] at h; cases h
  | succ n ih =>
    intro v2 S y2 T h k0
    rw [fX12_oftenest_44] at h
    refine r_iload_n (x := v2) dX12_oftenest_44 rfl ?_
    refine r_iload_n (x := v1) dX12_oftenest_45 rfl ?_
    refine r_icmp_ge (tgt := 92) dX12_oftenest_46 (by decide) (fun c18 => ?_) (fun c18 => ?_)
    · rw [if_pos c18] at h
      cases h
      exact k0
    · rw [if_neg c18] at h
      refine r_aload_n (x := 80) dX12_oftenest_49 rfl ?_
      refine r_bipush (v := 64) dX12_oftenest_50 rfl ?_
      obtain ⟨S20, h21, h⟩ := bV_e h
      refine r_cVV (y := mX12_hourGoes) (As := [.int 64]) (rest := []) dX12_oftenest_52 qX12_323 kX12_hourGoes rfl ob80 vc12 rfl (okX12_hourGoes N 64 S S20 h21) (by decide) hu rfl (Nat.le_of_ble_eq_true rfl) ?_
      refine r_iconst (v := 0) dX12_oftenest_55 rfl ?_
      refine r_istore_n (L' := [some (.ref 80), some (.int v1), some (.int v2), some (.int 0)]) dX12_oftenest_56 (Nat.le_of_ble_eq_true rfl) rfl rfl ?_
      obtain ⟨⟨x29, S30⟩, h32, h⟩ := bT_e h
      dsimp only at h
      replace h := pl_s (pl_s (h))
      refine okX12_oftenest_57 N v1 v2 Q u hu _ _ _ _ _ h32 ?_
      obtain ⟨x33, hx33⟩ : ∃ y : Int32, y = (v2 + 1 : Int32) := ⟨_, rfl⟩
      replace h := lt_e hx33 h
      refine r_iinc (x := v2) (v := x33) (L' := [some (.ref 80), some (.int v1), some (.int x33), some (.int x29)]) dX12_oftenest_86 rfl (by rw [hx33]; rfl) (Nat.le_of_ble_eq_true rfl) rfl rfl ?_
      refine r_goto (tgt := 44) dX12_oftenest_89 (by decide) ?_
      refine r_drop [true, true, true, false] rfl ?_
      exact ih _ _ _ _ h k0
def fX12_oftenest_96 (N : Nat) (v1 : Int32) : Nat → Int32 → Int32 → PS → Option (Int32 × Int32 × PS)
  | 0, _, _, _ => none
  | n + 1, v2, v3, S =>
    (if (S.1 80 1) ≤ v3 then
      some (v2, v3, S)
    else
      (if v2 = (-1) then
        lt (v3 + 1 : Int32) fun x41 =>
        fX12_oftenest_96 N v1 n v3 x41 S
      else
        gd (inr v3 9) <|
        gd (inr v2 9) <|
        (if (S.1 98 (ix v3)) ≤ (S.1 98 (ix v2)) then
          lt (v3 + 1 : Int32) fun x45 =>
          fX12_oftenest_96 N v1 n v2 x45 S
        else
          lt (v3 + 1 : Int32) fun x46 =>
          fX12_oftenest_96 N v1 n v3 x46 S)))
set_option maxHeartbeats 4000000 in
set_option maxRecDepth 100000 in
theorem okX12_oftenest_96 (N : Nat) (v1 : Int32) (Q : OQ) (u : Nat) (hu : u ≤ 0) : ∀ (n : Nat) (v2 : Int32) (v3 : Int32) (S : PS) (y2 : Int32) (y3 : Int32) (T : PS), fX12_oftenest_96 N v1 n v2 v3 S = some (y2, y3, T) → WP [] mX12_oftenest 5 0 Q 132 [some (.ref 80), some (.int v1), some (.int y2), some (.int y3)] [] T u → WP [] mX12_oftenest 5 0 Q 96 [some (.ref 80), some (.int v1), some (.int v2), some (.int v3)] [] S u := by
  intro n
  induction n with
  | zero => intro v2 v3 S y2 y3 T h; rw [fX12_oftenest_96] at h; cases h
  | succ n ih =>
    intro v2 v3 S y2 y3 T h k0
    rw [fX12_oftenest_96] at h
    refine r_iload_n (x := v3) dX12_oftenest_96 rfl ?_
    refine r_aload_n (x := 80) dX12_oftenest_97 rfl ?_
    refine r_getfield (o := 80) (v := .int (S.1 80 1)) dX12_oftenest_98 lX12_269 ck80 nC80 rfl ?_
    refine r_icmp_ge (tgt := 132) dX12_oftenest_101 (by decide) (fun c39 => ?_) (fun c39 => ?_)
    · rw [if_pos c39] at h
      cases h
      exact k0
    · rw [if_neg c39] at h
      refine r_iload_n (x := v2) dX12_oftenest_104 rfl ?_
      refine r_iconst (v := (-1)) dX12_oftenest_105 rfl ?_
      refine r_icmp_eq (tgt := 124) dX12_oftenest_106 (by decide) (fun c40 => ?_) (fun c40 => ?_)
      · rw [if_pos c40] at h
        refine r_iload_n (x := v3) dX12_oftenest_124 rfl ?_
        refine r_istore_n (L' := [some (.ref 80), some (.int v1), some (.int v3), some (.int v3)]) dX12_oftenest_125 (Nat.le_of_ble_eq_true rfl) rfl rfl ?_
        obtain ⟨x41, hx41⟩ : ∃ y : Int32, y = (v3 + 1 : Int32) := ⟨_, rfl⟩
        replace h := lt_e hx41 h
        refine r_iinc (x := v3) (v := x41) (L' := [some (.ref 80), some (.int v1), some (.int v3), some (.int x41)]) dX12_oftenest_126 rfl (by rw [hx41]; rfl) (Nat.le_of_ble_eq_true rfl) rfl rfl ?_
        refine r_goto (tgt := 96) dX12_oftenest_129 (by decide) ?_
        exact ih _ _ _ _ _ _ h k0
      · rw [if_neg c40] at h
        refine r_aload_n (x := 80) dX12_oftenest_109 rfl ?_
        refine r_getfield (o := 80) (v := .ref 98) dX12_oftenest_110 lX12_75 ck80 nC80 rfl ?_
        refine r_iload_n (x := v3) dX12_oftenest_113 rfl ?_
        obtain ⟨g42, h⟩ := gd_e h
        refine r_iaload (a := 98) dX12_oftenest_114 ck98 nC98 (inr_IX g42) ?_
        refine r_aload_n (x := 80) dX12_oftenest_115 rfl ?_
        refine r_getfield (o := 80) (v := .ref 98) dX12_oftenest_116 lX12_75 ck80 nC80 rfl ?_
        refine r_iload_n (x := v2) dX12_oftenest_119 rfl ?_
        obtain ⟨g43, h⟩ := gd_e h
        refine r_iaload (a := 98) dX12_oftenest_120 ck98 nC98 (inr_IX g43) ?_
        refine r_icmp_le (tgt := 126) dX12_oftenest_121 (by decide) (fun c44 => ?_) (fun c44 => ?_)
        · rw [if_pos c44] at h
          obtain ⟨x45, hx45⟩ : ∃ y : Int32, y = (v3 + 1 : Int32) := ⟨_, rfl⟩
          replace h := lt_e hx45 h
          refine r_iinc (x := v3) (v := x45) (L' := [some (.ref 80), some (.int v1), some (.int v2), some (.int x45)]) dX12_oftenest_126 rfl (by rw [hx45]; rfl) (Nat.le_of_ble_eq_true rfl) rfl rfl ?_
          refine r_goto (tgt := 96) dX12_oftenest_129 (by decide) ?_
          exact ih _ _ _ _ _ _ h k0
        · rw [if_neg c44] at h
          refine r_iload_n (x := v3) dX12_oftenest_124 rfl ?_
          refine r_istore_n (L' := [some (.ref 80), some (.int v1), some (.int v3), some (.int v3)]) dX12_oftenest_125 (Nat.le_of_ble_eq_true rfl) rfl rfl ?_
          obtain ⟨x46, hx46⟩ : ∃ y : Int32, y = (v3 + 1 : Int32) := ⟨_, rfl⟩
          replace h := lt_e hx46 h
          refine r_iinc (x := v3) (v := x46) (L' := [some (.ref 80), some (.int v1), some (.int v3), some (.int x46)]) dX12_oftenest_126 rfl (by rw [hx46]; rfl) (Nat.le_of_ble_eq_true rfl) rfl rfl ?_
          refine r_goto (tgt := 96) dX12_oftenest_129 (by decide) ?_
          exact ih _ _ _ _ _ _ h k0
def fX12_oftenest (N : Nat) (p0 : Int32) (S : PS) : Option (Int32 × PS) :=
  lt ((u2 S.1 80 0 0, S.2) : PS) fun S1 =>
  bI (fX12_isSoon N p0 1 1 S1) fun x2 S3 =>
  (if x2 = 0 then
    some (0, S3)
  else
    bT (fX12_oftenest_19 N p0 N 0 S3) fun q10 =>
    lt (q10.1 : Int32) fun x11 =>
    lt (q10.2 : PS) fun S12 =>
    bV (fX12_tries N  S12) fun S16 =>
    bT (fX12_oftenest_44 N p0 N 0 S16) fun q34 =>
    lt (q34.1 : Int32) fun x35 =>
    lt (q34.2 : PS) fun S36 =>
    bT (fX12_oftenest_96 N p0 N (-1) 0 S36) fun q47 =>
    lt (q47.1 : Int32) fun x48 =>
    lt (q47.2.1 : Int32) fun x49 =>
    lt (q47.2.2 : PS) fun S50 =>
    some (x48, S50))
set_option maxHeartbeats 4000000 in
set_option maxRecDepth 100000 in
theorem okX12_oftenest (N : Nat) (p0 : Int32) (S : PS) (r : Int32) (T : PS) (h : fX12_oftenest N p0 S = some (r, T)) : CT mX12_oftenest 5 0 [.ref 80, .int p0] S (qI r T) := by
  refine ct_of [some (.ref 80), some (.int p0), none, none] rfl (fun _ => rfl) (fun _ => Nat.le_of_ble_eq_true rfl) ?_
  unfold fX12_oftenest at h
  refine r_aload_n (x := 80) dX12_oftenest_0 rfl ?_
  refine r_iconst (v := 0) dX12_oftenest_1 rfl ?_
  refine r_putI dX12_oftenest_2 lX12_114 ck80 nC80 ?_
  refine r_topS (fun S1 hS1 => ?_)
  replace h := lt_e hS1 h
  refine r_aload_n (x := 80) dX12_oftenest_5 rfl ?_
  refine r_iload_n (x := p0) dX12_oftenest_6 rfl ?_
  refine r_iconst (v := 1) dX12_oftenest_7 rfl ?_
  refine r_iconst (v := 1) dX12_oftenest_8 rfl ?_
  obtain ⟨x2, S3, h4, h⟩ := bI_e h
  refine r_cVI (y := mX12_isSoon) (As := [.int p0, .int 1, .int 1]) (rest := []) dX12_oftenest_9 qX12_378 kX12_isSoon rfl ob80 vc12 rfl (okX12_isSoon N p0 1 1 S1 x2 S3 h4) (by decide) (Nat.zero_le _) rfl (Nat.le_of_ble_eq_true rfl) ?_
  refine r_if_ne (tgt := 17) dX12_oftenest_12 (by decide) (fun c5 => ?_) (fun c5 => ?_)
  · rw [if_neg c5] at h
    refine r_iconst (v := 0) dX12_oftenest_17 rfl ?_
    refine r_istore_n (L' := [some (.ref 80), some (.int p0), some (.int 0), none]) dX12_oftenest_18 (Nat.le_of_ble_eq_true rfl) rfl rfl ?_
    obtain ⟨⟨x11, S12⟩, h14, h⟩ := bT_e h
    dsimp only at h
    replace h := pl_s (pl_s (h))
    refine okX12_oftenest_19 N p0 (qI r T) 0 (Nat.zero_le _) _ _ _ _ _ h14 ?_
    refine r_aload_n (x := 80) dX12_oftenest_38 rfl ?_
    obtain ⟨S16, h17, h⟩ := bV_e h
    refine r_cVV (y := mX12_tries) (As := []) (rest := []) dX12_oftenest_39 qX12_381 kX12_tries rfl ob80 vc12 rfl (okX12_tries N  S12 S16 h17) (by decide) (Nat.zero_le _) rfl (Nat.le_of_ble_eq_true rfl) ?_
    refine r_iconst (v := 0) dX12_oftenest_42 rfl ?_
    refine r_istore_n (L' := [some (.ref 80), some (.int p0), some (.int 0), none]) dX12_oftenest_43 (Nat.le_of_ble_eq_true rfl) rfl rfl ?_
    obtain ⟨⟨x35, S36⟩, h38, h⟩ := bT_e h
    dsimp only at h
    replace h := pl_s (pl_s (h))
    refine okX12_oftenest_44 N p0 (qI r T) 0 (Nat.zero_le _) _ _ _ _ _ h38 ?_
    refine r_iconst (v := (-1)) dX12_oftenest_92 rfl ?_
    refine r_istore_n (L' := [some (.ref 80), some (.int p0), some (.int (-1)), none]) dX12_oftenest_93 (Nat.le_of_ble_eq_true rfl) rfl rfl ?_
    refine r_iconst (v := 0) dX12_oftenest_94 rfl ?_
    refine r_istore_n (L' := [some (.ref 80), some (.int p0), some (.int (-1)), some (.int 0)]) dX12_oftenest_95 (Nat.le_of_ble_eq_true rfl) rfl rfl ?_
    obtain ⟨⟨x48, x49, S50⟩, h52, h⟩ := bT_e h
    dsimp only at h
    replace h := pl_s (pl_s (pl_s (h)))
    refine okX12_oftenest_96 N p0 (qI r T) 0 (Nat.zero_le _) _ _ _ _ _ _ _ h52 ?_
    refine r_iload_n (x := x48) dX12_oftenest_132 rfl ?_
    cases h
    exact r_ireturn dX12_oftenest_133 rfl (Nat.zero_le _) ⟨rfl, rfl⟩
  · rw [if_pos c5] at h
    refine r_iconst (v := 0) dX12_oftenest_15 rfl ?_
    cases h
    exact r_ireturn dX12_oftenest_16 rfl (Nat.zero_le _) ⟨rfl, rfl⟩
def fX12_round_28 (N : Nat) (v1 : Int32) : Nat → Int32 → Int32 → PS → Option (Int32 × Int32 × PS)
  | 0, _, _, _ => none
  | n + 1, v2, v3, S =>
    (if (S.1 80 1) ≤ v3 then
      some (v2, v3, S)
    else
      (if v2 = 0 then
        lt (v3 + 1 : Int32) fun x11 =>
        fX12_round_28 N v1 n 0 x11 S
      else
        gd (inr (74 + v3) 128) <|
        gd (inr (10 + v3) 128) <|
        lt ((if (S.1 91 (ix (74 + v3))) = (S.1 91 (ix (10 + v3))) then 1 else 0) : Int32) fun x15 =>
        lt (v3 + 1 : Int32) fun x16 =>
        fX12_round_28 N v1 n x15 x16 S))
set_option maxHeartbeats 4000000 in
set_option maxRecDepth 100000 in
theorem okX12_round_28 (N : Nat) (v1 : Int32) (Q : OQ) (u : Nat) (hu : u ≤ 0) : ∀ (n : Nat) (v2 : Int32) (v3 : Int32) (S : PS) (y2 : Int32) (y3 : Int32) (T : PS), fX12_round_28 N v1 n v2 v3 S = some (y2, y3, T) → WP [] mX12_round 5 0 Q 73 [some (.ref 80), some (.int v1), some (.int y2), some (.int y3)] [] T u → WP [] mX12_round 5 0 Q 28 [some (.ref 80), some (.int v1), some (.int v2), some (.int v3)] [] S u := by
  intro n
  induction n with
  | zero => intro v2 v3 S y2 y3 T h; rw [fX12_round_28] at h; cases h
  | succ n ih =>
    intro v2 v3 S y2 y3 T h k0
    rw [fX12_round_28] at h
    refine r_iload_n (x := v3) dX12_round_28 rfl ?_
    refine r_aload_n (x := 80) dX12_round_29 rfl ?_
    refine r_getfield (o := 80) (v := .int (S.1 80 1)) dX12_round_30 lX12_269 ck80 nC80 rfl ?_
    refine r_icmp_ge (tgt := 73) dX12_round_33 (by decide) (fun c9 => ?_) (fun c9 => ?_)
    · rw [if_pos c9] at h
      cases h
      exact k0
    · rw [if_neg c9] at h
      refine r_iload_n (x := v2) dX12_round_36 rfl ?_
      refine r_if_eq (tgt := 65) dX12_round_37 (by decide) (fun c10 => ?_) (fun c10 => ?_)
      · rw [if_pos c10] at h
        refine r_iconst (v := 0) dX12_round_65 rfl ?_
        refine r_istore_n (L' := [some (.ref 80), some (.int v1), some (.int 0), some (.int v3)]) dX12_round_66 (Nat.le_of_ble_eq_true rfl) rfl rfl ?_
        obtain ⟨x11, hx11⟩ : ∃ y : Int32, y = (v3 + 1 : Int32) := ⟨_, rfl⟩
        replace h := lt_e hx11 h
        refine r_iinc (x := v3) (v := x11) (L' := [some (.ref 80), some (.int v1), some (.int 0), some (.int x11)]) dX12_round_67 rfl (by rw [hx11]; rfl) (Nat.le_of_ble_eq_true rfl) rfl rfl ?_
        refine r_goto (tgt := 28) dX12_round_70 (by decide) ?_
        exact ih _ _ _ _ _ _ h k0
      · rw [if_neg c10] at h
        refine r_aload_n (x := 80) dX12_round_40 rfl ?_
        refine r_getfield (o := 80) (v := .ref 91) dX12_round_41 lX12_51 ck80 nC80 rfl ?_
        refine r_bipush (v := 74) dX12_round_44 rfl ?_
        refine r_iload_n (x := v3) dX12_round_46 rfl ?_
        refine r_iadd dX12_round_47 ?_
        obtain ⟨g12, h⟩ := gd_e h
        refine r_iaload (a := 91) dX12_round_48 ck91 nC91 (inr_IX g12) ?_
        refine r_aload_n (x := 80) dX12_round_49 rfl ?_
        refine r_getfield (o := 80) (v := .ref 91) dX12_round_50 lX12_51 ck80 nC80 rfl ?_
        refine r_bipush (v := 10) dX12_round_53 rfl ?_
        refine r_iload_n (x := v3) dX12_round_55 rfl ?_
        refine r_iadd dX12_round_56 ?_
        obtain ⟨g13, h⟩ := gd_e h
        refine r_iaload (a := 91) dX12_round_57 ck91 nC91 (inr_IX g13) ?_
        obtain ⟨x15, hx15⟩ : ∃ y : Int32, y = ((if (S.1 91 (ix (74 + v3))) = (S.1 91 (ix (10 + v3))) then 1 else 0) : Int32) := ⟨_, rfl⟩
        replace h := lt_e hx15 h
        have keyx15 : WP [] mX12_round 5 0 Q 66 [some (.ref 80), some (.int v1), some (.int v2), some (.int v3)] (.int x15 :: []) S u := by
          refine r_istore_n (L' := [some (.ref 80), some (.int v1), some (.int x15), some (.int v3)]) dX12_round_66 (Nat.le_of_ble_eq_true rfl) rfl rfl ?_
          obtain ⟨x16, hx16⟩ : ∃ y : Int32, y = (v3 + 1 : Int32) := ⟨_, rfl⟩
          replace h := lt_e hx16 h
          refine r_iinc (x := v3) (v := x16) (L' := [some (.ref 80), some (.int v1), some (.int x15), some (.int x16)]) dX12_round_67 rfl (by rw [hx16]; rfl) (Nat.le_of_ble_eq_true rfl) rfl rfl ?_
          refine r_goto (tgt := 28) dX12_round_70 (by decide) ?_
          exact ih _ _ _ _ _ _ h k0
        refine r_icmp_ne (tgt := 65) dX12_round_58 (by decide) (fun c14 => ?_) (fun c14 => ?_)
        · refine r_iconst (v := 0) dX12_round_65 rfl ?_
          exact r_tope (by rw [hx15, if_neg c14]) keyx15
        · refine r_iconst (v := 1) dX12_round_61 rfl ?_
          refine r_goto (tgt := 66) dX12_round_62 (by decide) ?_
          exact r_tope (by rw [hx15, if_pos c14]) keyx15
def fX12_round_11 (N : Nat)  : Nat → Int32 → PS → Option (Nat × Int32 × PS)
  | 0, _, _ => none
  | n + 1, v1, S =>
    (if 200 < v1 then
      some (0, v1, S)
    else
      bV (fX12_hourGoes N 64 S) fun S7 =>
      bT (fX12_round_28 N v1 N 1 0 S7) fun q17 =>
      lt (q17.1 : Int32) fun x18 =>
      lt (q17.2.1 : Int32) fun x19 =>
      lt (q17.2.2 : PS) fun S20 =>
      (if x18 = 0 then
        lt (v1 + 1 : Int32) fun x24 =>
        fX12_round_11 N  n x24 S20
      else
        some (1, v1, S20)))
set_option maxHeartbeats 4000000 in
set_option maxRecDepth 100000 in
theorem okX12_round_11 (N : Nat)  (Q : OQ) (u : Nat) (hu : u ≤ 0) : ∀ (n : Nat) (v1 : Int32) (S : PS) (tg : Nat) (y1 : Int32) (T : PS), fX12_round_11 N  n v1 S = some (tg, y1, T) → (tg = 0 → WP [] mX12_round 5 0 Q 85 [some (.ref 80), some (.int y1), none, none] [] T u) → (tg = 1 → WP [] mX12_round 5 0 Q 77 [some (.ref 80), some (.int y1), none, none] [] T u) → WP [] mX12_round 5 0 Q 11 [some (.ref 80), some (.int v1), none, none] [] S u := by
  intro n
  induction n with
  | zero => intro v1 S tg y1 T h; rw [fX12_round_11] at h; cases h
  | succ n ih =>
    intro v1 S tg y1 T h k0 k1
    rw [fX12_round_11] at h
    refine r_iload_n (x := v1) dX12_round_11 rfl ?_
    refine r_sipush (v := 200) dX12_round_12 rfl ?_
    refine r_icmp_gt (tgt := 85) dX12_round_15 (by decide) (fun c5 => ?_) (fun c5 => ?_)
    · rw [if_pos c5] at h
      cases h
      exact k0 rfl
    · rw [if_neg c5] at h
      refine r_aload_n (x := 80) dX12_round_18 rfl ?_
      refine r_bipush (v := 64) dX12_round_19 rfl ?_
      obtain ⟨S7, h8, h⟩ := bV_e h
      refine r_cVV (y := mX12_hourGoes) (As := [.int 64]) (rest := []) dX12_round_21 qX12_323 kX12_hourGoes rfl ob80 vc12 rfl (okX12_hourGoes N 64 S S7 h8) (by decide) hu rfl (Nat.le_of_ble_eq_true rfl) ?_
      refine r_iconst (v := 1) dX12_round_24 rfl ?_
      refine r_istore_n (L' := [some (.ref 80), some (.int v1), some (.int 1), none]) dX12_round_25 (Nat.le_of_ble_eq_true rfl) rfl rfl ?_
      refine r_iconst (v := 0) dX12_round_26 rfl ?_
      refine r_istore_n (L' := [some (.ref 80), some (.int v1), some (.int 1), some (.int 0)]) dX12_round_27 (Nat.le_of_ble_eq_true rfl) rfl rfl ?_
      obtain ⟨⟨x18, x19, S20⟩, h22, h⟩ := bT_e h
      dsimp only at h
      replace h := pl_s (pl_s (pl_s (h)))
      refine okX12_round_28 N v1 Q u hu _ _ _ _ _ _ _ h22 ?_
      refine r_iload_n (x := x18) dX12_round_73 rfl ?_
      refine r_if_eq (tgt := 79) dX12_round_74 (by decide) (fun c23 => ?_) (fun c23 => ?_)
      · rw [if_pos c23] at h
        obtain ⟨x24, hx24⟩ : ∃ y : Int32, y = (v1 + 1 : Int32) := ⟨_, rfl⟩
        replace h := lt_e hx24 h
        refine r_iinc (x := v1) (v := x24) (L' := [some (.ref 80), some (.int x24), some (.int x18), some (.int x19)]) dX12_round_79 rfl (by rw [hx24]; rfl) (Nat.le_of_ble_eq_true rfl) rfl rfl ?_
        refine r_goto (tgt := 11) dX12_round_82 (by decide) ?_
        refine r_drop [true, true, false, false] rfl ?_
        exact ih _ _ _ _ _ h k0 k1
      · rw [if_neg c23] at h
        cases h
        refine r_drop [true, true, false, false] rfl ?_
        exact k1 rfl
def fX12_round (N : Nat)  (S : PS) : Option (Int32 × PS) :=
  lt ((u2 S.1 80 0 0, S.2) : PS) fun S1 =>
  bV (fX12_tries N  S1) fun S3 =>
  bT (fX12_round_11 N  N 1 S3) fun q25 =>
  lt (q25.1 : Nat) fun t28 =>
  lt (q25.2.1 : Int32) fun x26 =>
  lt (q25.2.2 : PS) fun S27 =>
  (if t28 = 0 then
    some ((-1), S27)
  else 
    some (x26, S27))
set_option maxHeartbeats 4000000 in
set_option maxRecDepth 100000 in
theorem okX12_round (N : Nat)  (S : PS) (r : Int32) (T : PS) (h : fX12_round N  S = some (r, T)) : CT mX12_round 5 0 [.ref 80] S (qI r T) := by
  refine ct_of [some (.ref 80), none, none, none] rfl (fun _ => rfl) (fun _ => Nat.le_of_ble_eq_true rfl) ?_
  unfold fX12_round at h
  refine r_aload_n (x := 80) dX12_round_0 rfl ?_
  refine r_iconst (v := 0) dX12_round_1 rfl ?_
  refine r_putI dX12_round_2 lX12_114 ck80 nC80 ?_
  refine r_topS (fun S1 hS1 => ?_)
  replace h := lt_e hS1 h
  refine r_aload_n (x := 80) dX12_round_5 rfl ?_
  obtain ⟨S3, h4, h⟩ := bV_e h
  refine r_cVV (y := mX12_tries) (As := []) (rest := []) dX12_round_6 qX12_381 kX12_tries rfl ob80 vc12 rfl (okX12_tries N  S1 S3 h4) (by decide) (Nat.zero_le _) rfl (Nat.le_of_ble_eq_true rfl) ?_
  refine r_iconst (v := 1) dX12_round_9 rfl ?_
  refine r_istore_n (L' := [some (.ref 80), some (.int 1), none, none]) dX12_round_10 (Nat.le_of_ble_eq_true rfl) rfl rfl ?_
  obtain ⟨⟨t28, x26, S27⟩, h29, h⟩ := bT_e h
  dsimp only at h
  replace h := pl_s (pl_s (pl_s (h)))
  refine okX12_round_11 N  (qI r T) 0 (Nat.zero_le _) _ _ _ _ _ _ h29 (fun et28 => ?_) (fun et28 => ?_)
  · rw [if_pos et28] at h
    refine r_iconst (v := (-1)) dX12_round_85 rfl ?_
    cases h
    exact r_ireturn dX12_round_86 rfl (Nat.zero_le _) ⟨rfl, rfl⟩
  · rw [if_neg (by rw [et28]; decide)] at h
    refine r_iload_n (x := x26) dX12_round_77 rfl ?_
    cases h
    exact r_ireturn dX12_round_78 rfl (Nat.zero_le _) ⟨rfl, rfl⟩
def fX12_gives (N : Nat) (p0 : Int32) (p1 : Int32) (S : PS) : Option (Int32 × PS) :=
  gd (inr (19 + p0) 128) <|
  (if (S.1 91 (ix (19 + p0))) = p1 then
    gd (inr p0 9) <|
    some ((S.1 101 (ix p0)), S)
  else
    gd (inr (28 + p0) 128) <|
    (if (S.1 91 (ix (28 + p0))) = p1 then
      gd (inr p0 9) <|
      some ((S.1 102 (ix p0)), S)
    else
      some (0, S)))
set_option maxHeartbeats 4000000 in
set_option maxRecDepth 100000 in
theorem okX12_gives (N : Nat) (p0 : Int32) (p1 : Int32) (S : PS) (r : Int32) (T : PS) (h : fX12_gives N p0 p1 S = some (r, T)) : CT mX12_gives 0 0 [.ref 80, .int p0, .int p1] S (qI r T) := by
  refine ct_of [some (.ref 80), some (.int p0), some (.int p1)] rfl (fun _ => rfl) (fun _ => Nat.le_of_ble_eq_true rfl) ?_
  unfold fX12_gives at h
  refine r_aload_n (x := 80) dX12_gives_0 rfl ?_
  refine r_getfield (o := 80) (v := .ref 91) dX12_gives_1 lX12_51 ck80 nC80 rfl ?_
  refine r_bipush (v := 19) dX12_gives_4 rfl ?_
  refine r_iload_n (x := p0) dX12_gives_6 rfl ?_
  refine r_iadd dX12_gives_7 ?_
  obtain ⟨g1, h⟩ := gd_e h
  refine r_iaload (a := 91) dX12_gives_8 ck91 nC91 (inr_IX g1) ?_
  refine r_iload_n (x := p1) dX12_gives_9 rfl ?_
  refine r_icmp_ne (tgt := 22) dX12_gives_10 (by decide) (fun c2 => ?_) (fun c2 => ?_)
  · rw [if_neg c2] at h
    refine r_aload_n (x := 80) dX12_gives_22 rfl ?_
    refine r_getfield (o := 80) (v := .ref 91) dX12_gives_23 lX12_51 ck80 nC80 rfl ?_
    refine r_bipush (v := 28) dX12_gives_26 rfl ?_
    refine r_iload_n (x := p0) dX12_gives_28 rfl ?_
    refine r_iadd dX12_gives_29 ?_
    obtain ⟨g3, h⟩ := gd_e h
    refine r_iaload (a := 91) dX12_gives_30 ck91 nC91 (inr_IX g3) ?_
    refine r_iload_n (x := p1) dX12_gives_31 rfl ?_
    refine r_icmp_ne (tgt := 44) dX12_gives_32 (by decide) (fun c4 => ?_) (fun c4 => ?_)
    · rw [if_neg c4] at h
      refine r_iconst (v := 0) dX12_gives_44 rfl ?_
      cases h
      exact r_ireturn dX12_gives_45 rfl (Nat.zero_le _) ⟨rfl, rfl⟩
    · rw [if_pos c4] at h
      refine r_aload_n (x := 80) dX12_gives_35 rfl ?_
      refine r_getfield (o := 80) (v := .ref 102) dX12_gives_36 lX12_87 ck80 nC80 rfl ?_
      refine r_iload_n (x := p0) dX12_gives_39 rfl ?_
      obtain ⟨g5, h⟩ := gd_e h
      refine r_iaload (a := 102) dX12_gives_40 ck102 nC102 (inr_IX g5) ?_
      refine r_goto (tgt := 45) dX12_gives_41 (by decide) ?_
      cases h
      exact r_ireturn dX12_gives_45 rfl (Nat.zero_le _) ⟨rfl, rfl⟩
  · rw [if_pos c2] at h
    refine r_aload_n (x := 80) dX12_gives_13 rfl ?_
    refine r_getfield (o := 80) (v := .ref 101) dX12_gives_14 lX12_84 ck80 nC80 rfl ?_
    refine r_iload_n (x := p0) dX12_gives_17 rfl ?_
    obtain ⟨g6, h⟩ := gd_e h
    refine r_iaload (a := 101) dX12_gives_18 ck101 nC101 (inr_IX g6) ?_
    refine r_goto (tgt := 45) dX12_gives_19 (by decide) ?_
    cases h
    exact r_ireturn dX12_gives_45 rfl (Nat.zero_le _) ⟨rfl, rfl⟩
def fX12_tier_55 (N : Nat) (v1 : Int32) (v2 : Int32) (v4 : Int32) (v5 : Int32) : Nat → Int32 → Int32 → PS → Option (Int32 × Int32 × PS)
  | 0, _, _, _ => none
  | n + 1, v3, v6, S =>
    (if (S.1 80 1) ≤ v6 then
      some (v3, v6, S)
    else
      bI (fX12_goesInto N v5 v6 S) fun x14 S15 =>
      (if x14 = 0 then
        lt (v6 + 1 : Int32) fun x18 =>
        fX12_tier_55 N v1 v2 v4 v5 n v3 x18 S15
      else
        lt ((if v2 = 0 then (((v3 >>> (v6 &&& 31)) &&& 1) <<< (v5 &&& 31)) else (((v3 >>> (v5 &&& 31)) &&& 1) <<< (v6 &&& 31))) : Int32) fun x20 =>
        lt ((v3 ||| x20) : Int32) fun x21 =>
        lt (v6 + 1 : Int32) fun x22 =>
        fX12_tier_55 N v1 v2 v4 v5 n x21 x22 S15))
set_option maxHeartbeats 4000000 in
set_option maxRecDepth 100000 in
theorem okX12_tier_55 (N : Nat) (v1 : Int32) (v2 : Int32) (v4 : Int32) (v5 : Int32) (Q : OQ) (u : Nat) (hu : u ≤ 0) : ∀ (n : Nat) (v3 : Int32) (v6 : Int32) (S : PS) (y3 : Int32) (y6 : Int32) (T : PS), fX12_tier_55 N v1 v2 v4 v5 n v3 v6 S = some (y3, y6, T) → WP [] mX12_tier 2 0 Q 109 [some (.ref 80), some (.int v1), some (.int v2), some (.int y3), some (.int v4), some (.int v5), some (.int y6)] [] T u → WP [] mX12_tier 2 0 Q 55 [some (.ref 80), some (.int v1), some (.int v2), some (.int v3), some (.int v4), some (.int v5), some (.int v6)] [] S u := by
  intro n
  induction n with
  | zero => intro v3 v6 S y3 y6 T h; rw [fX12_tier_55] at h; cases h
  | succ n ih =>
    intro v3 v6 S y3 y6 T h k0
    rw [fX12_tier_55] at h
    refine r_iload (x := v6) dX12_tier_55 rfl ?_
    refine r_aload_n (x := 80) dX12_tier_57 rfl ?_
    refine r_getfield (o := 80) (v := .int (S.1 80 1)) dX12_tier_58 lX12_269 ck80 nC80 rfl ?_
    refine r_icmp_ge (tgt := 109) dX12_tier_61 (by decide) (fun c13 => ?_) (fun c13 => ?_)
    · rw [if_pos c13] at h
      cases h
      exact k0
    · rw [if_neg c13] at h
      refine r_aload_n (x := 80) dX12_tier_64 rfl ?_
      refine r_iload (x := v5) dX12_tier_65 rfl ?_
      refine r_iload (x := v6) dX12_tier_67 rfl ?_
      obtain ⟨x14, S15, h16, h⟩ := bI_e h
      refine r_cVI (y := mX12_goesInto) (As := [.int v5, .int v6]) (rest := []) dX12_tier_69 qX12_329 kX12_goesInto rfl ob80 vc12 rfl (okX12_goesInto N v5 v6 S x14 S15 h16) (by decide) hu rfl (Nat.le_of_ble_eq_true rfl) ?_
      refine r_if_eq (tgt := 103) dX12_tier_72 (by decide) (fun c17 => ?_) (fun c17 => ?_)
      · rw [if_pos c17] at h
        obtain ⟨x18, hx18⟩ : ∃ y : Int32, y = (v6 + 1 : Int32) := ⟨_, rfl⟩
        replace h := lt_e hx18 h
        refine r_iinc (x := v6) (v := x18) (L' := [some (.ref 80), some (.int v1), some (.int v2), some (.int v3), some (.int v4), some (.int v5), some (.int x18)]) dX12_tier_103 rfl (by rw [hx18]; rfl) (Nat.le_of_ble_eq_true rfl) rfl rfl ?_
        refine r_goto (tgt := 55) dX12_tier_106 (by decide) ?_
        exact ih _ _ _ _ _ _ h k0
      · rw [if_neg c17] at h
        refine r_iload_n (x := v3) dX12_tier_75 rfl ?_
        refine r_iload_n (x := v2) dX12_tier_76 rfl ?_
        obtain ⟨x20, hx20⟩ : ∃ y : Int32, y = ((if v2 = 0 then (((v3 >>> (v6 &&& 31)) &&& 1) <<< (v5 &&& 31)) else (((v3 >>> (v5 &&& 31)) &&& 1) <<< (v6 &&& 31))) : Int32) := ⟨_, rfl⟩
        replace h := lt_e hx20 h
        have keyx20 : WP [] mX12_tier 2 0 Q 101 [some (.ref 80), some (.int v1), some (.int v2), some (.int v3), some (.int v4), some (.int v5), some (.int v6)] (.int x20 :: [.int v3]) S15 u := by
          refine r_ior dX12_tier_101 ?_
          refine r_topi (fun x21 hx21 => ?_)
          replace h := lt_e hx21 h
          refine r_istore_n (L' := [some (.ref 80), some (.int v1), some (.int v2), some (.int x21), some (.int v4), some (.int v5), some (.int v6)]) dX12_tier_102 (Nat.le_of_ble_eq_true rfl) rfl rfl ?_
          obtain ⟨x22, hx22⟩ : ∃ y : Int32, y = (v6 + 1 : Int32) := ⟨_, rfl⟩
          replace h := lt_e hx22 h
          refine r_iinc (x := v6) (v := x22) (L' := [some (.ref 80), some (.int v1), some (.int v2), some (.int x21), some (.int v4), some (.int v5), some (.int x22)]) dX12_tier_103 rfl (by rw [hx22]; rfl) (Nat.le_of_ble_eq_true rfl) rfl rfl ?_
          refine r_goto (tgt := 55) dX12_tier_106 (by decide) ?_
          exact ih _ _ _ _ _ _ h k0
        refine r_if_ne (tgt := 92) dX12_tier_77 (by decide) (fun c19 => ?_) (fun c19 => ?_)
        · refine r_iload_n (x := v3) dX12_tier_92 rfl ?_
          refine r_iload (x := v5) dX12_tier_93 rfl ?_
          refine r_ishr dX12_tier_95 ?_
          refine r_iconst (v := 1) dX12_tier_96 rfl ?_
          refine r_iand dX12_tier_97 ?_
          refine r_iload (x := v6) dX12_tier_98 rfl ?_
          refine r_ishl dX12_tier_100 ?_
          exact r_tope (by rw [hx20, if_neg c19]) keyx20
        · refine r_iload_n (x := v3) dX12_tier_80 rfl ?_
          refine r_iload (x := v6) dX12_tier_81 rfl ?_
          refine r_ishr dX12_tier_83 ?_
          refine r_iconst (v := 1) dX12_tier_84 rfl ?_
          refine r_iand dX12_tier_85 ?_
          refine r_iload (x := v5) dX12_tier_86 rfl ?_
          refine r_ishl dX12_tier_88 ?_
          refine r_goto (tgt := 101) dX12_tier_89 (by decide) ?_
          exact r_tope (by rw [hx20, if_pos c19]) keyx20
def fX12_tier_43 (N : Nat) (v1 : Int32) (v2 : Int32) (v4 : Int32) : Nat → Int32 → Int32 → PS → Option (Int32 × Int32 × PS)
  | 0, _, _, _ => none
  | n + 1, v3, v5, S =>
    (if (S.1 80 1) ≤ v5 then
      some (v3, v5, S)
    else
      bT (fX12_tier_55 N v1 v2 v4 v5 N v3 0 S) fun q23 =>
      lt (q23.1 : Int32) fun x24 =>
      lt (q23.2.1 : Int32) fun x25 =>
      lt (q23.2.2 : PS) fun S26 =>
      lt (v5 + 1 : Int32) fun x29 =>
      fX12_tier_43 N v1 v2 v4 n x24 x29 S26)
set_option maxHeartbeats 4000000 in
set_option maxRecDepth 100000 in
theorem okX12_tier_43 (N : Nat) (v1 : Int32) (v2 : Int32) (v4 : Int32) (Q : OQ) (u : Nat) (hu : u ≤ 0) : ∀ (n : Nat) (v3 : Int32) (v5 : Int32) (S : PS) (y3 : Int32) (y5 : Int32) (T : PS), fX12_tier_43 N v1 v2 v4 n v3 v5 S = some (y3, y5, T) → WP [] mX12_tier 2 0 Q 115 [some (.ref 80), some (.int v1), some (.int v2), some (.int y3), some (.int v4), some (.int y5), none] [] T u → WP [] mX12_tier 2 0 Q 43 [some (.ref 80), some (.int v1), some (.int v2), some (.int v3), some (.int v4), some (.int v5), none] [] S u := by
  intro n
  induction n with
  | zero => intro v3 v5 S y3 y5 T h; rw [fX12_tier_43] at h; cases h
  | succ n ih =>
    intro v3 v5 S y3 y5 T h k0
    rw [fX12_tier_43] at h
    refine r_iload (x := v5) dX12_tier_43 rfl ?_
    refine r_aload_n (x := 80) dX12_tier_45 rfl ?_
    refine r_getfield (o := 80) (v := .int (S.1 80 1)) dX12_tier_46 lX12_269 ck80 nC80 rfl ?_
    refine r_icmp_ge (tgt := 115) dX12_tier_49 (by decide) (fun c12 => ?_) (fun c12 => ?_)
    · rw [if_pos c12] at h
      cases h
      exact k0
    · rw [if_neg c12] at h
      refine r_iconst (v := 0) dX12_tier_52 rfl ?_
      refine r_istore (L' := [some (.ref 80), some (.int v1), some (.int v2), some (.int v3), some (.int v4), some (.int v5), some (.int 0)]) dX12_tier_53 (Nat.le_of_ble_eq_true rfl) rfl rfl ?_
      obtain ⟨⟨x24, x25, S26⟩, h28, h⟩ := bT_e h
      dsimp only at h
      replace h := pl_s (pl_s (pl_s (h)))
      refine okX12_tier_55 N v1 v2 v4 v5 Q u hu _ _ _ _ _ _ _ h28 ?_
      obtain ⟨x29, hx29⟩ : ∃ y : Int32, y = (v5 + 1 : Int32) := ⟨_, rfl⟩
      replace h := lt_e hx29 h
      refine r_iinc (x := v5) (v := x29) (L' := [some (.ref 80), some (.int v1), some (.int v2), some (.int x24), some (.int v4), some (.int x29), some (.int x25)]) dX12_tier_109 rfl (by rw [hx29]; rfl) (Nat.le_of_ble_eq_true rfl) rfl rfl ?_
      refine r_goto (tgt := 43) dX12_tier_112 (by decide) ?_
      refine r_drop [true, true, true, true, true, true, false] rfl ?_
      exact ih _ _ _ _ _ _ h k0
def fX12_tier_31 (N : Nat) (v1 : Int32) (v2 : Int32) : Nat → Int32 → Int32 → PS → Option (Int32 × Int32 × PS)
  | 0, _, _, _ => none
  | n + 1, v3, v4, S =>
    (if (S.1 80 1) ≤ v4 then
      some (v3, v4, S)
    else
      bT (fX12_tier_43 N v1 v2 v4 N v3 0 S) fun q30 =>
      lt (q30.1 : Int32) fun x31 =>
      lt (q30.2.1 : Int32) fun x32 =>
      lt (q30.2.2 : PS) fun S33 =>
      lt (v4 + 1 : Int32) fun x36 =>
      fX12_tier_31 N v1 v2 n x31 x36 S33)
set_option maxHeartbeats 4000000 in
set_option maxRecDepth 100000 in
theorem okX12_tier_31 (N : Nat) (v1 : Int32) (v2 : Int32) (Q : OQ) (u : Nat) (hu : u ≤ 0) : ∀ (n : Nat) (v3 : Int32) (v4 : Int32) (S : PS) (y3 : Int32) (y4 : Int32) (T : PS), fX12_tier_31 N v1 v2 n v3 v4 S = some (y3, y4, T) → WP [] mX12_tier 2 0 Q 121 [some (.ref 80), some (.int v1), some (.int v2), some (.int y3), some (.int y4), none, none] [] T u → WP [] mX12_tier 2 0 Q 31 [some (.ref 80), some (.int v1), some (.int v2), some (.int v3), some (.int v4), none, none] [] S u := by
  intro n
  induction n with
  | zero => intro v3 v4 S y3 y4 T h; rw [fX12_tier_31] at h; cases h
  | succ n ih =>
    intro v3 v4 S y3 y4 T h k0
    rw [fX12_tier_31] at h
    refine r_iload (x := v4) dX12_tier_31 rfl ?_
    refine r_aload_n (x := 80) dX12_tier_33 rfl ?_
    refine r_getfield (o := 80) (v := .int (S.1 80 1)) dX12_tier_34 lX12_269 ck80 nC80 rfl ?_
    refine r_icmp_ge (tgt := 121) dX12_tier_37 (by decide) (fun c11 => ?_) (fun c11 => ?_)
    · rw [if_pos c11] at h
      cases h
      exact k0
    · rw [if_neg c11] at h
      refine r_iconst (v := 0) dX12_tier_40 rfl ?_
      refine r_istore (L' := [some (.ref 80), some (.int v1), some (.int v2), some (.int v3), some (.int v4), some (.int 0), none]) dX12_tier_41 (Nat.le_of_ble_eq_true rfl) rfl rfl ?_
      obtain ⟨⟨x31, x32, S33⟩, h35, h⟩ := bT_e h
      dsimp only at h
      replace h := pl_s (pl_s (pl_s (h)))
      refine okX12_tier_43 N v1 v2 v4 Q u hu _ _ _ _ _ _ _ h35 ?_
      obtain ⟨x36, hx36⟩ : ∃ y : Int32, y = (v4 + 1 : Int32) := ⟨_, rfl⟩
      replace h := lt_e hx36 h
      refine r_iinc (x := v4) (v := x36) (L' := [some (.ref 80), some (.int v1), some (.int v2), some (.int x31), some (.int x36), some (.int x32), none]) dX12_tier_115 rfl (by rw [hx36]; rfl) (Nat.le_of_ble_eq_true rfl) rfl rfl ?_
      refine r_goto (tgt := 31) dX12_tier_118 (by decide) ?_
      refine r_drop [true, true, true, true, true, false, true] rfl ?_
      exact ih _ _ _ _ _ _ h k0
def fX12_tier (N : Nat) (p0 : Int32) (p1 : Int32) (S : PS) : Option (Int32 × PS) :=
  lt ((u2 S.1 80 0 0, S.2) : PS) fun S1 =>
  bI (fX12_isCup N p0 S1) fun x2 S3 =>
  (if x2 = 0 then
    some (0, S3)
  else
    bI (fX12_isWhat N p1 1 S3) fun x6 S7 =>
    (if x6 = 0 then
      some (0, S7)
    else
      lt ((1 <<< (p0 &&& 31)) : Int32) fun x10 =>
      bT (fX12_tier_31 N p0 p1 N x10 0 S7) fun q37 =>
      lt (q37.1 : Int32) fun x38 =>
      lt (q37.2.1 : Int32) fun x39 =>
      lt (q37.2.2 : PS) fun S40 =>
      some ((x38 &&& ((1 <<< (p0 &&& 31)) ^^^ (-1))), S40)))
set_option maxHeartbeats 4000000 in
set_option maxRecDepth 100000 in
theorem okX12_tier (N : Nat) (p0 : Int32) (p1 : Int32) (S : PS) (r : Int32) (T : PS) (h : fX12_tier N p0 p1 S = some (r, T)) : CT mX12_tier 2 0 [.ref 80, .int p0, .int p1] S (qI r T) := by
  refine ct_of [some (.ref 80), some (.int p0), some (.int p1), none, none, none, none] rfl (fun _ => rfl) (fun _ => Nat.le_of_ble_eq_true rfl) ?_
  unfold fX12_tier at h
  refine r_aload_n (x := 80) dX12_tier_0 rfl ?_
  refine r_iconst (v := 0) dX12_tier_1 rfl ?_
  refine r_putI dX12_tier_2 lX12_114 ck80 nC80 ?_
  refine r_topS (fun S1 hS1 => ?_)
  replace h := lt_e hS1 h
  refine r_aload_n (x := 80) dX12_tier_5 rfl ?_
  refine r_iload_n (x := p0) dX12_tier_6 rfl ?_
  obtain ⟨x2, S3, h4, h⟩ := bI_e h
  refine r_cVI (y := mX12_isCup) (As := [.int p0]) (rest := []) dX12_tier_7 qX12_351 kX12_isCup rfl ob80 vc12 rfl (okX12_isCup N p0 S1 x2 S3 h4) (by decide) (Nat.zero_le _) rfl (Nat.le_of_ble_eq_true rfl) ?_
  refine r_if_eq (tgt := 22) dX12_tier_10 (by decide) (fun c5 => ?_) (fun c5 => ?_)
  · rw [if_pos c5] at h
    refine r_iconst (v := 0) dX12_tier_22 rfl ?_
    cases h
    exact r_ireturn dX12_tier_23 rfl (Nat.zero_le _) ⟨rfl, rfl⟩
  · rw [if_neg c5] at h
    refine r_aload_n (x := 80) dX12_tier_13 rfl ?_
    refine r_iload_n (x := p1) dX12_tier_14 rfl ?_
    refine r_iconst (v := 1) dX12_tier_15 rfl ?_
    obtain ⟨x6, S7, h8, h⟩ := bI_e h
    refine r_cVI (y := mX12_isWhat) (As := [.int p1, .int 1]) (rest := []) dX12_tier_16 qX12_354 kX12_isWhat rfl ob80 vc12 rfl (okX12_isWhat N p1 1 S3 x6 S7 h8) (by decide) (Nat.zero_le _) rfl (Nat.le_of_ble_eq_true rfl) ?_
    refine r_if_ne (tgt := 24) dX12_tier_19 (by decide) (fun c9 => ?_) (fun c9 => ?_)
    · rw [if_neg c9] at h
      refine r_iconst (v := 1) dX12_tier_24 rfl ?_
      refine r_iload_n (x := p0) dX12_tier_25 rfl ?_
      refine r_ishl dX12_tier_26 ?_
      refine r_topi (fun x10 hx10 => ?_)
      replace h := lt_e hx10 h
      refine r_istore_n (L' := [some (.ref 80), some (.int p0), some (.int p1), some (.int x10), none, none, none]) dX12_tier_27 (Nat.le_of_ble_eq_true rfl) rfl rfl ?_
      refine r_iconst (v := 0) dX12_tier_28 rfl ?_
      refine r_istore (L' := [some (.ref 80), some (.int p0), some (.int p1), some (.int x10), some (.int 0), none, none]) dX12_tier_29 (Nat.le_of_ble_eq_true rfl) rfl rfl ?_
      obtain ⟨⟨x38, x39, S40⟩, h42, h⟩ := bT_e h
      dsimp only at h
      replace h := pl_s (pl_s (pl_s (h)))
      refine okX12_tier_31 N p0 p1 (qI r T) 0 (Nat.zero_le _) _ _ _ _ _ _ _ h42 ?_
      refine r_iload_n (x := x38) dX12_tier_121 rfl ?_
      refine r_iconst (v := 1) dX12_tier_122 rfl ?_
      refine r_iload_n (x := p0) dX12_tier_123 rfl ?_
      refine r_ishl dX12_tier_124 ?_
      refine r_iconst (v := (-1)) dX12_tier_125 rfl ?_
      refine r_ixor dX12_tier_126 ?_
      refine r_iand dX12_tier_127 ?_
      cases h
      exact r_ireturn dX12_tier_128 rfl (Nat.zero_le _) ⟨rfl, rfl⟩
    · rw [if_pos c9] at h
      refine r_iconst (v := 0) dX12_tier_22 rfl ?_
      cases h
      exact r_ireturn dX12_tier_23 rfl (Nat.zero_le _) ⟨rfl, rfl⟩
def fX12_ways_52 (N : Nat) (v1 : Int32) (v2 : Int32) (v3 : Int32) : Nat → Int32 → PS → Option (Int32 × PS)
  | 0, _, _ => none
  | n + 1, v4, S =>
    (if v3 ≤ v4 then
      some (v4, S)
    else
      gd (inr v3 9) <|
      bI (fX12_goesInto N v4 v3 S) fun x17 S18 =>
      (if x17 = 0 then
        gd (inr v3 9) <|
        lt ((u2 S18.1 104 (ix v3) ((S.1 104 (ix v3)) + 0), S18.2) : PS) fun S22 =>
        lt (v4 + 1 : Int32) fun x23 =>
        fX12_ways_52 N v1 v2 v3 n x23 S22
      else
        gd (inr v4 9) <|
        gd (inr v3 9) <|
        lt ((u2 S18.1 104 (ix v3) ((S.1 104 (ix v3)) + (S18.1 104 (ix v4))), S18.2) : PS) fun S26 =>
        lt (v4 + 1 : Int32) fun x27 =>
        fX12_ways_52 N v1 v2 v3 n x27 S26))
set_option maxHeartbeats 4000000 in
set_option maxRecDepth 100000 in
theorem okX12_ways_52 (N : Nat) (v1 : Int32) (v2 : Int32) (v3 : Int32) (Q : OQ) (u : Nat) (hu : u ≤ 0) : ∀ (n : Nat) (v4 : Int32) (S : PS) (y4 : Int32) (T : PS), fX12_ways_52 N v1 v2 v3 n v4 S = some (y4, T) → WP [] mX12_ways 2 0 Q 94 [some (.ref 80), some (.int v1), some (.int v2), some (.int v3), some (.int y4)] [] T u → WP [] mX12_ways 2 0 Q 52 [some (.ref 80), some (.int v1), some (.int v2), some (.int v3), some (.int v4)] [] S u := by
  intro n
  induction n with
  | zero => intro v4 S y4 T h; rw [fX12_ways_52] at h; cases h
  | succ n ih =>
    intro v4 S y4 T h k0
    rw [fX12_ways_52] at h
    refine r_iload (x := v4) dX12_ways_52 rfl ?_
    refine r_iload_n (x := v3) dX12_ways_54 rfl ?_
    refine r_icmp_ge (tgt := 94) dX12_ways_55 (by decide) (fun c15 => ?_) (fun c15 => ?_)
    · rw [if_pos c15] at h
      cases h
      exact k0
    · rw [if_neg c15] at h
      refine r_aload_n (x := 80) dX12_ways_58 rfl ?_
      refine r_getfield (o := 80) (v := .ref 104) dX12_ways_59 lX12_93 ck80 nC80 rfl ?_
      refine r_iload_n (x := v3) dX12_ways_62 rfl ?_
      refine r_dup2 dX12_ways_63 ?_
      obtain ⟨g16, h⟩ := gd_e h
      refine r_iaload (a := 104) dX12_ways_64 ck104 nC104 (inr_IX g16) ?_
      refine r_aload_n (x := 80) dX12_ways_65 rfl ?_
      refine r_iload (x := v4) dX12_ways_66 rfl ?_
      refine r_iload_n (x := v3) dX12_ways_68 rfl ?_
      obtain ⟨x17, S18, h19, h⟩ := bI_e h
      refine r_cVI (y := mX12_goesInto) (As := [.int v4, .int v3]) (rest := [.int (S.1 104 (ix v3)), .int v3, .ref 104]) dX12_ways_69 qX12_329 kX12_goesInto rfl ob80 vc12 rfl (okX12_goesInto N v4 v3 S x17 S18 h19) (by decide) hu rfl (Nat.le_of_ble_eq_true rfl) ?_
      refine r_if_eq (tgt := 85) dX12_ways_72 (by decide) (fun c20 => ?_) (fun c20 => ?_)
      · rw [if_pos c20] at h
        refine r_iconst (v := 0) dX12_ways_85 rfl ?_
        refine r_iadd dX12_ways_86 ?_
        obtain ⟨g21, h⟩ := gd_e h
        refine r_iastore (a := 104) dX12_ways_87 ck104 nC104 (inr_IX g21) ?_
        refine r_topS (fun S22 hS22 => ?_)
        replace h := lt_e hS22 h
        obtain ⟨x23, hx23⟩ : ∃ y : Int32, y = (v4 + 1 : Int32) := ⟨_, rfl⟩
        replace h := lt_e hx23 h
        refine r_iinc (x := v4) (v := x23) (L' := [some (.ref 80), some (.int v1), some (.int v2), some (.int v3), some (.int x23)]) dX12_ways_88 rfl (by rw [hx23]; rfl) (Nat.le_of_ble_eq_true rfl) rfl rfl ?_
        refine r_goto (tgt := 52) dX12_ways_91 (by decide) ?_
        exact ih _ _ _ _ h k0
      · rw [if_neg c20] at h
        refine r_aload_n (x := 80) dX12_ways_75 rfl ?_
        refine r_getfield (o := 80) (v := .ref 104) dX12_ways_76 lX12_93 ck80 nC80 rfl ?_
        refine r_iload (x := v4) dX12_ways_79 rfl ?_
        obtain ⟨g24, h⟩ := gd_e h
        refine r_iaload (a := 104) dX12_ways_81 ck104 nC104 (inr_IX g24) ?_
        refine r_goto (tgt := 86) dX12_ways_82 (by decide) ?_
        refine r_iadd dX12_ways_86 ?_
        obtain ⟨g25, h⟩ := gd_e h
        refine r_iastore (a := 104) dX12_ways_87 ck104 nC104 (inr_IX g25) ?_
        refine r_topS (fun S26 hS26 => ?_)
        replace h := lt_e hS26 h
        obtain ⟨x27, hx27⟩ : ∃ y : Int32, y = (v4 + 1 : Int32) := ⟨_, rfl⟩
        replace h := lt_e hx27 h
        refine r_iinc (x := v4) (v := x27) (L' := [some (.ref 80), some (.int v1), some (.int v2), some (.int v3), some (.int x27)]) dX12_ways_88 rfl (by rw [hx27]; rfl) (Nat.le_of_ble_eq_true rfl) rfl rfl ?_
        refine r_goto (tgt := 52) dX12_ways_91 (by decide) ?_
        exact ih _ _ _ _ h k0
def fX12_ways_25 (N : Nat) (v1 : Int32) (v2 : Int32) : Nat → Int32 → PS → Option (Int32 × PS)
  | 0, _, _ => none
  | n + 1, v3, S =>
    (if (S.1 80 1) ≤ v3 then
      some (v3, S)
    else
      lt ((if v3 = v1 then 1 else 0) : Int32) fun x12 =>
      gd (inr v3 9) <|
      lt ((u2 S.1 104 (ix v3) x12, S.2) : PS) fun S14 =>
      bT (fX12_ways_52 N v1 v2 v3 N 0 S14) fun q28 =>
      lt (q28.1 : Int32) fun x29 =>
      lt (q28.2 : PS) fun S30 =>
      lt (v3 + 1 : Int32) fun x33 =>
      fX12_ways_25 N v1 v2 n x33 S30)
set_option maxHeartbeats 4000000 in
set_option maxRecDepth 100000 in
theorem okX12_ways_25 (N : Nat) (v1 : Int32) (v2 : Int32) (Q : OQ) (u : Nat) (hu : u ≤ 0) : ∀ (n : Nat) (v3 : Int32) (S : PS) (y3 : Int32) (T : PS), fX12_ways_25 N v1 v2 n v3 S = some (y3, T) → WP [] mX12_ways 2 0 Q 100 [some (.ref 80), some (.int v1), some (.int v2), some (.int y3), none] [] T u → WP [] mX12_ways 2 0 Q 25 [some (.ref 80), some (.int v1), some (.int v2), some (.int v3), none] [] S u := by
  intro n
  induction n with
  | zero => intro v3 S y3 T h; rw [fX12_ways_25] at h; cases h
  | succ n ih =>
    intro v3 S y3 T h k0
    rw [fX12_ways_25] at h
    refine r_iload_n (x := v3) dX12_ways_25 rfl ?_
    refine r_aload_n (x := 80) dX12_ways_26 rfl ?_
    refine r_getfield (o := 80) (v := .int (S.1 80 1)) dX12_ways_27 lX12_269 ck80 nC80 rfl ?_
    refine r_icmp_ge (tgt := 100) dX12_ways_30 (by decide) (fun c10 => ?_) (fun c10 => ?_)
    · rw [if_pos c10] at h
      cases h
      exact k0
    · rw [if_neg c10] at h
      refine r_aload_n (x := 80) dX12_ways_33 rfl ?_
      refine r_getfield (o := 80) (v := .ref 104) dX12_ways_34 lX12_93 ck80 nC80 rfl ?_
      refine r_iload_n (x := v3) dX12_ways_37 rfl ?_
      refine r_iload_n (x := v3) dX12_ways_38 rfl ?_
      refine r_iload_n (x := v1) dX12_ways_39 rfl ?_
      obtain ⟨x12, hx12⟩ : ∃ y : Int32, y = ((if v3 = v1 then 1 else 0) : Int32) := ⟨_, rfl⟩
      replace h := lt_e hx12 h
      have keyx12 : WP [] mX12_ways 2 0 Q 48 [some (.ref 80), some (.int v1), some (.int v2), some (.int v3), none] (.int x12 :: [.int v3, .ref 104]) S u := by
        obtain ⟨g13, h⟩ := gd_e h
        refine r_iastore (a := 104) dX12_ways_48 ck104 nC104 (inr_IX g13) ?_
        refine r_topS (fun S14 hS14 => ?_)
        replace h := lt_e hS14 h
        refine r_iconst (v := 0) dX12_ways_49 rfl ?_
        refine r_istore (L' := [some (.ref 80), some (.int v1), some (.int v2), some (.int v3), some (.int 0)]) dX12_ways_50 (Nat.le_of_ble_eq_true rfl) rfl rfl ?_
        obtain ⟨⟨x29, S30⟩, h32, h⟩ := bT_e h
        dsimp only at h
        replace h := pl_s (pl_s (h))
        refine okX12_ways_52 N v1 v2 v3 Q u hu _ _ _ _ _ h32 ?_
        obtain ⟨x33, hx33⟩ : ∃ y : Int32, y = (v3 + 1 : Int32) := ⟨_, rfl⟩
        replace h := lt_e hx33 h
        refine r_iinc (x := v3) (v := x33) (L' := [some (.ref 80), some (.int v1), some (.int v2), some (.int x33), some (.int x29)]) dX12_ways_94 rfl (by rw [hx33]; rfl) (Nat.le_of_ble_eq_true rfl) rfl rfl ?_
        refine r_goto (tgt := 25) dX12_ways_97 (by decide) ?_
        refine r_drop [true, true, true, true, false] rfl ?_
        exact ih _ _ _ _ h k0
      refine r_icmp_ne (tgt := 47) dX12_ways_40 (by decide) (fun c11 => ?_) (fun c11 => ?_)
      · refine r_iconst (v := 0) dX12_ways_47 rfl ?_
        exact r_tope (by rw [hx12, if_neg c11]) keyx12
      · refine r_iconst (v := 1) dX12_ways_43 rfl ?_
        refine r_goto (tgt := 48) dX12_ways_44 (by decide) ?_
        exact r_tope (by rw [hx12, if_pos c11]) keyx12
def fX12_ways (N : Nat) (p0 : Int32) (p1 : Int32) (S : PS) : Option (Int32 × PS) :=
  lt ((u2 S.1 80 0 0, S.2) : PS) fun S1 =>
  bI (fX12_isCup N p0 S1) fun x2 S3 =>
  (if x2 = 0 then
    some (0, S3)
  else
    bI (fX12_isCup N p1 S3) fun x6 S7 =>
    (if x6 = 0 then
      some (0, S7)
    else
      bT (fX12_ways_25 N p0 p1 N 0 S7) fun q34 =>
      lt (q34.1 : Int32) fun x35 =>
      lt (q34.2 : PS) fun S36 =>
      gd (inr p1 9) <|
      some ((S36.1 104 (ix p1)), S36)))
set_option maxHeartbeats 4000000 in
set_option maxRecDepth 100000 in
theorem okX12_ways (N : Nat) (p0 : Int32) (p1 : Int32) (S : PS) (r : Int32) (T : PS) (h : fX12_ways N p0 p1 S = some (r, T)) : CT mX12_ways 2 0 [.ref 80, .int p0, .int p1] S (qI r T) := by
  refine ct_of [some (.ref 80), some (.int p0), some (.int p1), none, none] rfl (fun _ => rfl) (fun _ => Nat.le_of_ble_eq_true rfl) ?_
  unfold fX12_ways at h
  refine r_aload_n (x := 80) dX12_ways_0 rfl ?_
  refine r_iconst (v := 0) dX12_ways_1 rfl ?_
  refine r_putI dX12_ways_2 lX12_114 ck80 nC80 ?_
  refine r_topS (fun S1 hS1 => ?_)
  replace h := lt_e hS1 h
  refine r_aload_n (x := 80) dX12_ways_5 rfl ?_
  refine r_iload_n (x := p0) dX12_ways_6 rfl ?_
  obtain ⟨x2, S3, h4, h⟩ := bI_e h
  refine r_cVI (y := mX12_isCup) (As := [.int p0]) (rest := []) dX12_ways_7 qX12_351 kX12_isCup rfl ob80 vc12 rfl (okX12_isCup N p0 S1 x2 S3 h4) (by decide) (Nat.zero_le _) rfl (Nat.le_of_ble_eq_true rfl) ?_
  refine r_if_eq (tgt := 21) dX12_ways_10 (by decide) (fun c5 => ?_) (fun c5 => ?_)
  · rw [if_pos c5] at h
    refine r_iconst (v := 0) dX12_ways_21 rfl ?_
    cases h
    exact r_ireturn dX12_ways_22 rfl (Nat.zero_le _) ⟨rfl, rfl⟩
  · rw [if_neg c5] at h
    refine r_aload_n (x := 80) dX12_ways_13 rfl ?_
    refine r_iload_n (x := p1) dX12_ways_14 rfl ?_
    obtain ⟨x6, S7, h8, h⟩ := bI_e h
    refine r_cVI (y := mX12_isCup) (As := [.int p1]) (rest := []) dX12_ways_15 qX12_351 kX12_isCup rfl ob80 vc12 rfl (okX12_isCup N p1 S3 x6 S7 h8) (by decide) (Nat.zero_le _) rfl (Nat.le_of_ble_eq_true rfl) ?_
    refine r_if_ne (tgt := 23) dX12_ways_18 (by decide) (fun c9 => ?_) (fun c9 => ?_)
    · rw [if_neg c9] at h
      refine r_iconst (v := 0) dX12_ways_23 rfl ?_
      refine r_istore_n (L' := [some (.ref 80), some (.int p0), some (.int p1), some (.int 0), none]) dX12_ways_24 (Nat.le_of_ble_eq_true rfl) rfl rfl ?_
      obtain ⟨⟨x35, S36⟩, h38, h⟩ := bT_e h
      dsimp only at h
      replace h := pl_s (pl_s (h))
      refine okX12_ways_25 N p0 p1 (qI r T) 0 (Nat.zero_le _) _ _ _ _ _ h38 ?_
      refine r_aload_n (x := 80) dX12_ways_100 rfl ?_
      refine r_getfield (o := 80) (v := .ref 104) dX12_ways_101 lX12_93 ck80 nC80 rfl ?_
      refine r_iload_n (x := p1) dX12_ways_104 rfl ?_
      obtain ⟨g39, h⟩ := gd_e h
      refine r_iaload (a := 104) dX12_ways_105 ck104 nC104 (inr_IX g39) ?_
      cases h
      exact r_ireturn dX12_ways_106 rfl (Nat.zero_le _) ⟨rfl, rfl⟩
    · rw [if_pos c9] at h
      refine r_iconst (v := 0) dX12_ways_21 rfl ?_
      cases h
      exact r_ireturn dX12_ways_22 rfl (Nat.zero_le _) ⟨rfl, rfl⟩
def fX12_toCrack_87 (N : Nat) (v1 : Int32) (v2 : Int32) (v3 : Int32) (v4 : Int32) (v5 : Int32) (v6 : Int32) (v7 : Int32) : Nat → Int32 → Int32 → PS → Option (Int32 × Int32 × PS)
  | 0, _, _, _ => none
  | n + 1, v8, v9, S =>
    (if v3 ≤ v9 then
      some (v8, v9, S)
    else
      bV (fX12_hourGoes N 64 S) fun S24 =>
      gd (inr v1 9) <|
      lt ((v8 + (S24.1 96 (ix v1))) : Int32) fun x27 =>
      lt (v9 + 1 : Int32) fun x28 =>
      fX12_toCrack_87 N v1 v2 v3 v4 v5 v6 v7 n x27 x28 S24)
set_option maxHeartbeats 4000000 in
set_option maxRecDepth 100000 in
theorem okX12_toCrack_87 (N : Nat) (v1 : Int32) (v2 : Int32) (v3 : Int32) (v4 : Int32) (v5 : Int32) (v6 : Int32) (v7 : Int32) (Q : OQ) (u : Nat) (hu : u ≤ 0) : ∀ (n : Nat) (v8 : Int32) (v9 : Int32) (S : PS) (y8 : Int32) (y9 : Int32) (T : PS), fX12_toCrack_87 N v1 v2 v3 v4 v5 v6 v7 n v8 v9 S = some (y8, y9, T) → WP [] mX12_toCrack 5 0 Q 116 [some (.ref 80), some (.int v1), some (.int v2), some (.int v3), some (.int v4), some (.int v5), some (.int v6), some (.int v7), some (.int y8), some (.int y9)] [] T u → WP [] mX12_toCrack 5 0 Q 87 [some (.ref 80), some (.int v1), some (.int v2), some (.int v3), some (.int v4), some (.int v5), some (.int v6), some (.int v7), some (.int v8), some (.int v9)] [] S u := by
  intro n
  induction n with
  | zero => intro v8 v9 S y8 y9 T h; rw [fX12_toCrack_87] at h; cases h
  | succ n ih =>
    intro v8 v9 S y8 y9 T h k0
    rw [fX12_toCrack_87] at h
    refine r_iload (x := v9) dX12_toCrack_87 rfl ?_
    refine r_iload_n (x := v3) dX12_toCrack_89 rfl ?_
    refine r_icmp_ge (tgt := 116) dX12_toCrack_90 (by decide) (fun c22 => ?_) (fun c22 => ?_)
    · rw [if_pos c22] at h
      cases h
      exact k0
    · rw [if_neg c22] at h
      refine r_aload_n (x := 80) dX12_toCrack_93 rfl ?_
      refine r_bipush (v := 64) dX12_toCrack_94 rfl ?_
      obtain ⟨S24, h25, h⟩ := bV_e h
      refine r_cVV (y := mX12_hourGoes) (As := [.int 64]) (rest := []) dX12_toCrack_96 qX12_323 kX12_hourGoes rfl ob80 vc12 rfl (okX12_hourGoes N 64 S S24 h25) (by decide) hu rfl (Nat.le_of_ble_eq_true rfl) ?_
      refine r_iload (x := v8) dX12_toCrack_99 rfl ?_
      refine r_aload_n (x := 80) dX12_toCrack_101 rfl ?_
      refine r_getfield (o := 80) (v := .ref 96) dX12_toCrack_102 lX12_66 ck80 nC80 rfl ?_
      refine r_iload_n (x := v1) dX12_toCrack_105 rfl ?_
      obtain ⟨g26, h⟩ := gd_e h
      refine r_iaload (a := 96) dX12_toCrack_106 ck96 nC96 (inr_IX g26) ?_
      refine r_iadd dX12_toCrack_107 ?_
      refine r_topi (fun x27 hx27 => ?_)
      replace h := lt_e hx27 h
      refine r_istore (L' := [some (.ref 80), some (.int v1), some (.int v2), some (.int v3), some (.int v4), some (.int v5), some (.int v6), some (.int v7), some (.int x27), some (.int v9)]) dX12_toCrack_108 (Nat.le_of_ble_eq_true rfl) rfl rfl ?_
      obtain ⟨x28, hx28⟩ : ∃ y : Int32, y = (v9 + 1 : Int32) := ⟨_, rfl⟩
      replace h := lt_e hx28 h
      refine r_iinc (x := v9) (v := x28) (L' := [some (.ref 80), some (.int v1), some (.int v2), some (.int v3), some (.int v4), some (.int v5), some (.int v6), some (.int v7), some (.int x27), some (.int x28)]) dX12_toCrack_110 rfl (by rw [hx28]; rfl) (Nat.le_of_ble_eq_true rfl) rfl rfl ?_
      refine r_goto (tgt := 87) dX12_toCrack_113 (by decide) ?_
      exact ih _ _ _ _ _ _ h k0
def fX12_toCrack_61 (N : Nat) (v1 : Int32) (v2 : Int32) (v3 : Int32) (v4 : Int32) : Nat → Int32 → Int32 → Int32 → PS → Option (Int32 × Int32 × Int32 × PS)
  | 0, _, _, _, _ => none
  | n + 1, v5, v6, v7, S =>
    (if 30 < v7 then
      some (v5, v6, v7, S)
    else
      bV (fX12_tries N  S) fun S17 =>
      bV (fX12_cracks N 64 v1 v7 S17) fun S20 =>
      bT (fX12_toCrack_87 N v1 v2 v3 v4 v5 v6 v7 N 0 0 S20) fun q29 =>
      lt (q29.1 : Int32) fun x30 =>
      lt (q29.2.1 : Int32) fun x31 =>
      lt (q29.2.2 : PS) fun S32 =>
      lt ((if x30 ≤ v2 then (v2 - x30) else (x30 - v2)) : Int32) fun x36 =>
      (if v5 = (-1) then
        lt (v7 + 1 : Int32) fun x38 =>
        fX12_toCrack_61 N v1 v2 v3 v4 n v7 x36 x38 S32
      else
        (if x36 < v6 then
          lt (v7 + 1 : Int32) fun x40 =>
          fX12_toCrack_61 N v1 v2 v3 v4 n v7 x36 x40 S32
        else
          lt (v7 + 1 : Int32) fun x41 =>
          fX12_toCrack_61 N v1 v2 v3 v4 n v5 v6 x41 S32)))
set_option maxHeartbeats 4000000 in
set_option maxRecDepth 100000 in
theorem okX12_toCrack_61 (N : Nat) (v1 : Int32) (v2 : Int32) (v3 : Int32) (v4 : Int32) (Q : OQ) (u : Nat) (hu : u ≤ 0) : ∀ (n : Nat) (v5 : Int32) (v6 : Int32) (v7 : Int32) (S : PS) (y5 : Int32) (y6 : Int32) (y7 : Int32) (T : PS), fX12_toCrack_61 N v1 v2 v3 v4 n v5 v6 v7 S = some (y5, y6, y7, T) → WP [] mX12_toCrack 5 0 Q 165 [some (.ref 80), some (.int v1), some (.int v2), some (.int v3), some (.int v4), some (.int y5), some (.int y6), some (.int y7), none, none] [] T u → WP [] mX12_toCrack 5 0 Q 61 [some (.ref 80), some (.int v1), some (.int v2), some (.int v3), some (.int v4), some (.int v5), some (.int v6), some (.int v7), none, none] [] S u := by
  intro n
  induction n with
  | zero => intro v5 v6 v7 S y5 y6 y7 T h; rw [fX12_toCrack_61] at h; cases h
  | succ n ih =>
    intro v5 v6 v7 S y5 y6 y7 T h k0
    rw [fX12_toCrack_61] at h
    refine r_iload (x := v7) dX12_toCrack_61 rfl ?_
    refine r_bipush (v := 30) dX12_toCrack_63 rfl ?_
    refine r_icmp_gt (tgt := 165) dX12_toCrack_65 (by decide) (fun c15 => ?_) (fun c15 => ?_)
    · rw [if_pos c15] at h
      cases h
      exact k0
    · rw [if_neg c15] at h
      refine r_aload_n (x := 80) dX12_toCrack_68 rfl ?_
      obtain ⟨S17, h18, h⟩ := bV_e h
      refine r_cVV (y := mX12_tries) (As := []) (rest := []) dX12_toCrack_69 qX12_381 kX12_tries rfl ob80 vc12 rfl (okX12_tries N  S S17 h18) (by decide) hu rfl (Nat.le_of_ble_eq_true rfl) ?_
      refine r_aload_n (x := 80) dX12_toCrack_72 rfl ?_
      refine r_bipush (v := 64) dX12_toCrack_73 rfl ?_
      refine r_iload_n (x := v1) dX12_toCrack_75 rfl ?_
      refine r_iload (x := v7) dX12_toCrack_76 rfl ?_
      obtain ⟨S20, h21, h⟩ := bV_e h
      refine r_cVV (y := mX12_cracks) (As := [.int 64, .int v1, .int v7]) (rest := []) dX12_toCrack_78 qX12_375 kX12_cracks rfl ob80 vc12 rfl (okX12_cracks N 64 v1 v7 S17 S20 h21) (by decide) hu rfl (Nat.le_of_ble_eq_true rfl) ?_
      refine r_iconst (v := 0) dX12_toCrack_81 rfl ?_
      refine r_istore (L' := [some (.ref 80), some (.int v1), some (.int v2), some (.int v3), some (.int v4), some (.int v5), some (.int v6), some (.int v7), some (.int 0), none]) dX12_toCrack_82 (Nat.le_of_ble_eq_true rfl) rfl rfl ?_
      refine r_iconst (v := 0) dX12_toCrack_84 rfl ?_
      refine r_istore (L' := [some (.ref 80), some (.int v1), some (.int v2), some (.int v3), some (.int v4), some (.int v5), some (.int v6), some (.int v7), some (.int 0), some (.int 0)]) dX12_toCrack_85 (Nat.le_of_ble_eq_true rfl) rfl rfl ?_
      obtain ⟨⟨x30, x31, S32⟩, h34, h⟩ := bT_e h
      dsimp only at h
      replace h := pl_s (pl_s (pl_s (h)))
      refine okX12_toCrack_87 N v1 v2 v3 v4 v5 v6 v7 Q u hu _ _ _ _ _ _ _ h34 ?_
      refine r_iload (x := x30) dX12_toCrack_116 rfl ?_
      refine r_iload_n (x := v2) dX12_toCrack_118 rfl ?_
      obtain ⟨x36, hx36⟩ : ∃ y : Int32, y = ((if x30 ≤ v2 then (v2 - x30) else (x30 - v2)) : Int32) := ⟨_, rfl⟩
      replace h := lt_e hx36 h
      have keyx36 : WP [] mX12_toCrack 5 0 Q 133 [some (.ref 80), some (.int v1), some (.int v2), some (.int v3), some (.int v4), some (.int v5), some (.int v6), some (.int v7), some (.int x30), some (.int x31)] (.int x36 :: []) S32 u := by
        refine r_istore (L' := [some (.ref 80), some (.int v1), some (.int v2), some (.int v3), some (.int v4), some (.int v5), some (.int v6), some (.int v7), some (.int x30), some (.int x36)]) dX12_toCrack_133 (Nat.le_of_ble_eq_true rfl) rfl rfl ?_
        refine r_iload (x := v5) dX12_toCrack_135 rfl ?_
        refine r_iconst (v := (-1)) dX12_toCrack_137 rfl ?_
        refine r_icmp_eq (tgt := 151) dX12_toCrack_138 (by decide) (fun c37 => ?_) (fun c37 => ?_)
        · rw [if_pos c37] at h
          refine r_iload (x := v7) dX12_toCrack_151 rfl ?_
          refine r_istore (L' := [some (.ref 80), some (.int v1), some (.int v2), some (.int v3), some (.int v4), some (.int v7), some (.int v6), some (.int v7), some (.int x30), some (.int x36)]) dX12_toCrack_153 (Nat.le_of_ble_eq_true rfl) rfl rfl ?_
          refine r_iload (x := x36) dX12_toCrack_155 rfl ?_
          refine r_istore (L' := [some (.ref 80), some (.int v1), some (.int v2), some (.int v3), some (.int v4), some (.int v7), some (.int x36), some (.int v7), some (.int x30), some (.int x36)]) dX12_toCrack_157 (Nat.le_of_ble_eq_true rfl) rfl rfl ?_
          obtain ⟨x38, hx38⟩ : ∃ y : Int32, y = (v7 + 1 : Int32) := ⟨_, rfl⟩
          replace h := lt_e hx38 h
          refine r_iinc (x := v7) (v := x38) (L' := [some (.ref 80), some (.int v1), some (.int v2), some (.int v3), some (.int v4), some (.int v7), some (.int x36), some (.int x38), some (.int x30), some (.int x36)]) dX12_toCrack_159 rfl (by rw [hx38]; rfl) (Nat.le_of_ble_eq_true rfl) rfl rfl ?_
          refine r_goto (tgt := 61) dX12_toCrack_162 (by decide) ?_
          refine r_drop [true, true, true, true, true, true, true, true, false, false] rfl ?_
          exact ih _ _ _ _ _ _ _ _ h k0
        · rw [if_neg c37] at h
          refine r_iload (x := x36) dX12_toCrack_141 rfl ?_
          refine r_iload (x := v6) dX12_toCrack_143 rfl ?_
          refine r_icmp_lt (tgt := 151) dX12_toCrack_145 (by decide) (fun c39 => ?_) (fun c39 => ?_)
          · rw [if_pos c39] at h
            refine r_iload (x := v7) dX12_toCrack_151 rfl ?_
            refine r_istore (L' := [some (.ref 80), some (.int v1), some (.int v2), some (.int v3), some (.int v4), some (.int v7), some (.int v6), some (.int v7), some (.int x30), some (.int x36)]) dX12_toCrack_153 (Nat.le_of_ble_eq_true rfl) rfl rfl ?_
            refine r_iload (x := x36) dX12_toCrack_155 rfl ?_
            refine r_istore (L' := [some (.ref 80), some (.int v1), some (.int v2), some (.int v3), some (.int v4), some (.int v7), some (.int x36), some (.int v7), some (.int x30), some (.int x36)]) dX12_toCrack_157 (Nat.le_of_ble_eq_true rfl) rfl rfl ?_
            obtain ⟨x40, hx40⟩ : ∃ y : Int32, y = (v7 + 1 : Int32) := ⟨_, rfl⟩
            replace h := lt_e hx40 h
            refine r_iinc (x := v7) (v := x40) (L' := [some (.ref 80), some (.int v1), some (.int v2), some (.int v3), some (.int v4), some (.int v7), some (.int x36), some (.int x40), some (.int x30), some (.int x36)]) dX12_toCrack_159 rfl (by rw [hx40]; rfl) (Nat.le_of_ble_eq_true rfl) rfl rfl ?_
            refine r_goto (tgt := 61) dX12_toCrack_162 (by decide) ?_
            refine r_drop [true, true, true, true, true, true, true, true, false, false] rfl ?_
            exact ih _ _ _ _ _ _ _ _ h k0
          · rw [if_neg c39] at h
            refine r_goto (tgt := 159) dX12_toCrack_148 (by decide) ?_
            obtain ⟨x41, hx41⟩ : ∃ y : Int32, y = (v7 + 1 : Int32) := ⟨_, rfl⟩
            replace h := lt_e hx41 h
            refine r_iinc (x := v7) (v := x41) (L' := [some (.ref 80), some (.int v1), some (.int v2), some (.int v3), some (.int v4), some (.int v5), some (.int v6), some (.int x41), some (.int x30), some (.int x36)]) dX12_toCrack_159 rfl (by rw [hx41]; rfl) (Nat.le_of_ble_eq_true rfl) rfl rfl ?_
            refine r_goto (tgt := 61) dX12_toCrack_162 (by decide) ?_
            refine r_drop [true, true, true, true, true, true, true, true, false, false] rfl ?_
            exact ih _ _ _ _ _ _ _ _ h k0
      refine r_icmp_le (tgt := 129) dX12_toCrack_119 (by decide) (fun c35 => ?_) (fun c35 => ?_)
      · refine r_iload_n (x := v2) dX12_toCrack_129 rfl ?_
        refine r_iload (x := x30) dX12_toCrack_130 rfl ?_
        refine r_isub dX12_toCrack_132 ?_
        exact r_tope (by rw [hx36, if_pos c35]) keyx36
      · refine r_iload (x := x30) dX12_toCrack_122 rfl ?_
        refine r_iload_n (x := v2) dX12_toCrack_124 rfl ?_
        refine r_isub dX12_toCrack_125 ?_
        refine r_goto (tgt := 133) dX12_toCrack_126 (by decide) ?_
        exact r_tope (by rw [hx36, if_neg c35]) keyx36
def fX12_toCrack (N : Nat) (p0 : Int32) (p1 : Int32) (p2 : Int32) (p3 : Int32) (S : PS) : Option (Int32 × PS) :=
  lt ((u2 S.1 80 0 0, S.2) : PS) fun S1 =>
  bI (fX12_isCup N p0 S1) fun x2 S3 =>
  (if x2 = 0 then
    some (0, S3)
  else
    bI (fX12_isWhat N p3 1 S3) fun x6 S7 =>
    (if x6 = 0 then
      some (0, S7)
    else
      (if p1 < 0 then
        bI (fX12_right N 0 2 S7) fun x11 S12 =>
        (if x11 = 0 then
          some (0, S12)
        else
          bT (fX12_toCrack_61 N p0 p1 p2 p3 N (-1) 0 1 S12) fun q42 =>
          lt (q42.1 : Int32) fun x43 =>
          lt (q42.2.1 : Int32) fun x44 =>
          lt (q42.2.2.1 : Int32) fun x45 =>
          lt (q42.2.2.2 : PS) fun S46 =>
          lt ((if p3 = 0 then x43 else x44) : Int32) fun x50 =>
          some (x50, S46))
      else
        bI (fX12_within N p2 1 60 S7) fun x51 S52 =>
        lt ((if x51 = 0 then 0 else 1) : Int32) fun x55 =>
        bI (fX12_right N x55 2 S52) fun x56 S57 =>
        (if x56 = 0 then
          some (0, S57)
        else
          bT (fX12_toCrack_61 N p0 p1 p2 p3 N (-1) 0 1 S57) fun q60 =>
          lt (q60.1 : Int32) fun x61 =>
          lt (q60.2.1 : Int32) fun x62 =>
          lt (q60.2.2.1 : Int32) fun x63 =>
          lt (q60.2.2.2 : PS) fun S64 =>
          lt ((if p3 = 0 then x61 else x62) : Int32) fun x68 =>
          some (x68, S64)))))
set_option maxHeartbeats 4000000 in
set_option maxRecDepth 100000 in
theorem okX12_toCrack (N : Nat) (p0 : Int32) (p1 : Int32) (p2 : Int32) (p3 : Int32) (S : PS) (r : Int32) (T : PS) (h : fX12_toCrack N p0 p1 p2 p3 S = some (r, T)) : CT mX12_toCrack 5 0 [.ref 80, .int p0, .int p1, .int p2, .int p3] S (qI r T) := by
  refine ct_of [some (.ref 80), some (.int p0), some (.int p1), some (.int p2), some (.int p3), none, none, none, none, none] rfl (fun _ => rfl) (fun _ => Nat.le_of_ble_eq_true rfl) ?_
  unfold fX12_toCrack at h
  refine r_aload_n (x := 80) dX12_toCrack_0 rfl ?_
  refine r_iconst (v := 0) dX12_toCrack_1 rfl ?_
  refine r_putI dX12_toCrack_2 lX12_114 ck80 nC80 ?_
  refine r_topS (fun S1 hS1 => ?_)
  replace h := lt_e hS1 h
  refine r_aload_n (x := 80) dX12_toCrack_5 rfl ?_
  refine r_iload_n (x := p0) dX12_toCrack_6 rfl ?_
  obtain ⟨x2, S3, h4, h⟩ := bI_e h
  refine r_cVI (y := mX12_isCup) (As := [.int p0]) (rest := []) dX12_toCrack_7 qX12_351 kX12_isCup rfl ob80 vc12 rfl (okX12_isCup N p0 S1 x2 S3 h4) (by decide) (Nat.zero_le _) rfl (Nat.le_of_ble_eq_true rfl) ?_
  refine r_if_eq (tgt := 50) dX12_toCrack_10 (by decide) (fun c5 => ?_) (fun c5 => ?_)
  · rw [if_pos c5] at h
    refine r_iconst (v := 0) dX12_toCrack_50 rfl ?_
    cases h
    exact r_ireturn dX12_toCrack_51 rfl (Nat.zero_le _) ⟨rfl, rfl⟩
  · rw [if_neg c5] at h
    refine r_aload_n (x := 80) dX12_toCrack_13 rfl ?_
    refine r_iload (x := p3) dX12_toCrack_14 rfl ?_
    refine r_iconst (v := 1) dX12_toCrack_16 rfl ?_
    obtain ⟨x6, S7, h8, h⟩ := bI_e h
    refine r_cVI (y := mX12_isWhat) (As := [.int p3, .int 1]) (rest := []) dX12_toCrack_17 qX12_354 kX12_isWhat rfl ob80 vc12 rfl (okX12_isWhat N p3 1 S3 x6 S7 h8) (by decide) (Nat.zero_le _) rfl (Nat.le_of_ble_eq_true rfl) ?_
    refine r_if_eq (tgt := 50) dX12_toCrack_20 (by decide) (fun c9 => ?_) (fun c9 => ?_)
    · rw [if_pos c9] at h
      refine r_iconst (v := 0) dX12_toCrack_50 rfl ?_
      cases h
      exact r_ireturn dX12_toCrack_51 rfl (Nat.zero_le _) ⟨rfl, rfl⟩
    · rw [if_neg c9] at h
      refine r_aload_n (x := 80) dX12_toCrack_23 rfl ?_
      refine r_iload_n (x := p1) dX12_toCrack_24 rfl ?_
      refine r_if_lt (tgt := 42) dX12_toCrack_25 (by decide) (fun c10 => ?_) (fun c10 => ?_)
      · rw [if_pos c10] at h
        refine r_iconst (v := 0) dX12_toCrack_42 rfl ?_
        refine r_iconst (v := 2) dX12_toCrack_43 rfl ?_
        obtain ⟨x11, S12, h13, h⟩ := bI_e h
        refine r_cVI (y := mX12_right) (As := [.int 0, .int 2]) (rest := []) dX12_toCrack_44 qX12_262 kX12_right rfl ob80 vc12 rfl (okX12_right N 0 2 S7 x11 S12 h13) (by decide) (Nat.zero_le _) rfl (Nat.le_of_ble_eq_true rfl) ?_
        refine r_if_ne (tgt := 52) dX12_toCrack_47 (by decide) (fun c14 => ?_) (fun c14 => ?_)
        · rw [if_neg c14] at h
          refine r_iconst (v := (-1)) dX12_toCrack_52 rfl ?_
          refine r_istore (L' := [some (.ref 80), some (.int p0), some (.int p1), some (.int p2), some (.int p3), some (.int (-1)), none, none, none, none]) dX12_toCrack_53 (Nat.le_of_ble_eq_true rfl) rfl rfl ?_
          refine r_iconst (v := 0) dX12_toCrack_55 rfl ?_
          refine r_istore (L' := [some (.ref 80), some (.int p0), some (.int p1), some (.int p2), some (.int p3), some (.int (-1)), some (.int 0), none, none, none]) dX12_toCrack_56 (Nat.le_of_ble_eq_true rfl) rfl rfl ?_
          refine r_iconst (v := 1) dX12_toCrack_58 rfl ?_
          refine r_istore (L' := [some (.ref 80), some (.int p0), some (.int p1), some (.int p2), some (.int p3), some (.int (-1)), some (.int 0), some (.int 1), none, none]) dX12_toCrack_59 (Nat.le_of_ble_eq_true rfl) rfl rfl ?_
          obtain ⟨⟨x43, x44, x45, S46⟩, h48, h⟩ := bT_e h
          dsimp only at h
          replace h := pl_s (pl_s (pl_s (pl_s (h))))
          refine okX12_toCrack_61 N p0 p1 p2 p3 (qI r T) 0 (Nat.zero_le _) _ _ _ _ _ _ _ _ _ h48 ?_
          refine r_iload (x := p3) dX12_toCrack_165 rfl ?_
          obtain ⟨x50, hx50⟩ : ∃ y : Int32, y = ((if p3 = 0 then x43 else x44) : Int32) := ⟨_, rfl⟩
          replace h := lt_e hx50 h
          have keyx50 : WP [] mX12_toCrack 5 0 (qI r T) 177 [some (.ref 80), some (.int p0), some (.int p1), some (.int p2), some (.int p3), some (.int x43), some (.int x44), some (.int x45), none, none] (.int x50 :: []) S46 0 := by
            cases h
            exact r_ireturn dX12_toCrack_177 rfl (Nat.zero_le _) ⟨rfl, rfl⟩
          refine r_if_ne (tgt := 175) dX12_toCrack_167 (by decide) (fun c49 => ?_) (fun c49 => ?_)
          · refine r_iload (x := x44) dX12_toCrack_175 rfl ?_
            exact r_tope (by rw [hx50, if_neg c49]) keyx50
          · refine r_iload (x := x43) dX12_toCrack_170 rfl ?_
            refine r_goto (tgt := 177) dX12_toCrack_172 (by decide) ?_
            exact r_tope (by rw [hx50, if_pos c49]) keyx50
        · rw [if_pos c14] at h
          refine r_iconst (v := 0) dX12_toCrack_50 rfl ?_
          cases h
          exact r_ireturn dX12_toCrack_51 rfl (Nat.zero_le _) ⟨rfl, rfl⟩
      · rw [if_neg c10] at h
        refine r_iload_n (x := p2) dX12_toCrack_28 rfl ?_
        refine r_iconst (v := 1) dX12_toCrack_29 rfl ?_
        refine r_bipush (v := 60) dX12_toCrack_30 rfl ?_
        obtain ⟨x51, S52, h53, h⟩ := bI_e h
        refine r_cSI (y := mX12_within) (As := [.int p2, .int 1, .int 60]) (rest := [.ref 80]) dX12_toCrack_32 qX12_332 kX12_within rfl (okX12_within N p2 1 60 S7 x51 S52 h53) (by decide) (Nat.zero_le _) rfl (Nat.le_of_ble_eq_true rfl) ?_
        obtain ⟨x55, hx55⟩ : ∃ y : Int32, y = ((if x51 = 0 then 0 else 1) : Int32) := ⟨_, rfl⟩
        replace h := lt_e hx55 h
        have keyx55 : WP [] mX12_toCrack 5 0 (qI r T) 43 [some (.ref 80), some (.int p0), some (.int p1), some (.int p2), some (.int p3), none, none, none, none, none] (.int x55 :: [.ref 80]) S52 0 := by
          refine r_iconst (v := 2) dX12_toCrack_43 rfl ?_
          obtain ⟨x56, S57, h58, h⟩ := bI_e h
          refine r_cVI (y := mX12_right) (As := [.int x55, .int 2]) (rest := []) dX12_toCrack_44 qX12_262 kX12_right rfl ob80 vc12 rfl (okX12_right N x55 2 S52 x56 S57 h58) (by decide) (Nat.zero_le _) rfl (Nat.le_of_ble_eq_true rfl) ?_
          refine r_if_ne (tgt := 52) dX12_toCrack_47 (by decide) (fun c59 => ?_) (fun c59 => ?_)
          · rw [if_neg c59] at h
            refine r_iconst (v := (-1)) dX12_toCrack_52 rfl ?_
            refine r_istore (L' := [some (.ref 80), some (.int p0), some (.int p1), some (.int p2), some (.int p3), some (.int (-1)), none, none, none, none]) dX12_toCrack_53 (Nat.le_of_ble_eq_true rfl) rfl rfl ?_
            refine r_iconst (v := 0) dX12_toCrack_55 rfl ?_
            refine r_istore (L' := [some (.ref 80), some (.int p0), some (.int p1), some (.int p2), some (.int p3), some (.int (-1)), some (.int 0), none, none, none]) dX12_toCrack_56 (Nat.le_of_ble_eq_true rfl) rfl rfl ?_
            refine r_iconst (v := 1) dX12_toCrack_58 rfl ?_
            refine r_istore (L' := [some (.ref 80), some (.int p0), some (.int p1), some (.int p2), some (.int p3), some (.int (-1)), some (.int 0), some (.int 1), none, none]) dX12_toCrack_59 (Nat.le_of_ble_eq_true rfl) rfl rfl ?_
            obtain ⟨⟨x61, x62, x63, S64⟩, h66, h⟩ := bT_e h
            dsimp only at h
            replace h := pl_s (pl_s (pl_s (pl_s (h))))
            refine okX12_toCrack_61 N p0 p1 p2 p3 (qI r T) 0 (Nat.zero_le _) _ _ _ _ _ _ _ _ _ h66 ?_
            refine r_iload (x := p3) dX12_toCrack_165 rfl ?_
            obtain ⟨x68, hx68⟩ : ∃ y : Int32, y = ((if p3 = 0 then x61 else x62) : Int32) := ⟨_, rfl⟩
            replace h := lt_e hx68 h
            have keyx68 : WP [] mX12_toCrack 5 0 (qI r T) 177 [some (.ref 80), some (.int p0), some (.int p1), some (.int p2), some (.int p3), some (.int x61), some (.int x62), some (.int x63), none, none] (.int x68 :: []) S64 0 := by
              cases h
              exact r_ireturn dX12_toCrack_177 rfl (Nat.zero_le _) ⟨rfl, rfl⟩
            refine r_if_ne (tgt := 175) dX12_toCrack_167 (by decide) (fun c67 => ?_) (fun c67 => ?_)
            · refine r_iload (x := x62) dX12_toCrack_175 rfl ?_
              exact r_tope (by rw [hx68, if_neg c67]) keyx68
            · refine r_iload (x := x61) dX12_toCrack_170 rfl ?_
              refine r_goto (tgt := 177) dX12_toCrack_172 (by decide) ?_
              exact r_tope (by rw [hx68, if_pos c67]) keyx68
          · rw [if_pos c59] at h
            refine r_iconst (v := 0) dX12_toCrack_50 rfl ?_
            cases h
            exact r_ireturn dX12_toCrack_51 rfl (Nat.zero_le _) ⟨rfl, rfl⟩
        refine r_if_eq (tgt := 42) dX12_toCrack_35 (by decide) (fun c54 => ?_) (fun c54 => ?_)
        · refine r_iconst (v := 0) dX12_toCrack_42 rfl ?_
          exact r_tope (by rw [hx55, if_pos c54]) keyx55
        · refine r_iconst (v := 1) dX12_toCrack_38 rfl ?_
          refine r_goto (tgt := 43) dX12_toCrack_39 (by decide) ?_
          exact r_tope (by rw [hx55, if_neg c54]) keyx55
def fX12_toPour_32 (N : Nat) (v1 : Int32) (v2 : Int32) : Nat → Int32 → PS → Option (Nat × Int32 × PS)
  | 0, _, _ => none
  | n + 1, v3, S =>
    (if 50 < v3 then
      some (0, v3, S)
    else
      bV (fX12_tries N  S) fun S15 =>
      (if v3 ≤ 0 then
        bV (fX12_hoursGo N v2 S15) fun S19 =>
        (if (((S19.1 80 38) >>> (v1 &&& 31)) &&& 1) = 1 then
          some (1, v3, S19)
        else
          lt (v3 + 1 : Int32) fun x22 =>
          fX12_toPour_32 N v1 v2 n x22 S19)
      else
        bI (fX12_pours N 64 v1 v3 S15) fun x23 S24 =>
        bV (fX12_hoursGo N v2 S24) fun S27 =>
        (if (((S27.1 80 38) >>> (v1 &&& 31)) &&& 1) = 1 then
          some (1, v3, S27)
        else
          lt (v3 + 1 : Int32) fun x30 =>
          fX12_toPour_32 N v1 v2 n x30 S27)))
set_option maxHeartbeats 4000000 in
set_option maxRecDepth 100000 in
theorem okX12_toPour_32 (N : Nat) (v1 : Int32) (v2 : Int32) (Q : OQ) (u : Nat) (hu : u ≤ 0) : ∀ (n : Nat) (v3 : Int32) (S : PS) (tg : Nat) (y3 : Int32) (T : PS), fX12_toPour_32 N v1 v2 n v3 S = some (tg, y3, T) → (tg = 0 → WP [] mX12_toPour 6 0 Q 80 [some (.ref 80), some (.int v1), some (.int v2), some (.int y3)] [] T u) → (tg = 1 → WP [] mX12_toPour 6 0 Q 72 [some (.ref 80), some (.int v1), some (.int v2), some (.int y3)] [] T u) → WP [] mX12_toPour 6 0 Q 32 [some (.ref 80), some (.int v1), some (.int v2), some (.int v3)] [] S u := by
  intro n
  induction n with
  | zero => intro v3 S tg y3 T h; rw [fX12_toPour_32] at h; cases h
  | succ n ih =>
    intro v3 S tg y3 T h k0 k1
    rw [fX12_toPour_32] at h
    refine r_iload_n (x := v3) dX12_toPour_32 rfl ?_
    refine r_bipush (v := 50) dX12_toPour_33 rfl ?_
    refine r_icmp_gt (tgt := 80) dX12_toPour_35 (by decide) (fun c13 => ?_) (fun c13 => ?_)
    · rw [if_pos c13] at h
      cases h
      exact k0 rfl
    · rw [if_neg c13] at h
      refine r_aload_n (x := 80) dX12_toPour_38 rfl ?_
      obtain ⟨S15, h16, h⟩ := bV_e h
      refine r_cVV (y := mX12_tries) (As := []) (rest := []) dX12_toPour_39 qX12_381 kX12_tries rfl ob80 vc12 rfl (okX12_tries N  S S15 h16) (by decide) hu rfl (Nat.le_of_ble_eq_true rfl) ?_
      refine r_iload_n (x := v3) dX12_toPour_42 rfl ?_
      refine r_if_le (tgt := 55) dX12_toPour_43 (by decide) (fun c17 => ?_) (fun c17 => ?_)
      · rw [if_pos c17] at h
        refine r_aload_n (x := 80) dX12_toPour_55 rfl ?_
        refine r_iload_n (x := v2) dX12_toPour_56 rfl ?_
        obtain ⟨S19, h20, h⟩ := bV_e h
        refine r_cVV (y := mX12_hoursGo) (As := [.int v2]) (rest := []) dX12_toPour_57 qX12_384 kX12_hoursGo rfl ob80 vc12 rfl (okX12_hoursGo N v2 S15 S19 h20) (by decide) hu rfl (Nat.le_of_ble_eq_true rfl) ?_
        refine r_aload_n (x := 80) dX12_toPour_60 rfl ?_
        refine r_getfield (o := 80) (v := .int (S19.1 80 38)) dX12_toPour_61 lX12_300 ck80 nC80 rfl ?_
        refine r_iload_n (x := v1) dX12_toPour_64 rfl ?_
        refine r_ishr dX12_toPour_65 ?_
        refine r_iconst (v := 1) dX12_toPour_66 rfl ?_
        refine r_iand dX12_toPour_67 ?_
        refine r_iconst (v := 1) dX12_toPour_68 rfl ?_
        refine r_icmp_ne (tgt := 74) dX12_toPour_69 (by decide) (fun c21 => ?_) (fun c21 => ?_)
        · rw [if_neg c21] at h
          obtain ⟨x22, hx22⟩ : ∃ y : Int32, y = (v3 + 1 : Int32) := ⟨_, rfl⟩
          replace h := lt_e hx22 h
          refine r_iinc (x := v3) (v := x22) (L' := [some (.ref 80), some (.int v1), some (.int v2), some (.int x22)]) dX12_toPour_74 rfl (by rw [hx22]; rfl) (Nat.le_of_ble_eq_true rfl) rfl rfl ?_
          refine r_goto (tgt := 32) dX12_toPour_77 (by decide) ?_
          exact ih _ _ _ _ _ h k0 k1
        · rw [if_pos c21] at h
          cases h
          exact k1 rfl
      · rw [if_neg c17] at h
        refine r_aload_n (x := 80) dX12_toPour_46 rfl ?_
        refine r_bipush (v := 64) dX12_toPour_47 rfl ?_
        refine r_iload_n (x := v1) dX12_toPour_49 rfl ?_
        refine r_iload_n (x := v3) dX12_toPour_50 rfl ?_
        obtain ⟨x23, S24, h25, h⟩ := bI_e h
        refine r_cVI (y := mX12_pours) (As := [.int 64, .int v1, .int v3]) (rest := []) dX12_toPour_51 qX12_372 kX12_pours rfl ob80 vc12 rfl (okX12_pours N 64 v1 v3 S15 x23 S24 h25) (by decide) hu rfl (Nat.le_of_ble_eq_true rfl) ?_
        refine r_pop_int dX12_toPour_54 ?_
        refine r_aload_n (x := 80) dX12_toPour_55 rfl ?_
        refine r_iload_n (x := v2) dX12_toPour_56 rfl ?_
        obtain ⟨S27, h28, h⟩ := bV_e h
        refine r_cVV (y := mX12_hoursGo) (As := [.int v2]) (rest := []) dX12_toPour_57 qX12_384 kX12_hoursGo rfl ob80 vc12 rfl (okX12_hoursGo N v2 S24 S27 h28) (by decide) hu rfl (Nat.le_of_ble_eq_true rfl) ?_
        refine r_aload_n (x := 80) dX12_toPour_60 rfl ?_
        refine r_getfield (o := 80) (v := .int (S27.1 80 38)) dX12_toPour_61 lX12_300 ck80 nC80 rfl ?_
        refine r_iload_n (x := v1) dX12_toPour_64 rfl ?_
        refine r_ishr dX12_toPour_65 ?_
        refine r_iconst (v := 1) dX12_toPour_66 rfl ?_
        refine r_iand dX12_toPour_67 ?_
        refine r_iconst (v := 1) dX12_toPour_68 rfl ?_
        refine r_icmp_ne (tgt := 74) dX12_toPour_69 (by decide) (fun c29 => ?_) (fun c29 => ?_)
        · rw [if_neg c29] at h
          obtain ⟨x30, hx30⟩ : ∃ y : Int32, y = (v3 + 1 : Int32) := ⟨_, rfl⟩
          replace h := lt_e hx30 h
          refine r_iinc (x := v3) (v := x30) (L' := [some (.ref 80), some (.int v1), some (.int v2), some (.int x30)]) dX12_toPour_74 rfl (by rw [hx30]; rfl) (Nat.le_of_ble_eq_true rfl) rfl rfl ?_
          refine r_goto (tgt := 32) dX12_toPour_77 (by decide) ?_
          exact ih _ _ _ _ _ h k0 k1
        · rw [if_pos c29] at h
          cases h
          exact k1 rfl
def fX12_toPour (N : Nat) (p0 : Int32) (p1 : Int32) (S : PS) : Option (Int32 × PS) :=
  lt ((u2 S.1 80 0 0, S.2) : PS) fun S1 =>
  bI (fX12_isCup N p0 S1) fun x2 S3 =>
  (if x2 = 0 then
    some (0, S3)
  else
    bI (fX12_within N p1 1 60 S3) fun x6 S7 =>
    bI (fX12_right N x6 2 S7) fun x9 S10 =>
    (if x9 = 0 then
      some (0, S10)
    else
      bT (fX12_toPour_32 N p0 p1 N 0 S10) fun q31 =>
      lt (q31.1 : Nat) fun t34 =>
      lt (q31.2.1 : Int32) fun x32 =>
      lt (q31.2.2 : PS) fun S33 =>
      (if t34 = 0 then
        some ((-1), S33)
      else 
        some (x32, S33))))
set_option maxHeartbeats 4000000 in
set_option maxRecDepth 100000 in
theorem okX12_toPour (N : Nat) (p0 : Int32) (p1 : Int32) (S : PS) (r : Int32) (T : PS) (h : fX12_toPour N p0 p1 S = some (r, T)) : CT mX12_toPour 6 0 [.ref 80, .int p0, .int p1] S (qI r T) := by
  refine ct_of [some (.ref 80), some (.int p0), some (.int p1), none] rfl (fun _ => rfl) (fun _ => Nat.le_of_ble_eq_true rfl) ?_
  unfold fX12_toPour at h
  refine r_aload_n (x := 80) dX12_toPour_0 rfl ?_
  refine r_iconst (v := 0) dX12_toPour_1 rfl ?_
  refine r_putI dX12_toPour_2 lX12_114 ck80 nC80 ?_
  refine r_topS (fun S1 hS1 => ?_)
  replace h := lt_e hS1 h
  refine r_aload_n (x := 80) dX12_toPour_5 rfl ?_
  refine r_iload_n (x := p0) dX12_toPour_6 rfl ?_
  obtain ⟨x2, S3, h4, h⟩ := bI_e h
  refine r_cVI (y := mX12_isCup) (As := [.int p0]) (rest := []) dX12_toPour_7 qX12_351 kX12_isCup rfl ob80 vc12 rfl (okX12_isCup N p0 S1 x2 S3 h4) (by decide) (Nat.zero_le _) rfl (Nat.le_of_ble_eq_true rfl) ?_
  refine r_if_eq (tgt := 28) dX12_toPour_10 (by decide) (fun c5 => ?_) (fun c5 => ?_)
  · rw [if_pos c5] at h
    refine r_iconst (v := 0) dX12_toPour_28 rfl ?_
    cases h
    exact r_ireturn dX12_toPour_29 rfl (Nat.zero_le _) ⟨rfl, rfl⟩
  · rw [if_neg c5] at h
    refine r_aload_n (x := 80) dX12_toPour_13 rfl ?_
    refine r_iload_n (x := p1) dX12_toPour_14 rfl ?_
    refine r_iconst (v := 1) dX12_toPour_15 rfl ?_
    refine r_bipush (v := 60) dX12_toPour_16 rfl ?_
    obtain ⟨x6, S7, h8, h⟩ := bI_e h
    refine r_cSI (y := mX12_within) (As := [.int p1, .int 1, .int 60]) (rest := [.ref 80]) dX12_toPour_18 qX12_332 kX12_within rfl (okX12_within N p1 1 60 S3 x6 S7 h8) (by decide) (Nat.zero_le _) rfl (Nat.le_of_ble_eq_true rfl) ?_
    refine r_iconst (v := 2) dX12_toPour_21 rfl ?_
    obtain ⟨x9, S10, h11, h⟩ := bI_e h
    refine r_cVI (y := mX12_right) (As := [.int x6, .int 2]) (rest := []) dX12_toPour_22 qX12_262 kX12_right rfl ob80 vc12 rfl (okX12_right N x6 2 S7 x9 S10 h11) (by decide) (Nat.zero_le _) rfl (Nat.le_of_ble_eq_true rfl) ?_
    refine r_if_ne (tgt := 30) dX12_toPour_25 (by decide) (fun c12 => ?_) (fun c12 => ?_)
    · rw [if_neg c12] at h
      refine r_iconst (v := 0) dX12_toPour_30 rfl ?_
      refine r_istore_n (L' := [some (.ref 80), some (.int p0), some (.int p1), some (.int 0)]) dX12_toPour_31 (Nat.le_of_ble_eq_true rfl) rfl rfl ?_
      obtain ⟨⟨t34, x32, S33⟩, h35, h⟩ := bT_e h
      dsimp only at h
      replace h := pl_s (pl_s (pl_s (h)))
      refine okX12_toPour_32 N p0 p1 (qI r T) 0 (Nat.zero_le _) _ _ _ _ _ _ h35 (fun et34 => ?_) (fun et34 => ?_)
      · rw [if_pos et34] at h
        refine r_iconst (v := (-1)) dX12_toPour_80 rfl ?_
        cases h
        exact r_ireturn dX12_toPour_81 rfl (Nat.zero_le _) ⟨rfl, rfl⟩
      · rw [if_neg (by rw [et34]; decide)] at h
        refine r_iload_n (x := x32) dX12_toPour_72 rfl ?_
        cases h
        exact r_ireturn dX12_toPour_73 rfl (Nat.zero_le _) ⟨rfl, rfl⟩
    · rw [if_pos c12] at h
      refine r_iconst (v := 0) dX12_toPour_28 rfl ?_
      cases h
      exact r_ireturn dX12_toPour_29 rfl (Nat.zero_le _) ⟨rfl, rfl⟩
