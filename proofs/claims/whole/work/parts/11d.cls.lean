def fX3_passHour_15 (N : Nat) (v1 : Int32) : Nat → Int32 → PS → Option (Int32 × PS)
  | 0, _, _ => none
  | n + 1, v2, S =>
    lt ((S.2.2 5 3) : Nat) fun o5 =>
    gd (obj o5 1) <|
    (if (S.1 o5 4) ≤ v2 then
      some (v2, S)
    else
      bI (fX3_springRuns N v2 v1 S) fun x8 S9 =>
      (if x8 = 0 then
        gd (inr v2 9) <|
        bV (fX3_tip N v2 (0 + (S9.1 27 (ix v2))) S9) fun S14 =>
        lt (v2 + 1 : Int32) fun x16 =>
        fX3_passHour_15 N v1 n x16 S14
      else
        lt ((S9.2.2 5 3) : Nat) fun o17 =>
        gd (obj o17 1) <|
        gd (arr (sr o17 0) 1 9) <|
        gd (inr v2 9) <|
        lt ((S9.1 (sr o17 0) (ix v2)) : Int32) fun x21 =>
        gd (inr v2 9) <|
        bV (fX3_tip N v2 (x21 + (S9.1 27 (ix v2))) S9) fun S24 =>
        lt (v2 + 1 : Int32) fun x26 =>
        fX3_passHour_15 N v1 n x26 S24))
set_option maxHeartbeats 4000000 in
set_option maxRecDepth 100000 in
theorem okX3_passHour_15 (N : Nat) (v1 : Int32) (Q : OQ) (u : Nat) (hu : u ≤ 0) : ∀ (n : Nat) (v2 : Int32) (S : PS) (y2 : Int32) (T : PS), fX3_passHour_15 N v1 n v2 S = some (y2, T) → WP [] mX3_passHour 3 0 Q 68 [some (.ref 5), some (.int v1), some (.int y2), none] [] T u → WP [] mX3_passHour 3 0 Q 15 [some (.ref 5), some (.int v1), some (.int v2), none] [] S u := by
  intro n
  induction n with
  | zero => intro v2 S y2 T h; rw [fX3_passHour_15] at h; cases h
  | succ n ih =>
    intro v2 S y2 T h k0
    rw [fX3_passHour_15] at h
    refine r_iload_n (x := v2) dX3_passHour_15 rfl ?_
    refine r_aload_n (x := 5) dX3_passHour_16 rfl ?_
    refine r_getfield (o := 5) (v := .ref (S.2.2 5 3)) dX3_passHour_17 lX3_28 ck5 nC5 rfl ?_
    refine r_topr (fun o5 ho5 => ?_)
    replace h := lt_e ho5 h
    obtain ⟨g6, h⟩ := gd_e h
    refine r_getfield (o := o5) (v := .int (S.1 o5 4)) dX3_passHour_20 lX3_59 g6.1 g6.2 rfl ?_
    refine r_icmp_ge (tgt := 68) dX3_passHour_23 (by decide) (fun c7 => ?_) (fun c7 => ?_)
    · rw [if_pos c7] at h
      cases h
      exact k0
    · rw [if_neg c7] at h
      refine r_aload_n (x := 5) dX3_passHour_26 rfl ?_
      refine r_iload_n (x := v2) dX3_passHour_27 rfl ?_
      refine r_iload_n (x := v1) dX3_passHour_28 rfl ?_
      obtain ⟨x8, S9, h10, h⟩ := bI_e h
      refine r_cVI (y := mX3_springRuns) (As := [.int v2, .int v1]) (rest := []) dX3_passHour_29 qX3_61 kX3_springRuns rfl ob5 vc3 rfl (okX3_springRuns N v2 v1 S x8 S9 h10) (by decide) hu rfl (Nat.le_of_ble_eq_true rfl) ?_
      refine r_if_eq (tgt := 47) dX3_passHour_32 (by decide) (fun c11 => ?_) (fun c11 => ?_)
      · rw [if_pos c11] at h
        refine r_iconst (v := 0) dX3_passHour_47 rfl ?_
        refine r_istore_n (L' := [some (.ref 5), some (.int v1), some (.int v2), some (.int 0)]) dX3_passHour_48 (Nat.le_of_ble_eq_true rfl) rfl rfl ?_
        refine r_aload_n (x := 5) dX3_passHour_49 rfl ?_
        refine r_iload_n (x := v2) dX3_passHour_50 rfl ?_
        refine r_iload_n (x := 0) dX3_passHour_51 rfl ?_
        refine r_aload_n (x := 5) dX3_passHour_52 rfl ?_
        refine r_getfield (o := 5) (v := .ref 27) dX3_passHour_53 lX3_18 ck5 nC5 rfl ?_
        refine r_iload_n (x := v2) dX3_passHour_56 rfl ?_
        obtain ⟨g12, h⟩ := gd_e h
        refine r_iaload (a := 27) dX3_passHour_57 ck27 nC27 (inr_IX g12) ?_
        refine r_iadd dX3_passHour_58 ?_
        obtain ⟨S14, h15, h⟩ := bV_e h
        refine r_cVV (y := mX3_tip) (As := [.int v2, .int (0 + (S9.1 27 (ix v2)))]) (rest := []) dX3_passHour_59 qX3_68 kX3_tip rfl ob5 vc3 rfl (okX3_tip N v2 (0 + (S9.1 27 (ix v2))) S9 S14 h15) (by decide) hu rfl (Nat.le_of_ble_eq_true rfl) ?_
        obtain ⟨x16, hx16⟩ : ∃ y : Int32, y = (v2 + 1 : Int32) := ⟨_, rfl⟩
        replace h := lt_e hx16 h
        refine r_iinc (x := v2) (v := x16) (L' := [some (.ref 5), some (.int v1), some (.int x16), some (.int 0)]) dX3_passHour_62 rfl (by rw [hx16]; rfl) (Nat.le_of_ble_eq_true rfl) rfl rfl ?_
        refine r_goto (tgt := 15) dX3_passHour_65 (by decide) ?_
        refine r_drop [true, true, true, false] rfl ?_
        exact ih _ _ _ _ h k0
      · rw [if_neg c11] at h
        refine r_aload_n (x := 5) dX3_passHour_35 rfl ?_
        refine r_getfield (o := 5) (v := .ref (S9.2.2 5 3)) dX3_passHour_36 lX3_28 ck5 nC5 rfl ?_
        refine r_topr (fun o17 ho17 => ?_)
        replace h := lt_e ho17 h
        obtain ⟨g18, h⟩ := gd_e h
        refine r_getfield (o := o17) (v := .ref (sr o17 0)) dX3_passHour_39 lX3_65 g18.1 g18.2 rfl ?_
        refine r_iload_n (x := v2) dX3_passHour_42 rfl ?_
        obtain ⟨g19, h⟩ := gd_e h
        obtain ⟨g20, h⟩ := gd_e h
        refine r_iaload (a := (sr o17 0)) dX3_passHour_43 g19.1 g19.2 (inr_IX g20) ?_
        refine r_goto (tgt := 48) dX3_passHour_44 (by decide) ?_
        refine r_topi (fun x21 hx21 => ?_)
        replace h := lt_e hx21 h
        refine r_istore_n (L' := [some (.ref 5), some (.int v1), some (.int v2), some (.int x21)]) dX3_passHour_48 (Nat.le_of_ble_eq_true rfl) rfl rfl ?_
        refine r_aload_n (x := 5) dX3_passHour_49 rfl ?_
        refine r_iload_n (x := v2) dX3_passHour_50 rfl ?_
        refine r_iload_n (x := x21) dX3_passHour_51 rfl ?_
        refine r_aload_n (x := 5) dX3_passHour_52 rfl ?_
        refine r_getfield (o := 5) (v := .ref 27) dX3_passHour_53 lX3_18 ck5 nC5 rfl ?_
        refine r_iload_n (x := v2) dX3_passHour_56 rfl ?_
        obtain ⟨g22, h⟩ := gd_e h
        refine r_iaload (a := 27) dX3_passHour_57 ck27 nC27 (inr_IX g22) ?_
        refine r_iadd dX3_passHour_58 ?_
        obtain ⟨S24, h25, h⟩ := bV_e h
        refine r_cVV (y := mX3_tip) (As := [.int v2, .int (x21 + (S9.1 27 (ix v2)))]) (rest := []) dX3_passHour_59 qX3_68 kX3_tip rfl ob5 vc3 rfl (okX3_tip N v2 (x21 + (S9.1 27 (ix v2))) S9 S24 h25) (by decide) hu rfl (Nat.le_of_ble_eq_true rfl) ?_
        obtain ⟨x26, hx26⟩ : ∃ y : Int32, y = (v2 + 1 : Int32) := ⟨_, rfl⟩
        replace h := lt_e hx26 h
        refine r_iinc (x := v2) (v := x26) (L' := [some (.ref 5), some (.int v1), some (.int x26), some (.int x21)]) dX3_passHour_62 rfl (by rw [hx26]; rfl) (Nat.le_of_ble_eq_true rfl) rfl rfl ?_
        refine r_goto (tgt := 15) dX3_passHour_65 (by decide) ?_
        refine r_drop [true, true, true, false] rfl ?_
        exact ih _ _ _ _ h k0
def fX3_passHour_70 (N : Nat) (v1 : Int32) : Nat → Int32 → PS → Option (Int32 × PS)
  | 0, _, _ => none
  | n + 1, v2, S =>
    lt ((S.2.2 5 3) : Nat) fun o32 =>
    gd (obj o32 1) <|
    (if (S.1 o32 4) ≤ v2 then
      some (v2, S)
    else
      lt ((S.2.2 5 3) : Nat) fun o35 =>
      lt ((S.2.2 5 4) : Nat) fun o36 =>
      gd (obj o35 1) <|
      bI (fX1_leak N o35 o36 v2 S) fun x37 S38 =>
      lt ((S38.2.2 5 4) : Nat) fun o41 =>
      gd (obj o41 2) <|
      gd (arr (sr o41 1) 1 9) <|
      gd (inr v2 9) <|
      gd (arr (sr o41 1) 1 9) <|
      gd (inr v2 9) <|
      lt ((u2 S38.1 (sr o41 1) (ix v2) ((S38.1 (sr o41 1) (ix v2)) - x37), S38.2) : PS) fun S47 =>
      lt ((u2 S47.1 5 6 ((S47.1 5 6) + x37), S47.2) : PS) fun S48 =>
      lt (v2 + 1 : Int32) fun x49 =>
      fX3_passHour_70 N v1 n x49 S48)
set_option maxHeartbeats 4000000 in
set_option maxRecDepth 100000 in
theorem okX3_passHour_70 (N : Nat) (v1 : Int32) (Q : OQ) (u : Nat) (hu : u ≤ 0) : ∀ (n : Nat) (v2 : Int32) (S : PS) (y2 : Int32) (T : PS), fX3_passHour_70 N v1 n v2 S = some (y2, T) → WP [] mX3_passHour 3 0 Q 123 [some (.ref 5), some (.int v1), some (.int y2), none] [] T u → WP [] mX3_passHour 3 0 Q 70 [some (.ref 5), some (.int v1), some (.int v2), none] [] S u := by
  intro n
  induction n with
  | zero => intro v2 S y2 T h; rw [fX3_passHour_70] at h; cases h
  | succ n ih =>
    intro v2 S y2 T h k0
    rw [fX3_passHour_70] at h
    refine r_iload_n (x := v2) dX3_passHour_70 rfl ?_
    refine r_aload_n (x := 5) dX3_passHour_71 rfl ?_
    refine r_getfield (o := 5) (v := .ref (S.2.2 5 3)) dX3_passHour_72 lX3_28 ck5 nC5 rfl ?_
    refine r_topr (fun o32 ho32 => ?_)
    replace h := lt_e ho32 h
    obtain ⟨g33, h⟩ := gd_e h
    refine r_getfield (o := o32) (v := .int (S.1 o32 4)) dX3_passHour_75 lX3_59 g33.1 g33.2 rfl ?_
    refine r_icmp_ge (tgt := 123) dX3_passHour_78 (by decide) (fun c34 => ?_) (fun c34 => ?_)
    · rw [if_pos c34] at h
      cases h
      exact k0
    · rw [if_neg c34] at h
      refine r_aload_n (x := 5) dX3_passHour_81 rfl ?_
      refine r_getfield (o := 5) (v := .ref (S.2.2 5 3)) dX3_passHour_82 lX3_28 ck5 nC5 rfl ?_
      refine r_topr (fun o35 ho35 => ?_)
      replace h := lt_e ho35 h
      refine r_aload_n (x := 5) dX3_passHour_85 rfl ?_
      refine r_getfield (o := 5) (v := .ref (S.2.2 5 4)) dX3_passHour_86 lX3_32 ck5 nC5 rfl ?_
      refine r_topr (fun o36 ho36 => ?_)
      replace h := lt_e ho36 h
      refine r_iload_n (x := v2) dX3_passHour_89 rfl ?_
      obtain ⟨g40, h⟩ := gd_e h
      obtain ⟨x37, S38, h39, h⟩ := bI_e h
      refine r_cVI (y := mX1_leak) (As := [.ref o36, .int v2]) (rest := []) dX3_passHour_90 qX3_72 kX1_leak rfl g40 vc1 rfl (okX1_leak N o35 o36 v2 S x37 S38 h39) (by decide) hu rfl (Nat.le_of_ble_eq_true rfl) ?_
      refine r_istore_n (L' := [some (.ref 5), some (.int v1), some (.int v2), some (.int x37)]) dX3_passHour_93 (Nat.le_of_ble_eq_true rfl) rfl rfl ?_
      refine r_aload_n (x := 5) dX3_passHour_94 rfl ?_
      refine r_getfield (o := 5) (v := .ref (S38.2.2 5 4)) dX3_passHour_95 lX3_32 ck5 nC5 rfl ?_
      refine r_topr (fun o41 ho41 => ?_)
      replace h := lt_e ho41 h
      obtain ⟨g42, h⟩ := gd_e h
      refine r_getfield (o := o41) (v := .ref (sr o41 1)) dX3_passHour_98 lX3_76 g42.1 g42.2 rfl ?_
      refine r_iload_n (x := v2) dX3_passHour_101 rfl ?_
      refine r_dup2 dX3_passHour_102 ?_
      obtain ⟨g43, h⟩ := gd_e h
      obtain ⟨g44, h⟩ := gd_e h
      refine r_iaload (a := (sr o41 1)) dX3_passHour_103 g43.1 g43.2 (inr_IX g44) ?_
      refine r_iload_n (x := x37) dX3_passHour_104 rfl ?_
      refine r_isub dX3_passHour_105 ?_
      obtain ⟨g45, h⟩ := gd_e h
      obtain ⟨g46, h⟩ := gd_e h
      refine r_iastore (a := (sr o41 1)) dX3_passHour_106 g45.1 g45.2 (inr_IX g46) ?_
      refine r_topS (fun S47 hS47 => ?_)
      replace h := lt_e hS47 h
      refine r_aload_n (x := 5) dX3_passHour_107 rfl ?_
      refine r_dup_ref dX3_passHour_108 ?_
      refine r_getfield (o := 5) (v := .int (S47.1 5 6)) dX3_passHour_109 lX3_39 ck5 nC5 rfl ?_
      refine r_iload_n (x := x37) dX3_passHour_112 rfl ?_
      refine r_iadd dX3_passHour_113 ?_
      refine r_putI dX3_passHour_114 lX3_39 ck5 nC5 ?_
      refine r_topS (fun S48 hS48 => ?_)
      replace h := lt_e hS48 h
      obtain ⟨x49, hx49⟩ : ∃ y : Int32, y = (v2 + 1 : Int32) := ⟨_, rfl⟩
      replace h := lt_e hx49 h
      refine r_iinc (x := v2) (v := x49) (L' := [some (.ref 5), some (.int v1), some (.int x49), some (.int x37)]) dX3_passHour_117 rfl (by rw [hx49]; rfl) (Nat.le_of_ble_eq_true rfl) rfl rfl ?_
      refine r_goto (tgt := 70) dX3_passHour_120 (by decide) ?_
      refine r_drop [true, true, true, false] rfl ?_
      exact ih _ _ _ _ h k0
def fX3_passHour (N : Nat) (p0 : Int32) (S : PS) : Option PS :=
  bV (fJ7_fill_53178 N 27 0 S) fun S2 =>
  lt ((u2 S2.1 5 5 0, S2.2) : PS) fun S4 =>
  bT (fX3_passHour_15 N p0 N 0 S4) fun q27 =>
  lt (q27.1 : Int32) fun x28 =>
  lt (q27.2 : PS) fun S29 =>
  bT (fX3_passHour_70 N p0 N 0 S29) fun q50 =>
  lt (q50.1 : Int32) fun x51 =>
  lt (q50.2 : PS) fun S52 =>
  lt ((S52.2.2 5 4) : Nat) fun o55 =>
  gd (obj o55 2) <|
  gd (obj o55 2) <|
  lt ((u2 S52.1 o55 6 ((S52.1 o55 6) + 1), S52.2) : PS) fun S58 =>
  some S58
set_option maxHeartbeats 4000000 in
set_option maxRecDepth 100000 in
theorem okX3_passHour (N : Nat) (p0 : Int32) (S : PS) (T : PS) (h : fX3_passHour N p0 S = some T) : CT mX3_passHour 3 0 [.ref 5, .int p0] S (qV T) := by
  refine ct_of [some (.ref 5), some (.int p0), none, none] rfl (fun _ => rfl) (fun _ => Nat.le_of_ble_eq_true rfl) ?_
  unfold fX3_passHour at h
  refine r_aload_n (x := 5) dX3_passHour_0 rfl ?_
  refine r_getfield (o := 5) (v := .ref 27) dX3_passHour_1 lX3_18 ck5 nC5 rfl ?_
  refine r_iconst (v := 0) dX3_passHour_4 rfl ?_
  obtain ⟨S2, h3, h⟩ := bV_e h
  refine r_cSV (y := mJ7_fill_53178) (As := [.ref 27, .int 0]) (rest := []) dX3_passHour_5 qX3_42 kJ7_fill_53178 rfl (okJ7_fill_53178 N 27 0 S S2 h3) (by decide) (Nat.zero_le _) rfl (Nat.le_of_ble_eq_true rfl) ?_
  refine r_aload_n (x := 5) dX3_passHour_8 rfl ?_
  refine r_iconst (v := 0) dX3_passHour_9 rfl ?_
  refine r_putI dX3_passHour_10 lX3_35 ck5 nC5 ?_
  refine r_topS (fun S4 hS4 => ?_)
  replace h := lt_e hS4 h
  refine r_iconst (v := 0) dX3_passHour_13 rfl ?_
  refine r_istore_n (L' := [some (.ref 5), some (.int p0), some (.int 0), none]) dX3_passHour_14 (Nat.le_of_ble_eq_true rfl) rfl rfl ?_
  obtain ⟨⟨x28, S29⟩, h31, h⟩ := bT_e h
  dsimp only at h
  replace h := pl_s (pl_s (h))
  refine okX3_passHour_15 N p0 (qV T) 0 (Nat.zero_le _) _ _ _ _ _ h31 ?_
  refine r_iconst (v := 0) dX3_passHour_68 rfl ?_
  refine r_istore_n (L' := [some (.ref 5), some (.int p0), some (.int 0), none]) dX3_passHour_69 (Nat.le_of_ble_eq_true rfl) rfl rfl ?_
  obtain ⟨⟨x51, S52⟩, h54, h⟩ := bT_e h
  dsimp only at h
  replace h := pl_s (pl_s (h))
  refine okX3_passHour_70 N p0 (qV T) 0 (Nat.zero_le _) _ _ _ _ _ h54 ?_
  refine r_aload_n (x := 5) dX3_passHour_123 rfl ?_
  refine r_getfield (o := 5) (v := .ref (S52.2.2 5 4)) dX3_passHour_124 lX3_32 ck5 nC5 rfl ?_
  refine r_topr (fun o55 ho55 => ?_)
  replace h := lt_e ho55 h
  refine r_dup_ref dX3_passHour_127 ?_
  obtain ⟨g56, h⟩ := gd_e h
  refine r_getfield (o := o55) (v := .int (S52.1 o55 6)) dX3_passHour_128 lX3_78 g56.1 g56.2 rfl ?_
  refine r_iconst (v := 1) dX3_passHour_131 rfl ?_
  refine r_iadd dX3_passHour_132 ?_
  obtain ⟨g57, h⟩ := gd_e h
  refine r_putI dX3_passHour_133 lX3_78 g57.1 g57.2 ?_
  refine r_topS (fun S58 hS58 => ?_)
  replace h := lt_e hS58 h
  cases h
  exact r_return dX3_passHour_136 rfl (Nat.zero_le _) ⟨rfl, rfl⟩
def fX3_fillUp_32 (N : Nat) (v1 : Int32) (v2 : Int32) : Nat → Int32 → PS → Option (Int32 × PS)
  | 0, _, _ => none
  | n + 1, v3, S =>
    lt ((S.2.2 5 3) : Nat) fun o6 =>
    gd (obj o6 1) <|
    (if (S.1 o6 4) ≤ v3 then
      some (v3, S)
    else
      gd (inr v3 9) <|
      bV (fX3_tip N v3 (S.1 27 (ix v3)) S) fun S11 =>
      lt (v3 + 1 : Int32) fun x13 =>
      fX3_fillUp_32 N v1 v2 n x13 S11)
set_option maxHeartbeats 4000000 in
set_option maxRecDepth 100000 in
theorem okX3_fillUp_32 (N : Nat) (v1 : Int32) (v2 : Int32) (Q : OQ) (u : Nat) (hu : u ≤ 0) : ∀ (n : Nat) (v3 : Int32) (S : PS) (y3 : Int32) (T : PS), fX3_fillUp_32 N v1 v2 n v3 S = some (y3, T) → WP [] mX3_fillUp 3 0 Q 60 [some (.ref 5), some (.int v1), some (.int v2), some (.int y3)] [] T u → WP [] mX3_fillUp 3 0 Q 32 [some (.ref 5), some (.int v1), some (.int v2), some (.int v3)] [] S u := by
  intro n
  induction n with
  | zero => intro v3 S y3 T h; rw [fX3_fillUp_32] at h; cases h
  | succ n ih =>
    intro v3 S y3 T h k0
    rw [fX3_fillUp_32] at h
    refine r_iload_n (x := v3) dX3_fillUp_32 rfl ?_
    refine r_aload_n (x := 5) dX3_fillUp_33 rfl ?_
    refine r_getfield (o := 5) (v := .ref (S.2.2 5 3)) dX3_fillUp_34 lX3_28 ck5 nC5 rfl ?_
    refine r_topr (fun o6 ho6 => ?_)
    replace h := lt_e ho6 h
    obtain ⟨g7, h⟩ := gd_e h
    refine r_getfield (o := o6) (v := .int (S.1 o6 4)) dX3_fillUp_37 lX3_59 g7.1 g7.2 rfl ?_
    refine r_icmp_ge (tgt := 60) dX3_fillUp_40 (by decide) (fun c8 => ?_) (fun c8 => ?_)
    · rw [if_pos c8] at h
      cases h
      exact k0
    · rw [if_neg c8] at h
      refine r_aload_n (x := 5) dX3_fillUp_43 rfl ?_
      refine r_iload_n (x := v3) dX3_fillUp_44 rfl ?_
      refine r_aload_n (x := 5) dX3_fillUp_45 rfl ?_
      refine r_getfield (o := 5) (v := .ref 27) dX3_fillUp_46 lX3_18 ck5 nC5 rfl ?_
      refine r_iload_n (x := v3) dX3_fillUp_49 rfl ?_
      obtain ⟨g9, h⟩ := gd_e h
      refine r_iaload (a := 27) dX3_fillUp_50 ck27 nC27 (inr_IX g9) ?_
      obtain ⟨S11, h12, h⟩ := bV_e h
      refine r_cVV (y := mX3_tip) (As := [.int v3, .int (S.1 27 (ix v3))]) (rest := []) dX3_fillUp_51 qX3_68 kX3_tip rfl ob5 vc3 rfl (okX3_tip N v3 (S.1 27 (ix v3)) S S11 h12) (by decide) hu rfl (Nat.le_of_ble_eq_true rfl) ?_
      obtain ⟨x13, hx13⟩ : ∃ y : Int32, y = (v3 + 1 : Int32) := ⟨_, rfl⟩
      replace h := lt_e hx13 h
      refine r_iinc (x := v3) (v := x13) (L' := [some (.ref 5), some (.int v1), some (.int v2), some (.int x13)]) dX3_fillUp_54 rfl (by rw [hx13]; rfl) (Nat.le_of_ble_eq_true rfl) rfl rfl ?_
      refine r_goto (tgt := 32) dX3_fillUp_57 (by decide) ?_
      exact ih _ _ _ _ h k0
def fX3_fillUp (N : Nat) (p0 : Int32) (p1 : Int32) (S : PS) : Option PS :=
  bV (fJ7_fill_53178 N 27 0 S) fun S2 =>
  lt ((u2 S2.1 5 5 0, S2.2) : PS) fun S4 =>
  (if p0 < 0 then
    bT (fX3_fillUp_32 N p0 p1 N 0 S4) fun q14 =>
    lt (q14.1 : Int32) fun x15 =>
    lt (q14.2 : PS) fun S16 =>
    some S16
  else
    (if 9 ≤ p0 then
      bT (fX3_fillUp_32 N p0 p1 N 0 S4) fun q20 =>
      lt (q20.1 : Int32) fun x21 =>
      lt (q20.2 : PS) fun S22 =>
      some S22
    else
      gd (inr p0 9) <|
      lt ((u2 S4.1 27 (ix p0) p1, S4.2) : PS) fun S26 =>
      bT (fX3_fillUp_32 N p0 p1 N 0 S26) fun q27 =>
      lt (q27.1 : Int32) fun x28 =>
      lt (q27.2 : PS) fun S29 =>
      some S29))
set_option maxHeartbeats 4000000 in
set_option maxRecDepth 100000 in
theorem okX3_fillUp (N : Nat) (p0 : Int32) (p1 : Int32) (S : PS) (T : PS) (h : fX3_fillUp N p0 p1 S = some T) : CT mX3_fillUp 3 0 [.ref 5, .int p0, .int p1] S (qV T) := by
  refine ct_of [some (.ref 5), some (.int p0), some (.int p1), none] rfl (fun _ => rfl) (fun _ => Nat.le_of_ble_eq_true rfl) ?_
  unfold fX3_fillUp at h
  refine r_aload_n (x := 5) dX3_fillUp_0 rfl ?_
  refine r_getfield (o := 5) (v := .ref 27) dX3_fillUp_1 lX3_18 ck5 nC5 rfl ?_
  refine r_iconst (v := 0) dX3_fillUp_4 rfl ?_
  obtain ⟨S2, h3, h⟩ := bV_e h
  refine r_cSV (y := mJ7_fill_53178) (As := [.ref 27, .int 0]) (rest := []) dX3_fillUp_5 qX3_42 kJ7_fill_53178 rfl (okJ7_fill_53178 N 27 0 S S2 h3) (by decide) (Nat.zero_le _) rfl (Nat.le_of_ble_eq_true rfl) ?_
  refine r_aload_n (x := 5) dX3_fillUp_8 rfl ?_
  refine r_iconst (v := 0) dX3_fillUp_9 rfl ?_
  refine r_putI dX3_fillUp_10 lX3_35 ck5 nC5 ?_
  refine r_topS (fun S4 hS4 => ?_)
  replace h := lt_e hS4 h
  refine r_iload_n (x := p0) dX3_fillUp_13 rfl ?_
  refine r_if_lt (tgt := 30) dX3_fillUp_14 (by decide) (fun c5 => ?_) (fun c5 => ?_)
  · rw [if_pos c5] at h
    refine r_iconst (v := 0) dX3_fillUp_30 rfl ?_
    refine r_istore_n (L' := [some (.ref 5), some (.int p0), some (.int p1), some (.int 0)]) dX3_fillUp_31 (Nat.le_of_ble_eq_true rfl) rfl rfl ?_
    obtain ⟨⟨x15, S16⟩, h18, h⟩ := bT_e h
    dsimp only at h
    replace h := pl_s (pl_s (h))
    refine okX3_fillUp_32 N p0 p1 (qV T) 0 (Nat.zero_le _) _ _ _ _ _ h18 ?_
    cases h
    exact r_return dX3_fillUp_60 rfl (Nat.zero_le _) ⟨rfl, rfl⟩
  · rw [if_neg c5] at h
    refine r_iload_n (x := p0) dX3_fillUp_17 rfl ?_
    refine r_bipush (v := 9) dX3_fillUp_18 rfl ?_
    refine r_icmp_ge (tgt := 30) dX3_fillUp_20 (by decide) (fun c19 => ?_) (fun c19 => ?_)
    · rw [if_pos c19] at h
      refine r_iconst (v := 0) dX3_fillUp_30 rfl ?_
      refine r_istore_n (L' := [some (.ref 5), some (.int p0), some (.int p1), some (.int 0)]) dX3_fillUp_31 (Nat.le_of_ble_eq_true rfl) rfl rfl ?_
      obtain ⟨⟨x21, S22⟩, h24, h⟩ := bT_e h
      dsimp only at h
      replace h := pl_s (pl_s (h))
      refine okX3_fillUp_32 N p0 p1 (qV T) 0 (Nat.zero_le _) _ _ _ _ _ h24 ?_
      cases h
      exact r_return dX3_fillUp_60 rfl (Nat.zero_le _) ⟨rfl, rfl⟩
    · rw [if_neg c19] at h
      refine r_aload_n (x := 5) dX3_fillUp_23 rfl ?_
      refine r_getfield (o := 5) (v := .ref 27) dX3_fillUp_24 lX3_18 ck5 nC5 rfl ?_
      refine r_iload_n (x := p0) dX3_fillUp_27 rfl ?_
      refine r_iload_n (x := p1) dX3_fillUp_28 rfl ?_
      obtain ⟨g25, h⟩ := gd_e h
      refine r_iastore (a := 27) dX3_fillUp_29 ck27 nC27 (inr_IX g25) ?_
      refine r_topS (fun S26 hS26 => ?_)
      replace h := lt_e hS26 h
      refine r_iconst (v := 0) dX3_fillUp_30 rfl ?_
      refine r_istore_n (L' := [some (.ref 5), some (.int p0), some (.int p1), some (.int 0)]) dX3_fillUp_31 (Nat.le_of_ble_eq_true rfl) rfl rfl ?_
      obtain ⟨⟨x28, S29⟩, h31, h⟩ := bT_e h
      dsimp only at h
      replace h := pl_s (pl_s (h))
      refine okX3_fillUp_32 N p0 p1 (qV T) 0 (Nat.zero_le _) _ _ _ _ _ h31 ?_
      cases h
      exact r_return dX3_fillUp_60 rfl (Nat.zero_le _) ⟨rfl, rfl⟩
def fX7_readCup (N : Nat)  (S : PS) : Option PS :=
  lt ((S.2.2 1 1) : Nat) fun o1 =>
  gd (obj o1 1) <|
  (if (S.1 o1 4) < 9 then
    bV (fX10_take N  S) fun S5 =>
    bI (fX7_readNumber N 1 30 S5) fun x7 S8 =>
    bI (fX7_readNumber N 0 (x7 - 1) S8) fun x10 S11 =>
    bI (fX7_readNumber N 0 20 S11) fun x13 S14 =>
    bV (fX7_readSign N 59 S14) fun S17 =>
    (if (S17.1 1 3) = 0 then
      lt ((S17.2.2 1 1) : Nat) fun o20 =>
      gd (obj o20 1) <|
      bV (fX1_addCup N o20 x7 x10 x13 S17) fun S22 =>
      some S22
    else
      some S17)
  else
    bI (fX7_fail N 2 S) fun x25 S26 =>
    some S26)
set_option maxHeartbeats 4000000 in
set_option maxRecDepth 100000 in
theorem okX7_readCup (N : Nat)  (S : PS) (T : PS) (h : fX7_readCup N  S = some T) : CT mX7_readCup 3 0 [.ref 1] S (qV T) := by
  refine ct_of [some (.ref 1), none, none, none] rfl (fun _ => rfl) (fun _ => Nat.le_of_ble_eq_true rfl) ?_
  unfold fX7_readCup at h
  refine r_aload_n (x := 1) dX7_readCup_0 rfl ?_
  refine r_getfield (o := 1) (v := .ref (S.2.2 1 1)) dX7_readCup_1 lX7_21 ck1 nC1 rfl ?_
  refine r_topr (fun o1 ho1 => ?_)
  replace h := lt_e ho1 h
  obtain ⟨g2, h⟩ := gd_e h
  refine r_getfield (o := o1) (v := .int (S.1 o1 4)) dX7_readCup_4 lX7_86 g2.1 g2.2 rfl ?_
  refine r_bipush (v := 9) dX7_readCup_7 rfl ?_
  refine r_icmp_lt (tgt := 19) dX7_readCup_9 (by decide) (fun c3 => ?_) (fun c3 => ?_)
  · rw [if_pos c3] at h
    refine r_aload_n (x := 1) dX7_readCup_19 rfl ?_
    refine r_getfield (o := 1) (v := .ref 2) dX7_readCup_20 lX7_12 ck1 nC1 rfl ?_
    obtain ⟨S5, h6, h⟩ := bV_e h
    refine r_cVV (y := mX10_take) (As := []) (rest := []) dX7_readCup_23 qX7_83 kX10_take rfl ob2 vc10 rfl (okX10_take N  S S5 h6) (by decide) (Nat.zero_le _) rfl (Nat.le_of_ble_eq_true rfl) ?_
    refine r_aload_n (x := 1) dX7_readCup_26 rfl ?_
    refine r_iconst (v := 1) dX7_readCup_27 rfl ?_
    refine r_bipush (v := 30) dX7_readCup_28 rfl ?_
    obtain ⟨x7, S8, h9, h⟩ := bI_e h
    refine r_cVI (y := mX7_readNumber) (As := [.int 1, .int 30]) (rest := []) dX7_readCup_30 qX7_89 kX7_readNumber rfl ob1 vc7 rfl (okX7_readNumber N 1 30 S5 x7 S8 h9) (by decide) (Nat.zero_le _) rfl (Nat.le_of_ble_eq_true rfl) ?_
    refine r_istore_n (L' := [some (.ref 1), some (.int x7), none, none]) dX7_readCup_33 (Nat.le_of_ble_eq_true rfl) rfl rfl ?_
    refine r_aload_n (x := 1) dX7_readCup_34 rfl ?_
    refine r_iconst (v := 0) dX7_readCup_35 rfl ?_
    refine r_iload_n (x := x7) dX7_readCup_36 rfl ?_
    refine r_iconst (v := 1) dX7_readCup_37 rfl ?_
    refine r_isub dX7_readCup_38 ?_
    obtain ⟨x10, S11, h12, h⟩ := bI_e h
    refine r_cVI (y := mX7_readNumber) (As := [.int 0, .int (x7 - 1)]) (rest := []) dX7_readCup_39 qX7_89 kX7_readNumber rfl ob1 vc7 rfl (okX7_readNumber N 0 (x7 - 1) S8 x10 S11 h12) (by decide) (Nat.zero_le _) rfl (Nat.le_of_ble_eq_true rfl) ?_
    refine r_istore_n (L' := [some (.ref 1), some (.int x7), some (.int x10), none]) dX7_readCup_42 (Nat.le_of_ble_eq_true rfl) rfl rfl ?_
    refine r_aload_n (x := 1) dX7_readCup_43 rfl ?_
    refine r_iconst (v := 0) dX7_readCup_44 rfl ?_
    refine r_bipush (v := 20) dX7_readCup_45 rfl ?_
    obtain ⟨x13, S14, h15, h⟩ := bI_e h
    refine r_cVI (y := mX7_readNumber) (As := [.int 0, .int 20]) (rest := []) dX7_readCup_47 qX7_89 kX7_readNumber rfl ob1 vc7 rfl (okX7_readNumber N 0 20 S11 x13 S14 h15) (by decide) (Nat.zero_le _) rfl (Nat.le_of_ble_eq_true rfl) ?_
    refine r_istore_n (L' := [some (.ref 1), some (.int x7), some (.int x10), some (.int x13)]) dX7_readCup_50 (Nat.le_of_ble_eq_true rfl) rfl rfl ?_
    refine r_aload_n (x := 1) dX7_readCup_51 rfl ?_
    refine r_bipush (v := 59) dX7_readCup_52 rfl ?_
    obtain ⟨S17, h18, h⟩ := bV_e h
    refine r_cVV (y := mX7_readSign) (As := [.int 59]) (rest := []) dX7_readCup_54 qX7_93 kX7_readSign rfl ob1 vc7 rfl (okX7_readSign N 59 S14 S17 h18) (by decide) (Nat.zero_le _) rfl (Nat.le_of_ble_eq_true rfl) ?_
    refine r_aload_n (x := 1) dX7_readCup_57 rfl ?_
    refine r_getfield (o := 1) (v := .int (S17.1 1 3)) dX7_readCup_58 lX7_32 ck1 nC1 rfl ?_
    refine r_if_ne (tgt := 74) dX7_readCup_61 (by decide) (fun c19 => ?_) (fun c19 => ?_)
    · rw [if_neg c19] at h
      cases h
      exact r_return dX7_readCup_74 rfl (Nat.zero_le _) ⟨rfl, rfl⟩
    · rw [if_pos c19] at h
      refine r_aload_n (x := 1) dX7_readCup_64 rfl ?_
      refine r_getfield (o := 1) (v := .ref (S17.2.2 1 1)) dX7_readCup_65 lX7_21 ck1 nC1 rfl ?_
      refine r_topr (fun o20 ho20 => ?_)
      replace h := lt_e ho20 h
      refine r_iload_n (x := x7) dX7_readCup_68 rfl ?_
      refine r_iload_n (x := x10) dX7_readCup_69 rfl ?_
      refine r_iload_n (x := x13) dX7_readCup_70 rfl ?_
      obtain ⟨g24, h⟩ := gd_e h
      obtain ⟨S22, h23, h⟩ := bV_e h
      refine r_cVV (y := mX1_addCup) (As := [.int x7, .int x10, .int x13]) (rest := []) dX7_readCup_71 qX7_97 kX1_addCup rfl g24 vc1 rfl (okX1_addCup N o20 x7 x10 x13 S17 S22 h23) (by decide) (Nat.zero_le _) rfl (Nat.le_of_ble_eq_true rfl) ?_
      cases h
      exact r_return dX7_readCup_74 rfl (Nat.zero_le _) ⟨rfl, rfl⟩
  · rw [if_neg c3] at h
    refine r_aload_n (x := 1) dX7_readCup_12 rfl ?_
    refine r_iconst (v := 2) dX7_readCup_13 rfl ?_
    obtain ⟨x25, S26, h27, h⟩ := bI_e h
    refine r_cVI (y := mX7_fail) (As := [.int 2]) (rest := []) dX7_readCup_14 qX7_72 kX7_fail rfl ob1 vc7 rfl (okX7_fail N 2 S x25 S26 h27) (by decide) (Nat.zero_le _) rfl (Nat.le_of_ble_eq_true rfl) ?_
    refine r_pop_int dX7_readCup_17 ?_
    cases h
    exact r_return dX7_readCup_18 rfl (Nat.zero_le _) ⟨rfl, rfl⟩
def fX7_readPipe (N : Nat)  (S : PS) : Option PS :=
  bV (fX10_take N  S) fun S2 =>
  bI (fX7_lookAtCup N  S2) fun x4 S5 =>
  (if x4 = (-1) then
    some S5
  else
    lt ((S5.2.2 1 1) : Nat) fun o8 =>
    gd (obj o8 1) <|
    gd (obj (sr o8 1) 2) <|
    gd (arr (sr (sr o8 1) 2) 1 9) <|
    gd (inr x4 9) <|
    (if (S5.1 (sr (sr o8 1) 2) (ix x4)) = (-1) then
      bV (fX10_take N  S5) fun S15 =>
      bI (fX7_readInto N x4 (-1) S15) fun x17 S18 =>
      (if x17 = (-1) then
        bV (fX7_readSign N 59 S18) fun S22 =>
        (if (S22.1 1 3) = 0 then
          lt ((S22.2.2 1 1) : Nat) fun o25 =>
          gd (obj o25 1) <|
          gd (obj (sr o25 1) 2) <|
          gd (arr (sr (sr o25 1) 2) 1 9) <|
          gd (inr x4 9) <|
          lt ((u2 S22.1 (sr (sr o25 1) 2) (ix x4) x17, S22.2) : PS) fun S30 =>
          lt ((S30.2.2 1 1) : Nat) fun o31 =>
          gd (obj o31 1) <|
          gd (obj (sr o31 1) 2) <|
          gd (arr (sr (sr o31 1) 3) 1 9) <|
          gd (inr x4 9) <|
          lt ((u2 S30.1 (sr (sr o31 1) 3) (ix x4) (-1), S30.2) : PS) fun S36 =>
          some S36
        else
          some S22)
      else
        (if (S18.1 2 5) = 2 then
          bI (fX7_readInto N x4 x17 S18) fun x54 S55 =>
          bV (fX7_readSign N 59 S55) fun S58 =>
          (if (S58.1 1 3) = 0 then
            lt ((S58.2.2 1 1) : Nat) fun o61 =>
            gd (obj o61 1) <|
            gd (obj (sr o61 1) 2) <|
            gd (arr (sr (sr o61 1) 2) 1 9) <|
            gd (inr x4 9) <|
            lt ((u2 S58.1 (sr (sr o61 1) 2) (ix x4) x17, S58.2) : PS) fun S66 =>
            lt ((S66.2.2 1 1) : Nat) fun o67 =>
            gd (obj o67 1) <|
            gd (obj (sr o67 1) 2) <|
            gd (arr (sr (sr o67 1) 3) 1 9) <|
            gd (inr x4 9) <|
            lt ((u2 S66.1 (sr (sr o67 1) 3) (ix x4) x54, S66.2) : PS) fun S72 =>
            some S72
          else
            some S58)
        else
          bV (fX7_readSign N 59 S18) fun S39 =>
          (if (S39.1 1 3) = 0 then
            lt ((S39.2.2 1 1) : Nat) fun o42 =>
            gd (obj o42 1) <|
            gd (obj (sr o42 1) 2) <|
            gd (arr (sr (sr o42 1) 2) 1 9) <|
            gd (inr x4 9) <|
            lt ((u2 S39.1 (sr (sr o42 1) 2) (ix x4) x17, S39.2) : PS) fun S47 =>
            lt ((S47.2.2 1 1) : Nat) fun o48 =>
            gd (obj o48 1) <|
            gd (obj (sr o48 1) 2) <|
            gd (arr (sr (sr o48 1) 3) 1 9) <|
            gd (inr x4 9) <|
            lt ((u2 S47.1 (sr (sr o48 1) 3) (ix x4) (-1), S47.2) : PS) fun S53 =>
            some S53
          else
            some S39)))
    else
      bI (fX7_fail N 4 S5) fun x73 S74 =>
      some S74))
set_option maxHeartbeats 4000000 in
set_option maxRecDepth 100000 in
theorem okX7_readPipe (N : Nat)  (S : PS) (T : PS) (h : fX7_readPipe N  S = some T) : CT mX7_readPipe 3 0 [.ref 1] S (qV T) := by
  refine ct_of [some (.ref 1), none, none, none] rfl (fun _ => rfl) (fun _ => Nat.le_of_ble_eq_true rfl) ?_
  unfold fX7_readPipe at h
  refine r_aload_n (x := 1) dX7_readPipe_0 rfl ?_
  refine r_getfield (o := 1) (v := .ref 2) dX7_readPipe_1 lX7_12 ck1 nC1 rfl ?_
  obtain ⟨S2, h3, h⟩ := bV_e h
  refine r_cVV (y := mX10_take) (As := []) (rest := []) dX7_readPipe_4 qX7_83 kX10_take rfl ob2 vc10 rfl (okX10_take N  S S2 h3) (by decide) (Nat.zero_le _) rfl (Nat.le_of_ble_eq_true rfl) ?_
  refine r_aload_n (x := 1) dX7_readPipe_7 rfl ?_
  obtain ⟨x4, S5, h6, h⟩ := bI_e h
  refine r_cVI (y := mX7_lookAtCup) (As := []) (rest := []) dX7_readPipe_8 qX7_108 kX7_lookAtCup rfl ob1 vc7 rfl (okX7_lookAtCup N  S2 x4 S5 h6) (by decide) (Nat.zero_le _) rfl (Nat.le_of_ble_eq_true rfl) ?_
  refine r_istore_n (L' := [some (.ref 1), some (.int x4), none, none]) dX7_readPipe_11 (Nat.le_of_ble_eq_true rfl) rfl rfl ?_
  refine r_iload_n (x := x4) dX7_readPipe_12 rfl ?_
  refine r_iconst (v := (-1)) dX7_readPipe_13 rfl ?_
  refine r_icmp_ne (tgt := 18) dX7_readPipe_14 (by decide) (fun c7 => ?_) (fun c7 => ?_)
  · rw [if_neg c7] at h
    refine r_aload_n (x := 1) dX7_readPipe_18 rfl ?_
    refine r_getfield (o := 1) (v := .ref (S5.2.2 1 1)) dX7_readPipe_19 lX7_21 ck1 nC1 rfl ?_
    refine r_topr (fun o8 ho8 => ?_)
    replace h := lt_e ho8 h
    obtain ⟨g9, h⟩ := gd_e h
    refine r_getfield (o := o8) (v := .ref (sr o8 1)) dX7_readPipe_22 lX7_112 g9.1 g9.2 rfl ?_
    obtain ⟨g10, h⟩ := gd_e h
    refine r_getfield (o := (sr o8 1)) (v := .ref (sr (sr o8 1) 2)) dX7_readPipe_25 lX7_116 g10.1 g10.2 rfl ?_
    refine r_iload_n (x := x4) dX7_readPipe_28 rfl ?_
    obtain ⟨g11, h⟩ := gd_e h
    obtain ⟨g12, h⟩ := gd_e h
    refine r_iaload (a := (sr (sr o8 1) 2)) dX7_readPipe_29 g11.1 g11.2 (inr_IX g12) ?_
    refine r_iconst (v := (-1)) dX7_readPipe_30 rfl ?_
    refine r_icmp_eq (tgt := 41) dX7_readPipe_31 (by decide) (fun c13 => ?_) (fun c13 => ?_)
    · rw [if_pos c13] at h
      refine r_aload_n (x := 1) dX7_readPipe_41 rfl ?_
      refine r_getfield (o := 1) (v := .ref 2) dX7_readPipe_42 lX7_12 ck1 nC1 rfl ?_
      obtain ⟨S15, h16, h⟩ := bV_e h
      refine r_cVV (y := mX10_take) (As := []) (rest := []) dX7_readPipe_45 qX7_83 kX10_take rfl ob2 vc10 rfl (okX10_take N  S5 S15 h16) (by decide) (Nat.zero_le _) rfl (Nat.le_of_ble_eq_true rfl) ?_
      refine r_aload_n (x := 1) dX7_readPipe_48 rfl ?_
      refine r_iload_n (x := x4) dX7_readPipe_49 rfl ?_
      refine r_iconst (v := (-1)) dX7_readPipe_50 rfl ?_
      obtain ⟨x17, S18, h19, h⟩ := bI_e h
      refine r_cVI (y := mX7_readInto) (As := [.int x4, .int (-1)]) (rest := []) dX7_readPipe_51 qX7_122 kX7_readInto rfl ob1 vc7 rfl (okX7_readInto N x4 (-1) S15 x17 S18 h19) (by decide) (Nat.zero_le _) rfl (Nat.le_of_ble_eq_true rfl) ?_
      refine r_istore_n (L' := [some (.ref 1), some (.int x4), some (.int x17), none]) dX7_readPipe_54 (Nat.le_of_ble_eq_true rfl) rfl rfl ?_
      refine r_iload_n (x := x17) dX7_readPipe_55 rfl ?_
      refine r_iconst (v := (-1)) dX7_readPipe_56 rfl ?_
      refine r_icmp_eq (tgt := 80) dX7_readPipe_57 (by decide) (fun c20 => ?_) (fun c20 => ?_)
      · rw [if_pos c20] at h
        refine r_iconst (v := (-1)) dX7_readPipe_80 rfl ?_
        refine r_istore_n (L' := [some (.ref 1), some (.int x4), some (.int x17), some (.int (-1))]) dX7_readPipe_81 (Nat.le_of_ble_eq_true rfl) rfl rfl ?_
        refine r_aload_n (x := 1) dX7_readPipe_82 rfl ?_
        refine r_bipush (v := 59) dX7_readPipe_83 rfl ?_
        obtain ⟨S22, h23, h⟩ := bV_e h
        refine r_cVV (y := mX7_readSign) (As := [.int 59]) (rest := []) dX7_readPipe_85 qX7_93 kX7_readSign rfl ob1 vc7 rfl (okX7_readSign N 59 S18 S22 h23) (by decide) (Nat.zero_le _) rfl (Nat.le_of_ble_eq_true rfl) ?_
        refine r_aload_n (x := 1) dX7_readPipe_88 rfl ?_
        refine r_getfield (o := 1) (v := .int (S22.1 1 3)) dX7_readPipe_89 lX7_32 ck1 nC1 rfl ?_
        refine r_if_ne (tgt := 121) dX7_readPipe_92 (by decide) (fun c24 => ?_) (fun c24 => ?_)
        · rw [if_neg c24] at h
          cases h
          exact r_return dX7_readPipe_121 rfl (Nat.zero_le _) ⟨rfl, rfl⟩
        · rw [if_pos c24] at h
          refine r_aload_n (x := 1) dX7_readPipe_95 rfl ?_
          refine r_getfield (o := 1) (v := .ref (S22.2.2 1 1)) dX7_readPipe_96 lX7_21 ck1 nC1 rfl ?_
          refine r_topr (fun o25 ho25 => ?_)
          replace h := lt_e ho25 h
          obtain ⟨g26, h⟩ := gd_e h
          refine r_getfield (o := o25) (v := .ref (sr o25 1)) dX7_readPipe_99 lX7_112 g26.1 g26.2 rfl ?_
          obtain ⟨g27, h⟩ := gd_e h
          refine r_getfield (o := (sr o25 1)) (v := .ref (sr (sr o25 1) 2)) dX7_readPipe_102 lX7_116 g27.1 g27.2 rfl ?_
          refine r_iload_n (x := x4) dX7_readPipe_105 rfl ?_
          refine r_iload_n (x := x17) dX7_readPipe_106 rfl ?_
          obtain ⟨g28, h⟩ := gd_e h
          obtain ⟨g29, h⟩ := gd_e h
          refine r_iastore (a := (sr (sr o25 1) 2)) dX7_readPipe_107 g28.1 g28.2 (inr_IX g29) ?_
          refine r_topS (fun S30 hS30 => ?_)
          replace h := lt_e hS30 h
          refine r_aload_n (x := 1) dX7_readPipe_108 rfl ?_
          refine r_getfield (o := 1) (v := .ref (S30.2.2 1 1)) dX7_readPipe_109 lX7_21 ck1 nC1 rfl ?_
          refine r_topr (fun o31 ho31 => ?_)
          replace h := lt_e ho31 h
          obtain ⟨g32, h⟩ := gd_e h
          refine r_getfield (o := o31) (v := .ref (sr o31 1)) dX7_readPipe_112 lX7_112 g32.1 g32.2 rfl ?_
          obtain ⟨g33, h⟩ := gd_e h
          refine r_getfield (o := (sr o31 1)) (v := .ref (sr (sr o31 1) 3)) dX7_readPipe_115 lX7_125 g33.1 g33.2 rfl ?_
          refine r_iload_n (x := x4) dX7_readPipe_118 rfl ?_
          refine r_iload_n (x := (-1)) dX7_readPipe_119 rfl ?_
          obtain ⟨g34, h⟩ := gd_e h
          obtain ⟨g35, h⟩ := gd_e h
          refine r_iastore (a := (sr (sr o31 1) 3)) dX7_readPipe_120 g34.1 g34.2 (inr_IX g35) ?_
          refine r_topS (fun S36 hS36 => ?_)
          replace h := lt_e hS36 h
          cases h
          exact r_return dX7_readPipe_121 rfl (Nat.zero_le _) ⟨rfl, rfl⟩
      · rw [if_neg c20] at h
        refine r_aload_n (x := 1) dX7_readPipe_60 rfl ?_
        refine r_getfield (o := 1) (v := .ref 2) dX7_readPipe_61 lX7_12 ck1 nC1 rfl ?_
        refine r_getfield (o := 2) (v := .int (S18.1 2 5)) dX7_readPipe_64 lX7_46 ck2 nC2 rfl ?_
        refine r_iconst (v := 2) dX7_readPipe_67 rfl ?_
        refine r_icmp_ne (tgt := 80) dX7_readPipe_68 (by decide) (fun c37 => ?_) (fun c37 => ?_)
        · rw [if_neg c37] at h
          refine r_iconst (v := (-1)) dX7_readPipe_80 rfl ?_
          refine r_istore_n (L' := [some (.ref 1), some (.int x4), some (.int x17), some (.int (-1))]) dX7_readPipe_81 (Nat.le_of_ble_eq_true rfl) rfl rfl ?_
          refine r_aload_n (x := 1) dX7_readPipe_82 rfl ?_
          refine r_bipush (v := 59) dX7_readPipe_83 rfl ?_
          obtain ⟨S39, h40, h⟩ := bV_e h
          refine r_cVV (y := mX7_readSign) (As := [.int 59]) (rest := []) dX7_readPipe_85 qX7_93 kX7_readSign rfl ob1 vc7 rfl (okX7_readSign N 59 S18 S39 h40) (by decide) (Nat.zero_le _) rfl (Nat.le_of_ble_eq_true rfl) ?_
          refine r_aload_n (x := 1) dX7_readPipe_88 rfl ?_
          refine r_getfield (o := 1) (v := .int (S39.1 1 3)) dX7_readPipe_89 lX7_32 ck1 nC1 rfl ?_
          refine r_if_ne (tgt := 121) dX7_readPipe_92 (by decide) (fun c41 => ?_) (fun c41 => ?_)
          · rw [if_neg c41] at h
            cases h
            exact r_return dX7_readPipe_121 rfl (Nat.zero_le _) ⟨rfl, rfl⟩
          · rw [if_pos c41] at h
            refine r_aload_n (x := 1) dX7_readPipe_95 rfl ?_
            refine r_getfield (o := 1) (v := .ref (S39.2.2 1 1)) dX7_readPipe_96 lX7_21 ck1 nC1 rfl ?_
            refine r_topr (fun o42 ho42 => ?_)
            replace h := lt_e ho42 h
            obtain ⟨g43, h⟩ := gd_e h
            refine r_getfield (o := o42) (v := .ref (sr o42 1)) dX7_readPipe_99 lX7_112 g43.1 g43.2 rfl ?_
            obtain ⟨g44, h⟩ := gd_e h
            refine r_getfield (o := (sr o42 1)) (v := .ref (sr (sr o42 1) 2)) dX7_readPipe_102 lX7_116 g44.1 g44.2 rfl ?_
            refine r_iload_n (x := x4) dX7_readPipe_105 rfl ?_
            refine r_iload_n (x := x17) dX7_readPipe_106 rfl ?_
            obtain ⟨g45, h⟩ := gd_e h
            obtain ⟨g46, h⟩ := gd_e h
            refine r_iastore (a := (sr (sr o42 1) 2)) dX7_readPipe_107 g45.1 g45.2 (inr_IX g46) ?_
            refine r_topS (fun S47 hS47 => ?_)
            replace h := lt_e hS47 h
            refine r_aload_n (x := 1) dX7_readPipe_108 rfl ?_
            refine r_getfield (o := 1) (v := .ref (S47.2.2 1 1)) dX7_readPipe_109 lX7_21 ck1 nC1 rfl ?_
            refine r_topr (fun o48 ho48 => ?_)
            replace h := lt_e ho48 h
            obtain ⟨g49, h⟩ := gd_e h
            refine r_getfield (o := o48) (v := .ref (sr o48 1)) dX7_readPipe_112 lX7_112 g49.1 g49.2 rfl ?_
            obtain ⟨g50, h⟩ := gd_e h
            refine r_getfield (o := (sr o48 1)) (v := .ref (sr (sr o48 1) 3)) dX7_readPipe_115 lX7_125 g50.1 g50.2 rfl ?_
            refine r_iload_n (x := x4) dX7_readPipe_118 rfl ?_
            refine r_iload_n (x := (-1)) dX7_readPipe_119 rfl ?_
            obtain ⟨g51, h⟩ := gd_e h
            obtain ⟨g52, h⟩ := gd_e h
            refine r_iastore (a := (sr (sr o48 1) 3)) dX7_readPipe_120 g51.1 g51.2 (inr_IX g52) ?_
            refine r_topS (fun S53 hS53 => ?_)
            replace h := lt_e hS53 h
            cases h
            exact r_return dX7_readPipe_121 rfl (Nat.zero_le _) ⟨rfl, rfl⟩
        · rw [if_pos c37] at h
          refine r_aload_n (x := 1) dX7_readPipe_71 rfl ?_
          refine r_iload_n (x := x4) dX7_readPipe_72 rfl ?_
          refine r_iload_n (x := x17) dX7_readPipe_73 rfl ?_
          obtain ⟨x54, S55, h56, h⟩ := bI_e h
          refine r_cVI (y := mX7_readInto) (As := [.int x4, .int x17]) (rest := []) dX7_readPipe_74 qX7_122 kX7_readInto rfl ob1 vc7 rfl (okX7_readInto N x4 x17 S18 x54 S55 h56) (by decide) (Nat.zero_le _) rfl (Nat.le_of_ble_eq_true rfl) ?_
          refine r_goto (tgt := 81) dX7_readPipe_77 (by decide) ?_
          refine r_istore_n (L' := [some (.ref 1), some (.int x4), some (.int x17), some (.int x54)]) dX7_readPipe_81 (Nat.le_of_ble_eq_true rfl) rfl rfl ?_
          refine r_aload_n (x := 1) dX7_readPipe_82 rfl ?_
          refine r_bipush (v := 59) dX7_readPipe_83 rfl ?_
          obtain ⟨S58, h59, h⟩ := bV_e h
          refine r_cVV (y := mX7_readSign) (As := [.int 59]) (rest := []) dX7_readPipe_85 qX7_93 kX7_readSign rfl ob1 vc7 rfl (okX7_readSign N 59 S55 S58 h59) (by decide) (Nat.zero_le _) rfl (Nat.le_of_ble_eq_true rfl) ?_
          refine r_aload_n (x := 1) dX7_readPipe_88 rfl ?_
          refine r_getfield (o := 1) (v := .int (S58.1 1 3)) dX7_readPipe_89 lX7_32 ck1 nC1 rfl ?_
          refine r_if_ne (tgt := 121) dX7_readPipe_92 (by decide) (fun c60 => ?_) (fun c60 => ?_)
          · rw [if_neg c60] at h
            cases h
            exact r_return dX7_readPipe_121 rfl (Nat.zero_le _) ⟨rfl, rfl⟩
          · rw [if_pos c60] at h
            refine r_aload_n (x := 1) dX7_readPipe_95 rfl ?_
            refine r_getfield (o := 1) (v := .ref (S58.2.2 1 1)) dX7_readPipe_96 lX7_21 ck1 nC1 rfl ?_
            refine r_topr (fun o61 ho61 => ?_)
            replace h := lt_e ho61 h
            obtain ⟨g62, h⟩ := gd_e h
            refine r_getfield (o := o61) (v := .ref (sr o61 1)) dX7_readPipe_99 lX7_112 g62.1 g62.2 rfl ?_
            obtain ⟨g63, h⟩ := gd_e h
            refine r_getfield (o := (sr o61 1)) (v := .ref (sr (sr o61 1) 2)) dX7_readPipe_102 lX7_116 g63.1 g63.2 rfl ?_
            refine r_iload_n (x := x4) dX7_readPipe_105 rfl ?_
            refine r_iload_n (x := x17) dX7_readPipe_106 rfl ?_
            obtain ⟨g64, h⟩ := gd_e h
            obtain ⟨g65, h⟩ := gd_e h
            refine r_iastore (a := (sr (sr o61 1) 2)) dX7_readPipe_107 g64.1 g64.2 (inr_IX g65) ?_
            refine r_topS (fun S66 hS66 => ?_)
            replace h := lt_e hS66 h
            refine r_aload_n (x := 1) dX7_readPipe_108 rfl ?_
            refine r_getfield (o := 1) (v := .ref (S66.2.2 1 1)) dX7_readPipe_109 lX7_21 ck1 nC1 rfl ?_
            refine r_topr (fun o67 ho67 => ?_)
            replace h := lt_e ho67 h
            obtain ⟨g68, h⟩ := gd_e h
            refine r_getfield (o := o67) (v := .ref (sr o67 1)) dX7_readPipe_112 lX7_112 g68.1 g68.2 rfl ?_
            obtain ⟨g69, h⟩ := gd_e h
            refine r_getfield (o := (sr o67 1)) (v := .ref (sr (sr o67 1) 3)) dX7_readPipe_115 lX7_125 g69.1 g69.2 rfl ?_
            refine r_iload_n (x := x4) dX7_readPipe_118 rfl ?_
            refine r_iload_n (x := x54) dX7_readPipe_119 rfl ?_
            obtain ⟨g70, h⟩ := gd_e h
            obtain ⟨g71, h⟩ := gd_e h
            refine r_iastore (a := (sr (sr o67 1) 3)) dX7_readPipe_120 g70.1 g70.2 (inr_IX g71) ?_
            refine r_topS (fun S72 hS72 => ?_)
            replace h := lt_e hS72 h
            cases h
            exact r_return dX7_readPipe_121 rfl (Nat.zero_le _) ⟨rfl, rfl⟩
    · rw [if_neg c13] at h
      refine r_aload_n (x := 1) dX7_readPipe_34 rfl ?_
      refine r_iconst (v := 4) dX7_readPipe_35 rfl ?_
      obtain ⟨x73, S74, h75, h⟩ := bI_e h
      refine r_cVI (y := mX7_fail) (As := [.int 4]) (rest := []) dX7_readPipe_36 qX7_72 kX7_fail rfl ob1 vc7 rfl (okX7_fail N 4 S5 x73 S74 h75) (by decide) (Nat.zero_le _) rfl (Nat.le_of_ble_eq_true rfl) ?_
      refine r_pop_int dX7_readPipe_39 ?_
      cases h
      exact r_return dX7_readPipe_40 rfl (Nat.zero_le _) ⟨rfl, rfl⟩
  · rw [if_pos c7] at h
    cases h
    exact r_return dX7_readPipe_17 rfl (Nat.zero_le _) ⟨rfl, rfl⟩
def fX9_fits_2 (N : Nat) (v2 : Nat) : Nat → Int32 → PS → Option (Nat × Int32 × PS)
  | 0, _, _ => none
  | n + 1, v3, S =>
    (if 40 ≤ v3 then
      some (0, v3, S)
    else
      bV (fX3_passHour N 0 S) fun S3 =>
      gd (inr v3 40) <|
      lt ((u2 S3.1 32 (ix v3) (S3.1 5 5), S3.2) : PS) fun S6 =>
      gd (obj v2 5) <|
      bI (fX5_agrees N v2 (v3 + 1) (S6.1 5 5) S6) fun x7 S8 =>
      (if x7 = 0 then
        some (1, v3, S8)
      else
        lt (v3 + 1 : Int32) fun x12 =>
        fX9_fits_2 N v2 n x12 S8))
set_option maxHeartbeats 4000000 in
set_option maxRecDepth 100000 in
theorem okX9_fits_2 (N : Nat) (v2 : Nat) (Q : OQ) (u : Nat) (hu : u ≤ 0) : ∀ (n : Nat) (v3 : Int32) (S : PS) (tg : Nat) (y3 : Int32) (T : PS), fX9_fits_2 N v2 n v3 S = some (tg, y3, T) → (tg = 0 → WP [] mX9_fits 4 0 Q 45 [some (.ref 7), some (.ref 5), some (.ref v2), some (.int y3)] [] T u) → (tg = 1 → WP [] mX9_fits 4 0 Q 37 [some (.ref 7), some (.ref 5), some (.ref v2), some (.int y3)] [] T u) → WP [] mX9_fits 4 0 Q 2 [some (.ref 7), some (.ref 5), some (.ref v2), some (.int v3)] [] S u := by
  intro n
  induction n with
  | zero => intro v3 S tg y3 T h; rw [fX9_fits_2] at h; cases h
  | succ n ih =>
    intro v3 S tg y3 T h k0 k1
    rw [fX9_fits_2] at h
    refine r_iload_n (x := v3) dX9_fits_2 rfl ?_
    refine r_bipush (v := 40) dX9_fits_3 rfl ?_
    refine r_icmp_ge (tgt := 45) dX9_fits_5 (by decide) (fun c1 => ?_) (fun c1 => ?_)
    · rw [if_pos c1] at h
      cases h
      exact k0 rfl
    · rw [if_neg c1] at h
      refine r_aload_n (x := 5) dX9_fits_8 rfl ?_
      refine r_iconst (v := 0) dX9_fits_9 rfl ?_
      obtain ⟨S3, h4, h⟩ := bV_e h
      refine r_cVV (y := mX3_passHour) (As := [.int 0]) (rest := []) dX9_fits_10 qX9_77 kX3_passHour rfl ob5 vc3 rfl (okX3_passHour N 0 S S3 h4) (by decide) hu rfl (Nat.le_of_ble_eq_true rfl) ?_
      refine r_aload_n (x := 7) dX9_fits_13 rfl ?_
      refine r_getfield (o := 7) (v := .ref 32) dX9_fits_14 lX9_9 ck7 nC7 rfl ?_
      refine r_iload_n (x := v3) dX9_fits_17 rfl ?_
      refine r_aload_n (x := 5) dX9_fits_18 rfl ?_
      refine r_getfield (o := 5) (v := .int (S3.1 5 5)) dX9_fits_19 lX9_81 ck5 nC5 rfl ?_
      obtain ⟨g5, h⟩ := gd_e h
      refine r_iastore (a := 32) dX9_fits_22 ck32 nC32 (inr_IX g5) ?_
      refine r_topS (fun S6 hS6 => ?_)
      replace h := lt_e hS6 h
      refine r_aload_n (x := v2) dX9_fits_23 rfl ?_
      refine r_iload_n (x := v3) dX9_fits_24 rfl ?_
      refine r_iconst (v := 1) dX9_fits_25 rfl ?_
      refine r_iadd dX9_fits_26 ?_
      refine r_aload_n (x := 5) dX9_fits_27 rfl ?_
      refine r_getfield (o := 5) (v := .int (S6.1 5 5)) dX9_fits_28 lX9_81 ck5 nC5 rfl ?_
      obtain ⟨g10, h⟩ := gd_e h
      obtain ⟨x7, S8, h9, h⟩ := bI_e h
      refine r_cVI (y := mX5_agrees) (As := [.int (v3 + 1), .int (S6.1 5 5)]) (rest := []) dX9_fits_31 qX9_83 kX5_agrees rfl g10 vc5 rfl (okX5_agrees N v2 (v3 + 1) (S6.1 5 5) S6 x7 S8 h9) (by decide) hu rfl (Nat.le_of_ble_eq_true rfl) ?_
      refine r_if_ne (tgt := 39) dX9_fits_34 (by decide) (fun c11 => ?_) (fun c11 => ?_)
      · rw [if_neg c11] at h
        obtain ⟨x12, hx12⟩ : ∃ y : Int32, y = (v3 + 1 : Int32) := ⟨_, rfl⟩
        replace h := lt_e hx12 h
        refine r_iinc (x := v3) (v := x12) (L' := [some (.ref 7), some (.ref 5), some (.ref v2), some (.int x12)]) dX9_fits_39 rfl (by rw [hx12]; rfl) (Nat.le_of_ble_eq_true rfl) rfl rfl ?_
        refine r_goto (tgt := 2) dX9_fits_42 (by decide) ?_
        exact ih _ _ _ _ _ h k0 k1
      · rw [if_pos c11] at h
        cases h
        exact k1 rfl
def fX9_fits (N : Nat) (p1 : Nat) (S : PS) : Option (Int32 × PS) :=
  bT (fX9_fits_2 N p1 N 0 S) fun q13 =>
  lt (q13.1 : Nat) fun t16 =>
  lt (q13.2.1 : Int32) fun x14 =>
  lt (q13.2.2 : PS) fun S15 =>
  (if t16 = 0 then
    some (1, S15)
  else 
    some (0, S15))
set_option maxHeartbeats 4000000 in
set_option maxRecDepth 100000 in
theorem okX9_fits (N : Nat) (p1 : Nat) (S : PS) (r : Int32) (T : PS) (h : fX9_fits N p1 S = some (r, T)) : CT mX9_fits 4 0 [.ref 7, .ref 5, .ref p1] S (qI r T) := by
  refine ct_of [some (.ref 7), some (.ref 5), some (.ref p1), none] rfl (fun _ => rfl) (fun _ => Nat.le_of_ble_eq_true rfl) ?_
  unfold fX9_fits at h
  refine r_iconst (v := 0) dX9_fits_0 rfl ?_
  refine r_istore_n (L' := [some (.ref 7), some (.ref 5), some (.ref p1), some (.int 0)]) dX9_fits_1 (Nat.le_of_ble_eq_true rfl) rfl rfl ?_
  obtain ⟨⟨t16, x14, S15⟩, h17, h⟩ := bT_e h
  dsimp only at h
  replace h := pl_s (pl_s (pl_s (h)))
  refine okX9_fits_2 N p1 (qI r T) 0 (Nat.zero_le _) _ _ _ _ _ _ h17 (fun et16 => ?_) (fun et16 => ?_)
  · rw [if_pos et16] at h
    refine r_iconst (v := 1) dX9_fits_45 rfl ?_
    cases h
    exact r_zreturn dX9_fits_46 rfl rfl (Nat.zero_le _) ⟨rfl, rfl⟩
  · rw [if_neg (by rw [et16]; decide)] at h
    refine r_iconst (v := 0) dX9_fits_37 rfl ?_
    cases h
    exact r_zreturn dX9_fits_38 rfl rfl (Nat.zero_le _) ⟨rfl, rfl⟩
def fX11_pour (N : Nat) (p0 : Int32) (p1 : Int32) (S : PS) : Option ((Int32 ⊕ String) × PS) :=
  bU (fX11_needCup N p0 S) fun S2 =>
  (if p1 < 1 then
    bI (fX11_refuseAct N  S2) fun x5 S6 =>
    some (.inl x5, S6)
  else
    (if p1 ≤ 50 then
      bV (fX0_keep N 8 18 S2) fun S10 =>
      bV (fX3_workOn N 18 S10) fun S13 =>
      bV (fX3_fillUp N p0 p1 S13) fun S16 =>
      gd (inr p0 9) <|
      some (.inl (S16.1 28 (ix p0)), S16)
    else
      bI (fX11_refuseAct N  S2) fun x19 S20 =>
      some (.inl x19, S20)))
set_option maxHeartbeats 4000000 in
set_option maxRecDepth 100000 in
theorem okX11_pour (N : Nat) (p0 : Int32) (p1 : Int32) (S : PS) (r : Int32 ⊕ String) (T : PS) (h : fX11_pour N p0 p1 S = some (r, T)) : CT mX11_pour 7 8 [.ref 0, .int p0, .int p1] S (qE r T) := by
  refine ct_of [some (.ref 0), some (.int p0), some (.int p1)] rfl (fun _ => rfl) (fun _ => Nat.le_of_ble_eq_true rfl) ?_
  unfold fX11_pour at h
  refine r_aload_n (x := 0) dX11_pour_0 rfl ?_
  refine r_iload_n (x := p0) dX11_pour_1 rfl ?_
  obtain ⟨x1, S2, h3, hx1, kx1⟩ := bU_e h
  refine r_cVU (y := mX11_needCup) (As := [.int p0]) (rest := []) dX11_pour_2 qX11_156 kX11_needCup rfl ob0 vc11 rfl (okX11_needCup N p0 S x1 S2 h3) (by decide) (by decide) rfl (Nat.le_of_ble_eq_true rfl) (fun ex1 => ?_) (fun Ex1 ex1 => ?_)
  · replace h := hx1 ex1
    refine r_iload_n (x := p1) dX11_pour_5 rfl ?_
    refine r_iconst (v := 1) dX11_pour_6 rfl ?_
    refine r_icmp_lt (tgt := 16) dX11_pour_7 (by decide) (fun c4 => ?_) (fun c4 => ?_)
    · rw [if_pos c4] at h
      refine r_aload_n (x := 0) dX11_pour_16 rfl ?_
      obtain ⟨x5, S6, h7, h⟩ := bI_e h
      refine r_cVI (y := mX11_refuseAct) (As := []) (rest := []) dX11_pour_17 qX11_182 kX11_refuseAct rfl ob0 vc11 rfl (okX11_refuseAct N  S2 x5 S6 h7) (by decide) (by decide) rfl (Nat.le_of_ble_eq_true rfl) ?_
      cases h
      exact r_ireturn dX11_pour_20 rfl (by decide) ⟨rfl, rfl⟩
    · rw [if_neg c4] at h
      refine r_iload_n (x := p1) dX11_pour_10 rfl ?_
      refine r_bipush (v := 50) dX11_pour_11 rfl ?_
      refine r_icmp_le (tgt := 21) dX11_pour_13 (by decide) (fun c8 => ?_) (fun c8 => ?_)
      · rw [if_pos c8] at h
        refine r_aload_n (x := 0) dX11_pour_21 rfl ?_
        refine r_getfield (o := 0) (v := .ref 3) dX11_pour_22 lX11_19 ck0 nC0 rfl ?_
        refine r_getfield (o := 3) (v := .ref 8) dX11_pour_25 lX11_139 ck3 nC3 rfl ?_
        refine r_aload_n (x := 0) dX11_pour_28 rfl ?_
        refine r_getfield (o := 0) (v := .ref 3) dX11_pour_29 lX11_19 ck0 nC0 rfl ?_
        refine r_getfield (o := 3) (v := .ref 18) dX11_pour_32 lX11_116 ck3 nC3 rfl ?_
        obtain ⟨S10, h11, h⟩ := bV_e h
        refine r_cVV (y := mX0_keep) (As := [.ref 18]) (rest := []) dX11_pour_35 qX11_185 kX0_keep rfl ob8 vc0 rfl (okX0_keep N 8 18 S2 S10 h11) (by decide) (by decide) rfl (Nat.le_of_ble_eq_true rfl) ?_
        refine r_aload_n (x := 0) dX11_pour_38 rfl ?_
        refine r_getfield (o := 0) (v := .ref 5) dX11_pour_39 lX11_29 ck0 nC0 rfl ?_
        refine r_aload_n (x := 0) dX11_pour_42 rfl ?_
        refine r_getfield (o := 0) (v := .ref 3) dX11_pour_43 lX11_19 ck0 nC0 rfl ?_
        refine r_getfield (o := 3) (v := .ref 18) dX11_pour_46 lX11_116 ck3 nC3 rfl ?_
        obtain ⟨S13, h14, h⟩ := bV_e h
        refine r_cVV (y := mX3_workOn) (As := [.ref 18]) (rest := []) dX11_pour_49 qX11_188 kX3_workOn rfl ob5 vc3 rfl (okX3_workOn N 18 S10 S13 h14) (by decide) (by decide) rfl (Nat.le_of_ble_eq_true rfl) ?_
        refine r_aload_n (x := 0) dX11_pour_52 rfl ?_
        refine r_getfield (o := 0) (v := .ref 5) dX11_pour_53 lX11_29 ck0 nC0 rfl ?_
        refine r_iload_n (x := p0) dX11_pour_56 rfl ?_
        refine r_iload_n (x := p1) dX11_pour_57 rfl ?_
        obtain ⟨S16, h17, h⟩ := bV_e h
        refine r_cVV (y := mX3_fillUp) (As := [.int p0, .int p1]) (rest := []) dX11_pour_58 qX11_205 kX3_fillUp rfl ob5 vc3 rfl (okX3_fillUp N p0 p1 S13 S16 h17) (by decide) (by decide) rfl (Nat.le_of_ble_eq_true rfl) ?_
        refine r_aload_n (x := 0) dX11_pour_61 rfl ?_
        refine r_getfield (o := 0) (v := .ref 5) dX11_pour_62 lX11_29 ck0 nC0 rfl ?_
        refine r_getfield (o := 5) (v := .ref 28) dX11_pour_65 lX11_208 ck5 nC5 rfl ?_
        refine r_iload_n (x := p0) dX11_pour_68 rfl ?_
        obtain ⟨g18, h⟩ := gd_e h
        refine r_iaload (a := 28) dX11_pour_69 ck28 nC28 (inr_IX g18) ?_
        cases h
        exact r_ireturn dX11_pour_70 rfl (by decide) ⟨rfl, rfl⟩
      · rw [if_neg c8] at h
        refine r_aload_n (x := 0) dX11_pour_16 rfl ?_
        obtain ⟨x19, S20, h21, h⟩ := bI_e h
        refine r_cVI (y := mX11_refuseAct) (As := []) (rest := []) dX11_pour_17 qX11_182 kX11_refuseAct rfl ob0 vc11 rfl (okX11_refuseAct N  S2 x19 S20 h21) (by decide) (by decide) rfl (Nat.le_of_ble_eq_true rfl) ?_
        cases h
        exact r_ireturn dX11_pour_20 rfl (by decide) ⟨rfl, rfl⟩
  · cases kx1 Ex1 ex1
    exact ⟨rfl, rfl⟩
def fX3_goOn_2 (N : Nat) (v1 : Int32) : Nat → Int32 → PS → Option (Int32 × PS)
  | 0, _, _ => none
  | n + 1, v2, S =>
    (if v1 ≤ v2 then
      some (v2, S)
    else
      bV (fX3_passHour N 0 S) fun S3 =>
      lt (v2 + 1 : Int32) fun x5 =>
      fX3_goOn_2 N v1 n x5 S3)
set_option maxHeartbeats 4000000 in
set_option maxRecDepth 100000 in
theorem okX3_goOn_2 (N : Nat) (v1 : Int32) (Q : OQ) (u : Nat) (hu : u ≤ 0) : ∀ (n : Nat) (v2 : Int32) (S : PS) (y2 : Int32) (T : PS), fX3_goOn_2 N v1 n v2 S = some (y2, T) → WP [] mX3_goOn 4 0 Q 18 [some (.ref 5), some (.int v1), some (.int y2)] [] T u → WP [] mX3_goOn 4 0 Q 2 [some (.ref 5), some (.int v1), some (.int v2)] [] S u := by
  intro n
  induction n with
  | zero => intro v2 S y2 T h; rw [fX3_goOn_2] at h; cases h
  | succ n ih =>
    intro v2 S y2 T h k0
    rw [fX3_goOn_2] at h
    refine r_iload_n (x := v2) dX3_goOn_2 rfl ?_
    refine r_iload_n (x := v1) dX3_goOn_3 rfl ?_
    refine r_icmp_ge (tgt := 18) dX3_goOn_4 (by decide) (fun c1 => ?_) (fun c1 => ?_)
    · rw [if_pos c1] at h
      cases h
      exact k0
    · rw [if_neg c1] at h
      refine r_aload_n (x := 5) dX3_goOn_7 rfl ?_
      refine r_iconst (v := 0) dX3_goOn_8 rfl ?_
      obtain ⟨S3, h4, h⟩ := bV_e h
      refine r_cVV (y := mX3_passHour) (As := [.int 0]) (rest := []) dX3_goOn_9 qX3_55 kX3_passHour rfl ob5 vc3 rfl (okX3_passHour N 0 S S3 h4) (by decide) hu rfl (Nat.le_of_ble_eq_true rfl) ?_
      obtain ⟨x5, hx5⟩ : ∃ y : Int32, y = (v2 + 1 : Int32) := ⟨_, rfl⟩
      replace h := lt_e hx5 h
      refine r_iinc (x := v2) (v := x5) (L' := [some (.ref 5), some (.int v1), some (.int x5)]) dX3_goOn_12 rfl (by rw [hx5]; rfl) (Nat.le_of_ble_eq_true rfl) rfl rfl ?_
      refine r_goto (tgt := 2) dX3_goOn_15 (by decide) ?_
      exact ih _ _ _ _ h k0
def fX3_goOn (N : Nat) (p0 : Int32) (S : PS) : Option PS :=
  bT (fX3_goOn_2 N p0 N 0 S) fun q6 =>
  lt (q6.1 : Int32) fun x7 =>
  lt (q6.2 : PS) fun S8 =>
  some S8
set_option maxHeartbeats 4000000 in
set_option maxRecDepth 100000 in
theorem okX3_goOn (N : Nat) (p0 : Int32) (S : PS) (T : PS) (h : fX3_goOn N p0 S = some T) : CT mX3_goOn 4 0 [.ref 5, .int p0] S (qV T) := by
  refine ct_of [some (.ref 5), some (.int p0), none] rfl (fun _ => rfl) (fun _ => Nat.le_of_ble_eq_true rfl) ?_
  unfold fX3_goOn at h
  refine r_iconst (v := 0) dX3_goOn_0 rfl ?_
  refine r_istore_n (L' := [some (.ref 5), some (.int p0), some (.int 0)]) dX3_goOn_1 (Nat.le_of_ble_eq_true rfl) rfl rfl ?_
  obtain ⟨⟨x7, S8⟩, h10, h⟩ := bT_e h
  dsimp only at h
  replace h := pl_s (pl_s (h))
  refine okX3_goOn_2 N p0 (qV T) 0 (Nat.zero_le _) _ _ _ _ _ h10 ?_
  cases h
  exact r_return dX3_goOn_18 rfl (Nat.zero_le _) ⟨rfl, rfl⟩
def fX9_fitsAsItIs (N : Nat) (p1 : Nat) (S : PS) : Option (Int32 × PS) :=
  gd (obj p1 6) <|
  bV (fX3_workOnCopy N (sr p1 0) S) fun S3 =>
  gd (obj p1 6) <|
  bI (fX9_fits N (sr p1 2) S3) fun x6 S7 =>
  gd (b01 x6) <|
  some (x6, S7)
set_option maxHeartbeats 4000000 in
set_option maxRecDepth 100000 in
theorem okX9_fitsAsItIs (N : Nat) (p1 : Nat) (S : PS) (r : Int32) (T : PS) (h : fX9_fitsAsItIs N p1 S = some (r, T)) : CT mX9_fitsAsItIs 5 0 [.ref 7, .ref 5, .ref p1] S (qI r T) := by
  refine ct_of [some (.ref 7), some (.ref 5), some (.ref p1)] rfl (fun _ => rfl) (fun _ => Nat.le_of_ble_eq_true rfl) ?_
  unfold fX9_fitsAsItIs at h
  refine r_aload_n (x := 5) dX9_fitsAsItIs_0 rfl ?_
  refine r_aload_n (x := p1) dX9_fitsAsItIs_1 rfl ?_
  obtain ⟨g1, h⟩ := gd_e h
  refine r_getfield (o := p1) (v := .ref (sr p1 0)) dX9_fitsAsItIs_2 lX9_26 g1.1 g1.2 rfl ?_
  obtain ⟨S3, h4, h⟩ := bV_e h
  refine r_cVV (y := mX3_workOnCopy) (As := [.ref (sr p1 0)]) (rest := []) dX9_fitsAsItIs_5 qX9_32 kX3_workOnCopy rfl ob5 vc3 rfl (okX3_workOnCopy N (sr p1 0) S S3 h4) (by decide) (Nat.zero_le _) rfl (Nat.le_of_ble_eq_true rfl) ?_
  refine r_aload_n (x := 7) dX9_fitsAsItIs_8 rfl ?_
  refine r_aload_n (x := 5) dX9_fitsAsItIs_9 rfl ?_
  refine r_aload_n (x := p1) dX9_fitsAsItIs_10 rfl ?_
  obtain ⟨g5, h⟩ := gd_e h
  refine r_getfield (o := p1) (v := .ref (sr p1 2)) dX9_fitsAsItIs_11 lX9_38 g5.1 g5.2 rfl ?_
  obtain ⟨x6, S7, h8, h⟩ := bI_e h
  refine r_cVI (y := mX9_fits) (As := [.ref 5, .ref (sr p1 2)]) (rest := []) dX9_fitsAsItIs_14 qX9_42 kX9_fits rfl ob7 vc9 rfl (okX9_fits N (sr p1 2) S3 x6 S7 h8) (by decide) (Nat.zero_le _) rfl (Nat.le_of_ble_eq_true rfl) ?_
  obtain ⟨g9, h⟩ := gd_e h
  cases h
  exact r_zreturn dX9_fitsAsItIs_17 rfl (nar01 g9) (Nat.zero_le _) ⟨rfl, rfl⟩
def fX9_search_41 (N : Nat) (v2 : Nat) (v3 : Int32) (v4 : Int32) : Nat → Int32 → PS → Option (Int32 × PS)
  | 0, _, _ => none
  | n + 1, v5, S =>
    (if v3 < v5 then
      some (v5, S)
    else
      lt ((if v3 ≤ v5 then (-1) else v5) : Int32) fun x13 =>
      gd (obj v2 6) <|
      bV (fX3_workOnCopy N (sr v2 0) S) fun S16 =>
      lt ((S16.2.2 5 4) : Nat) fun o18 =>
      gd (obj o18 2) <|
      bV (fX2_setInto N o18 v4 x13 S16) fun S20 =>
      gd (obj v2 6) <|
      gd (obj (sr v2 0) 2) <|
      bI (fX2_leadsJust N (sr v2 0) v4 x13 S20) fun x24 S25 =>
      (if x24 = 0 then
        gd (obj v2 6) <|
        bI (fX9_fits N (sr v2 2) S25) fun x31 S32 =>
        (if x31 = 0 then
          lt (v5 + 1 : Int32) fun x35 =>
          fX9_search_41 N v2 v3 v4 n x35 S32
        else
          bV (fX9_keepFound N v4 x13 S32) fun S37 =>
          lt (v5 + 1 : Int32) fun x39 =>
          fX9_search_41 N v2 v3 v4 n x39 S37)
      else
        lt (v5 + 1 : Int32) fun x29 =>
        fX9_search_41 N v2 v3 v4 n x29 S25))
set_option maxHeartbeats 4000000 in
set_option maxRecDepth 100000 in
theorem okX9_search_41 (N : Nat) (v2 : Nat) (v3 : Int32) (v4 : Int32) (Q : OQ) (u : Nat) (hu : u ≤ 0) : ∀ (n : Nat) (v5 : Int32) (S : PS) (y5 : Int32) (T : PS), fX9_search_41 N v2 v3 v4 n v5 S = some (y5, T) → WP [] mX9_search 5 0 Q 120 [some (.ref 7), some (.ref 5), some (.ref v2), some (.int v3), some (.int v4), some (.int y5), none] [] T u → WP [] mX9_search 5 0 Q 41 [some (.ref 7), some (.ref 5), some (.ref v2), some (.int v3), some (.int v4), some (.int v5), none] [] S u := by
  intro n
  induction n with
  | zero => intro v5 S y5 T h; rw [fX9_search_41] at h; cases h
  | succ n ih =>
    intro v5 S y5 T h k0
    rw [fX9_search_41] at h
    refine r_iload (x := v5) dX9_search_41 rfl ?_
    refine r_iload_n (x := v3) dX9_search_43 rfl ?_
    refine r_icmp_gt (tgt := 120) dX9_search_44 (by decide) (fun c11 => ?_) (fun c11 => ?_)
    · rw [if_pos c11] at h
      cases h
      exact k0
    · rw [if_neg c11] at h
      refine r_iload (x := v5) dX9_search_47 rfl ?_
      refine r_iload_n (x := v3) dX9_search_49 rfl ?_
      obtain ⟨x13, hx13⟩ : ∃ y : Int32, y = ((if v3 ≤ v5 then (-1) else v5) : Int32) := ⟨_, rfl⟩
      replace h := lt_e hx13 h
      have keyx13 : WP [] mX9_search 5 0 Q 59 [some (.ref 7), some (.ref 5), some (.ref v2), some (.int v3), some (.int v4), some (.int v5), none] (.int x13 :: []) S u := by
        refine r_istore (L' := [some (.ref 7), some (.ref 5), some (.ref v2), some (.int v3), some (.int v4), some (.int v5), some (.int x13)]) dX9_search_59 (Nat.le_of_ble_eq_true rfl) rfl rfl ?_
        refine r_aload_n (x := 5) dX9_search_61 rfl ?_
        refine r_aload_n (x := v2) dX9_search_62 rfl ?_
        obtain ⟨g14, h⟩ := gd_e h
        refine r_getfield (o := v2) (v := .ref (sr v2 0)) dX9_search_63 lX9_26 g14.1 g14.2 rfl ?_
        obtain ⟨S16, h17, h⟩ := bV_e h
        refine r_cVV (y := mX3_workOnCopy) (As := [.ref (sr v2 0)]) (rest := []) dX9_search_66 qX9_32 kX3_workOnCopy rfl ob5 vc3 rfl (okX3_workOnCopy N (sr v2 0) S S16 h17) (by decide) hu rfl (Nat.le_of_ble_eq_true rfl) ?_
        refine r_aload_n (x := 5) dX9_search_69 rfl ?_
        refine r_getfield (o := 5) (v := .ref (S16.2.2 5 4)) dX9_search_70 lX9_60 ck5 nC5 rfl ?_
        refine r_topr (fun o18 ho18 => ?_)
        replace h := lt_e ho18 h
        refine r_iload (x := v4) dX9_search_73 rfl ?_
        refine r_iload (x := x13) dX9_search_75 rfl ?_
        obtain ⟨g22, h⟩ := gd_e h
        obtain ⟨S20, h21, h⟩ := bV_e h
        refine r_cVV (y := mX2_setInto) (As := [.int v4, .int x13]) (rest := []) dX9_search_77 qX9_61 kX2_setInto rfl g22 vc2 rfl (okX2_setInto N o18 v4 x13 S16 S20 h21) (by decide) hu rfl (Nat.le_of_ble_eq_true rfl) ?_
        refine r_aload_n (x := v2) dX9_search_80 rfl ?_
        obtain ⟨g23, h⟩ := gd_e h
        refine r_getfield (o := v2) (v := .ref (sr v2 0)) dX9_search_81 lX9_26 g23.1 g23.2 rfl ?_
        refine r_iload (x := v4) dX9_search_84 rfl ?_
        refine r_iload (x := x13) dX9_search_86 rfl ?_
        obtain ⟨g27, h⟩ := gd_e h
        obtain ⟨x24, S25, h26, h⟩ := bI_e h
        refine r_cVI (y := mX2_leadsJust) (As := [.int v4, .int x13]) (rest := []) dX9_search_88 qX9_67 kX2_leadsJust rfl g27 vc2 rfl (okX2_leadsJust N (sr v2 0) v4 x13 S20 x24 S25 h26) (by decide) hu rfl (Nat.le_of_ble_eq_true rfl) ?_
        refine r_if_ne (tgt := 114) dX9_search_91 (by decide) (fun c28 => ?_) (fun c28 => ?_)
        · rw [if_neg c28] at h
          obtain ⟨x29, hx29⟩ : ∃ y : Int32, y = (v5 + 1 : Int32) := ⟨_, rfl⟩
          replace h := lt_e hx29 h
          refine r_iinc (x := v5) (v := x29) (L' := [some (.ref 7), some (.ref 5), some (.ref v2), some (.int v3), some (.int v4), some (.int x29), some (.int x13)]) dX9_search_114 rfl (by rw [hx29]; rfl) (Nat.le_of_ble_eq_true rfl) rfl rfl ?_
          refine r_goto (tgt := 41) dX9_search_117 (by decide) ?_
          refine r_drop [true, true, true, true, true, true, false] rfl ?_
          exact ih _ _ _ _ h k0
        · rw [if_pos c28] at h
          refine r_aload_n (x := 7) dX9_search_94 rfl ?_
          refine r_aload_n (x := 5) dX9_search_95 rfl ?_
          refine r_aload_n (x := v2) dX9_search_96 rfl ?_
          obtain ⟨g30, h⟩ := gd_e h
          refine r_getfield (o := v2) (v := .ref (sr v2 2)) dX9_search_97 lX9_38 g30.1 g30.2 rfl ?_
          obtain ⟨x31, S32, h33, h⟩ := bI_e h
          refine r_cVI (y := mX9_fits) (As := [.ref 5, .ref (sr v2 2)]) (rest := []) dX9_search_100 qX9_42 kX9_fits rfl ob7 vc9 rfl (okX9_fits N (sr v2 2) S25 x31 S32 h33) (by decide) hu rfl (Nat.le_of_ble_eq_true rfl) ?_
          refine r_if_eq (tgt := 114) dX9_search_103 (by decide) (fun c34 => ?_) (fun c34 => ?_)
          · rw [if_pos c34] at h
            obtain ⟨x35, hx35⟩ : ∃ y : Int32, y = (v5 + 1 : Int32) := ⟨_, rfl⟩
            replace h := lt_e hx35 h
            refine r_iinc (x := v5) (v := x35) (L' := [some (.ref 7), some (.ref 5), some (.ref v2), some (.int v3), some (.int v4), some (.int x35), some (.int x13)]) dX9_search_114 rfl (by rw [hx35]; rfl) (Nat.le_of_ble_eq_true rfl) rfl rfl ?_
            refine r_goto (tgt := 41) dX9_search_117 (by decide) ?_
            refine r_drop [true, true, true, true, true, true, false] rfl ?_
            exact ih _ _ _ _ h k0
          · rw [if_neg c34] at h
            refine r_aload_n (x := 7) dX9_search_106 rfl ?_
            refine r_iload (x := v4) dX9_search_107 rfl ?_
            refine r_iload (x := x13) dX9_search_109 rfl ?_
            obtain ⟨S37, h38, h⟩ := bV_e h
            refine r_cVV (y := mX9_keepFound) (As := [.int v4, .int x13]) (rest := []) dX9_search_111 qX9_71 kX9_keepFound rfl ob7 vc9 rfl (okX9_keepFound N v4 x13 S32 S37 h38) (by decide) hu rfl (Nat.le_of_ble_eq_true rfl) ?_
            obtain ⟨x39, hx39⟩ : ∃ y : Int32, y = (v5 + 1 : Int32) := ⟨_, rfl⟩
            replace h := lt_e hx39 h
            refine r_iinc (x := v5) (v := x39) (L' := [some (.ref 7), some (.ref 5), some (.ref v2), some (.int v3), some (.int v4), some (.int x39), some (.int x13)]) dX9_search_114 rfl (by rw [hx39]; rfl) (Nat.le_of_ble_eq_true rfl) rfl rfl ?_
            refine r_goto (tgt := 41) dX9_search_117 (by decide) ?_
            refine r_drop [true, true, true, true, true, true, false] rfl ?_
            exact ih _ _ _ _ h k0
      refine r_icmp_ge (tgt := 58) dX9_search_50 (by decide) (fun c12 => ?_) (fun c12 => ?_)
      · refine r_iconst (v := (-1)) dX9_search_58 rfl ?_
        exact r_tope (by rw [hx13, if_pos c12]) keyx13
      · refine r_iload (x := v5) dX9_search_53 rfl ?_
        refine r_goto (tgt := 59) dX9_search_55 (by decide) ?_
        exact r_tope (by rw [hx13, if_neg c12]) keyx13
def fX9_search_29 (N : Nat) (v2 : Nat) (v3 : Int32) : Nat → Int32 → PS → Option (Int32 × PS)
  | 0, _, _ => none
  | n + 1, v4, S =>
    (if v3 ≤ v4 then
      some (v4, S)
    else
      lt ((v4 + 1) : Int32) fun x10 =>
      bT (fX9_search_41 N v2 v3 v4 N x10 S) fun q40 =>
      lt (q40.1 : Int32) fun x41 =>
      lt (q40.2 : PS) fun S42 =>
      lt (v4 + 1 : Int32) fun x45 =>
      fX9_search_29 N v2 v3 n x45 S42)
set_option maxHeartbeats 4000000 in
set_option maxRecDepth 100000 in
theorem okX9_search_29 (N : Nat) (v2 : Nat) (v3 : Int32) (Q : OQ) (u : Nat) (hu : u ≤ 0) : ∀ (n : Nat) (v4 : Int32) (S : PS) (y4 : Int32) (T : PS), fX9_search_29 N v2 v3 n v4 S = some (y4, T) → WP [] mX9_search 5 0 Q 126 [some (.ref 7), some (.ref 5), some (.ref v2), some (.int v3), some (.int y4), none, none] [] T u → WP [] mX9_search 5 0 Q 29 [some (.ref 7), some (.ref 5), some (.ref v2), some (.int v3), some (.int v4), none, none] [] S u := by
  intro n
  induction n with
  | zero => intro v4 S y4 T h; rw [fX9_search_29] at h; cases h
  | succ n ih =>
    intro v4 S y4 T h k0
    rw [fX9_search_29] at h
    refine r_iload (x := v4) dX9_search_29 rfl ?_
    refine r_iload_n (x := v3) dX9_search_31 rfl ?_
    refine r_icmp_ge (tgt := 126) dX9_search_32 (by decide) (fun c9 => ?_) (fun c9 => ?_)
    · rw [if_pos c9] at h
      cases h
      exact k0
    · rw [if_neg c9] at h
      refine r_iload (x := v4) dX9_search_35 rfl ?_
      refine r_iconst (v := 1) dX9_search_37 rfl ?_
      refine r_iadd dX9_search_38 ?_
      refine r_topi (fun x10 hx10 => ?_)
      replace h := lt_e hx10 h
      refine r_istore (L' := [some (.ref 7), some (.ref 5), some (.ref v2), some (.int v3), some (.int v4), some (.int x10), none]) dX9_search_39 (Nat.le_of_ble_eq_true rfl) rfl rfl ?_
      obtain ⟨⟨x41, S42⟩, h44, h⟩ := bT_e h
      dsimp only at h
      replace h := pl_s (pl_s (h))
      refine okX9_search_41 N v2 v3 v4 Q u hu _ _ _ _ _ h44 ?_
      obtain ⟨x45, hx45⟩ : ∃ y : Int32, y = (v4 + 1 : Int32) := ⟨_, rfl⟩
      replace h := lt_e hx45 h
      refine r_iinc (x := v4) (v := x45) (L' := [some (.ref 7), some (.ref 5), some (.ref v2), some (.int v3), some (.int x45), some (.int x41), none]) dX9_search_120 rfl (by rw [hx45]; rfl) (Nat.le_of_ble_eq_true rfl) rfl rfl ?_
      refine r_goto (tgt := 29) dX9_search_123 (by decide) ?_
      refine r_drop [true, true, true, true, true, false, true] rfl ?_
      exact ih _ _ _ _ h k0
def fX9_search (N : Nat) (p1 : Nat) (S : PS) : Option PS :=
  lt ((S.2.2 5 3) : Nat) fun o1 =>
  gd (obj o1 1) <|
  lt ((S.1 o1 4) : Int32) fun x3 =>
  lt ((u2 S.1 7 2 0, S.2) : PS) fun S4 =>
  lt ((u2 S4.1 7 3 (-1), S4.2) : PS) fun S5 =>
  bV (fJ7_fill_d0a16 N 33 0 S5) fun S7 =>
  bT (fX9_search_29 N p1 x3 N 0 S7) fun q46 =>
  lt (q46.1 : Int32) fun x47 =>
  lt (q46.2 : PS) fun S48 =>
  some S48
set_option maxHeartbeats 4000000 in
set_option maxRecDepth 100000 in
theorem okX9_search (N : Nat) (p1 : Nat) (S : PS) (T : PS) (h : fX9_search N p1 S = some T) : CT mX9_search 5 0 [.ref 7, .ref 5, .ref p1] S (qV T) := by
  refine ct_of [some (.ref 7), some (.ref 5), some (.ref p1), none, none, none, none] rfl (fun _ => rfl) (fun _ => Nat.le_of_ble_eq_true rfl) ?_
  unfold fX9_search at h
  refine r_aload_n (x := 5) dX9_search_0 rfl ?_
  refine r_getfield (o := 5) (v := .ref (S.2.2 5 3)) dX9_search_1 lX9_46 ck5 nC5 rfl ?_
  refine r_topr (fun o1 ho1 => ?_)
  replace h := lt_e ho1 h
  obtain ⟨g2, h⟩ := gd_e h
  refine r_getfield (o := o1) (v := .int (S.1 o1 4)) dX9_search_4 lX9_50 g2.1 g2.2 rfl ?_
  refine r_topi (fun x3 hx3 => ?_)
  replace h := lt_e hx3 h
  refine r_istore_n (L' := [some (.ref 7), some (.ref 5), some (.ref p1), some (.int x3), none, none, none]) dX9_search_7 (Nat.le_of_ble_eq_true rfl) rfl rfl ?_
  refine r_aload_n (x := 7) dX9_search_8 rfl ?_
  refine r_iconst (v := 0) dX9_search_9 rfl ?_
  refine r_putI dX9_search_10 lX9_19 ck7 nC7 ?_
  refine r_topS (fun S4 hS4 => ?_)
  replace h := lt_e hS4 h
  refine r_aload_n (x := 7) dX9_search_13 rfl ?_
  refine r_iconst (v := (-1)) dX9_search_14 rfl ?_
  refine r_putI dX9_search_15 lX9_23 ck7 nC7 ?_
  refine r_topS (fun S5 hS5 => ?_)
  replace h := lt_e hS5 h
  refine r_aload_n (x := 7) dX9_search_18 rfl ?_
  refine r_getfield (o := 7) (v := .ref 33) dX9_search_19 lX9_15 ck7 nC7 rfl ?_
  refine r_lconst (v := 0) dX9_search_22 rfl ?_
  obtain ⟨S7, h8, h⟩ := bV_e h
  refine r_cSV (y := mJ7_fill_d0a16) (As := [.ref 33, .long 0]) (rest := []) dX9_search_23 qX9_54 kJ7_fill_d0a16 rfl (okJ7_fill_d0a16 N 33 0 S5 S7 h8) (by decide) (Nat.zero_le _) rfl (Nat.le_of_ble_eq_true rfl) ?_
  refine r_iconst (v := 0) dX9_search_26 rfl ?_
  refine r_istore (L' := [some (.ref 7), some (.ref 5), some (.ref p1), some (.int x3), some (.int 0), none, none]) dX9_search_27 (Nat.le_of_ble_eq_true rfl) rfl rfl ?_
  obtain ⟨⟨x47, S48⟩, h50, h⟩ := bT_e h
  dsimp only at h
  replace h := pl_s (pl_s (h))
  refine okX9_search_29 N p1 x3 (qV T) 0 (Nat.zero_le _) _ _ _ _ _ h50 ?_
  cases h
  exact r_return dX9_search_126 rfl (Nat.zero_le _) ⟨rfl, rfl⟩
def fX11_hours (N : Nat) (p0 : Int32) (S : PS) : Option (Int32 × PS) :=
  (if p0 < 1 then
    bI (fX11_refuseAct N  S) fun x2 S3 =>
    some (x2, S3)
  else
    (if 20 < p0 then
      bI (fX11_refuseAct N  S) fun x6 S7 =>
      some (x6, S7)
    else
      (if ((S.1 18 6) + p0) ≤ 9999 then
        bV (fX0_keep N 8 18 S) fun S11 =>
        bV (fX3_workOn N 18 S11) fun S14 =>
        bV (fX3_goOn N p0 S14) fun S17 =>
        some ((S17.1 18 6), S17)
      else
        bI (fX11_refuseAct N  S) fun x19 S20 =>
        some (x19, S20))))
set_option maxHeartbeats 4000000 in
set_option maxRecDepth 100000 in
theorem okX11_hours (N : Nat) (p0 : Int32) (S : PS) (r : Int32) (T : PS) (h : fX11_hours N p0 S = some (r, T)) : CT mX11_hours 5 0 [.ref 0, .int p0] S (qI r T) := by
  refine ct_of [some (.ref 0), some (.int p0)] rfl (fun _ => rfl) (fun _ => Nat.le_of_ble_eq_true rfl) ?_
  unfold fX11_hours at h
  refine r_iload_n (x := p0) dX11_hours_0 rfl ?_
  refine r_iconst (v := 1) dX11_hours_1 rfl ?_
  refine r_icmp_lt (tgt := 29) dX11_hours_2 (by decide) (fun c1 => ?_) (fun c1 => ?_)
  · rw [if_pos c1] at h
    refine r_aload_n (x := 0) dX11_hours_29 rfl ?_
    obtain ⟨x2, S3, h4, h⟩ := bI_e h
    refine r_cVI (y := mX11_refuseAct) (As := []) (rest := []) dX11_hours_30 qX11_182 kX11_refuseAct rfl ob0 vc11 rfl (okX11_refuseAct N  S x2 S3 h4) (by decide) (Nat.zero_le _) rfl (Nat.le_of_ble_eq_true rfl) ?_
    cases h
    exact r_ireturn dX11_hours_33 rfl (Nat.zero_le _) ⟨rfl, rfl⟩
  · rw [if_neg c1] at h
    refine r_iload_n (x := p0) dX11_hours_5 rfl ?_
    refine r_bipush (v := 20) dX11_hours_6 rfl ?_
    refine r_icmp_gt (tgt := 29) dX11_hours_8 (by decide) (fun c5 => ?_) (fun c5 => ?_)
    · rw [if_pos c5] at h
      refine r_aload_n (x := 0) dX11_hours_29 rfl ?_
      obtain ⟨x6, S7, h8, h⟩ := bI_e h
      refine r_cVI (y := mX11_refuseAct) (As := []) (rest := []) dX11_hours_30 qX11_182 kX11_refuseAct rfl ob0 vc11 rfl (okX11_refuseAct N  S x6 S7 h8) (by decide) (Nat.zero_le _) rfl (Nat.le_of_ble_eq_true rfl) ?_
      cases h
      exact r_ireturn dX11_hours_33 rfl (Nat.zero_le _) ⟨rfl, rfl⟩
    · rw [if_neg c5] at h
      refine r_aload_n (x := 0) dX11_hours_11 rfl ?_
      refine r_getfield (o := 0) (v := .ref 3) dX11_hours_12 lX11_19 ck0 nC0 rfl ?_
      refine r_getfield (o := 3) (v := .ref 18) dX11_hours_15 lX11_116 ck3 nC3 rfl ?_
      refine r_getfield (o := 18) (v := .int (S.1 18 6)) dX11_hours_18 lX11_118 ck18 nC18 rfl ?_
      refine r_iload_n (x := p0) dX11_hours_21 rfl ?_
      refine r_iadd dX11_hours_22 ?_
      refine r_sipush (v := 9999) dX11_hours_23 rfl ?_
      refine r_icmp_le (tgt := 34) dX11_hours_26 (by decide) (fun c9 => ?_) (fun c9 => ?_)
      · rw [if_pos c9] at h
        refine r_aload_n (x := 0) dX11_hours_34 rfl ?_
        refine r_getfield (o := 0) (v := .ref 3) dX11_hours_35 lX11_19 ck0 nC0 rfl ?_
        refine r_getfield (o := 3) (v := .ref 8) dX11_hours_38 lX11_139 ck3 nC3 rfl ?_
        refine r_aload_n (x := 0) dX11_hours_41 rfl ?_
        refine r_getfield (o := 0) (v := .ref 3) dX11_hours_42 lX11_19 ck0 nC0 rfl ?_
        refine r_getfield (o := 3) (v := .ref 18) dX11_hours_45 lX11_116 ck3 nC3 rfl ?_
        obtain ⟨S11, h12, h⟩ := bV_e h
        refine r_cVV (y := mX0_keep) (As := [.ref 18]) (rest := []) dX11_hours_48 qX11_185 kX0_keep rfl ob8 vc0 rfl (okX0_keep N 8 18 S S11 h12) (by decide) (Nat.zero_le _) rfl (Nat.le_of_ble_eq_true rfl) ?_
        refine r_aload_n (x := 0) dX11_hours_51 rfl ?_
        refine r_getfield (o := 0) (v := .ref 5) dX11_hours_52 lX11_29 ck0 nC0 rfl ?_
        refine r_aload_n (x := 0) dX11_hours_55 rfl ?_
        refine r_getfield (o := 0) (v := .ref 3) dX11_hours_56 lX11_19 ck0 nC0 rfl ?_
        refine r_getfield (o := 3) (v := .ref 18) dX11_hours_59 lX11_116 ck3 nC3 rfl ?_
        obtain ⟨S14, h15, h⟩ := bV_e h
        refine r_cVV (y := mX3_workOn) (As := [.ref 18]) (rest := []) dX11_hours_62 qX11_188 kX3_workOn rfl ob5 vc3 rfl (okX3_workOn N 18 S11 S14 h15) (by decide) (Nat.zero_le _) rfl (Nat.le_of_ble_eq_true rfl) ?_
        refine r_aload_n (x := 0) dX11_hours_65 rfl ?_
        refine r_getfield (o := 0) (v := .ref 5) dX11_hours_66 lX11_29 ck0 nC0 rfl ?_
        refine r_iload_n (x := p0) dX11_hours_69 rfl ?_
        obtain ⟨S17, h18, h⟩ := bV_e h
        refine r_cVV (y := mX3_goOn) (As := [.int p0]) (rest := []) dX11_hours_70 qX11_191 kX3_goOn rfl ob5 vc3 rfl (okX3_goOn N p0 S14 S17 h18) (by decide) (Nat.zero_le _) rfl (Nat.le_of_ble_eq_true rfl) ?_
        refine r_aload_n (x := 0) dX11_hours_73 rfl ?_
        refine r_getfield (o := 0) (v := .ref 3) dX11_hours_74 lX11_19 ck0 nC0 rfl ?_
        refine r_getfield (o := 3) (v := .ref 18) dX11_hours_77 lX11_116 ck3 nC3 rfl ?_
        refine r_getfield (o := 18) (v := .int (S17.1 18 6)) dX11_hours_80 lX11_118 ck18 nC18 rfl ?_
        cases h
        exact r_ireturn dX11_hours_83 rfl (Nat.zero_le _) ⟨rfl, rfl⟩
      · rw [if_neg c9] at h
        refine r_aload_n (x := 0) dX11_hours_29 rfl ?_
        obtain ⟨x19, S20, h21, h⟩ := bI_e h
        refine r_cVI (y := mX11_refuseAct) (As := []) (rest := []) dX11_hours_30 qX11_182 kX11_refuseAct rfl ob0 vc11 rfl (okX11_refuseAct N  S x19 S20 h21) (by decide) (Nat.zero_le _) rfl (Nat.le_of_ble_eq_true rfl) ?_
        cases h
        exact r_ireturn dX11_hours_33 rfl (Nat.zero_le _) ⟨rfl, rfl⟩
def fX11_led (N : Nat) (p0 : Int32) (S : PS) : Option ((Int32 ⊕ String) × PS) :=
  bU (fX11_needWhat N p0 2 S) fun S2 =>
  (if p0 = 2 then
    bI (fX9_fitsAsItIs N 3 S2) fun x9 S10 =>
    lt ((if x9 = 0 then 0 else 1) : Int32) fun x13 =>
    some (.inl x13, S10)
  else
    bV (fX9_search N 3 S2) fun S6 =>
    (if p0 = 0 then
      some (.inl (S6.1 7 2), S6)
    else
      some (.inl (S6.1 7 3), S6)))
set_option maxHeartbeats 4000000 in
set_option maxRecDepth 100000 in
theorem okX11_led (N : Nat) (p0 : Int32) (S : PS) (r : Int32 ⊕ String) (T : PS) (h : fX11_led N p0 S = some (r, T)) : CT mX11_led 7 8 [.ref 0, .int p0] S (qE r T) := by
  refine ct_of [some (.ref 0), some (.int p0)] rfl (fun _ => rfl) (fun _ => Nat.le_of_ble_eq_true rfl) ?_
  unfold fX11_led at h
  refine r_iload_n (x := p0) dX11_led_0 rfl ?_
  refine r_iconst (v := 2) dX11_led_1 rfl ?_
  obtain ⟨x1, S2, h3, hx1, kx1⟩ := bU_e h
  refine r_cSU (y := mX11_needWhat) (As := [.int p0, .int 2]) (rest := []) dX11_led_2 qX11_109 kX11_needWhat rfl (okX11_needWhat N p0 2 S x1 S2 h3) (by decide) (by decide) rfl (Nat.le_of_ble_eq_true rfl) (fun ex1 => ?_) (fun Ex1 ex1 => ?_)
  · replace h := hx1 ex1
    refine r_iload_n (x := p0) dX11_led_5 rfl ?_
    refine r_iconst (v := 2) dX11_led_6 rfl ?_
    refine r_icmp_ne (tgt := 34) dX11_led_7 (by decide) (fun c4 => ?_) (fun c4 => ?_)
    · rw [if_neg c4] at h
      refine r_aload_n (x := 0) dX11_led_34 rfl ?_
      refine r_getfield (o := 0) (v := .ref 7) dX11_led_35 lX11_43 ck0 nC0 rfl ?_
      refine r_aload_n (x := 0) dX11_led_38 rfl ?_
      refine r_getfield (o := 0) (v := .ref 5) dX11_led_39 lX11_29 ck0 nC0 rfl ?_
      refine r_aload_n (x := 0) dX11_led_42 rfl ?_
      refine r_getfield (o := 0) (v := .ref 3) dX11_led_43 lX11_19 ck0 nC0 rfl ?_
      obtain ⟨S6, h7, h⟩ := bV_e h
      refine r_cVV (y := mX9_search) (As := [.ref 5, .ref 3]) (rest := []) dX11_led_46 qX11_282 kX9_search rfl ob7 vc9 rfl (okX9_search N 3 S2 S6 h7) (by decide) (by decide) rfl (Nat.le_of_ble_eq_true rfl) ?_
      refine r_iload_n (x := p0) dX11_led_49 rfl ?_
      refine r_if_ne (tgt := 63) dX11_led_50 (by decide) (fun c8 => ?_) (fun c8 => ?_)
      · rw [if_neg c8] at h
        refine r_aload_n (x := 0) dX11_led_63 rfl ?_
        refine r_getfield (o := 0) (v := .ref 7) dX11_led_64 lX11_43 ck0 nC0 rfl ?_
        refine r_getfield (o := 7) (v := .int (S6.1 7 3)) dX11_led_67 lX11_289 ck7 nC7 rfl ?_
        cases h
        exact r_ireturn dX11_led_70 rfl (by decide) ⟨rfl, rfl⟩
      · rw [if_pos c8] at h
        refine r_aload_n (x := 0) dX11_led_53 rfl ?_
        refine r_getfield (o := 0) (v := .ref 7) dX11_led_54 lX11_43 ck0 nC0 rfl ?_
        refine r_getfield (o := 7) (v := .int (S6.1 7 2)) dX11_led_57 lX11_286 ck7 nC7 rfl ?_
        refine r_goto (tgt := 70) dX11_led_60 (by decide) ?_
        cases h
        exact r_ireturn dX11_led_70 rfl (by decide) ⟨rfl, rfl⟩
    · rw [if_pos c4] at h
      refine r_aload_n (x := 0) dX11_led_10 rfl ?_
      refine r_getfield (o := 0) (v := .ref 7) dX11_led_11 lX11_43 ck0 nC0 rfl ?_
      refine r_aload_n (x := 0) dX11_led_14 rfl ?_
      refine r_getfield (o := 0) (v := .ref 5) dX11_led_15 lX11_29 ck0 nC0 rfl ?_
      refine r_aload_n (x := 0) dX11_led_18 rfl ?_
      refine r_getfield (o := 0) (v := .ref 3) dX11_led_19 lX11_19 ck0 nC0 rfl ?_
      obtain ⟨x9, S10, h11, h⟩ := bI_e h
      refine r_cVI (y := mX9_fitsAsItIs) (As := [.ref 5, .ref 3]) (rest := []) dX11_led_22 qX11_278 kX9_fitsAsItIs rfl ob7 vc9 rfl (okX9_fitsAsItIs N 3 S2 x9 S10 h11) (by decide) (by decide) rfl (Nat.le_of_ble_eq_true rfl) ?_
      obtain ⟨x13, hx13⟩ : ∃ y : Int32, y = ((if x9 = 0 then 0 else 1) : Int32) := ⟨_, rfl⟩
      replace h := lt_e hx13 h
      have keyx13 : WP [] mX11_led 7 8 (qE r T) 33 [some (.ref 0), some (.int p0)] (.int x13 :: []) S10 1 := by
        cases h
        exact r_ireturn dX11_led_33 rfl (by decide) ⟨rfl, rfl⟩
      refine r_if_eq (tgt := 32) dX11_led_25 (by decide) (fun c12 => ?_) (fun c12 => ?_)
      · refine r_iconst (v := 0) dX11_led_32 rfl ?_
        exact r_tope (by rw [hx13, if_pos c12]) keyx13
      · refine r_iconst (v := 1) dX11_led_28 rfl ?_
        refine r_goto (tgt := 33) dX11_led_29 (by decide) ?_
        exact r_tope (by rw [hx13, if_neg c12]) keyx13
  · cases kx1 Ex1 ex1
    exact ⟨rfl, rfl⟩
def fX11_listen_27 (N : Nat) (v1 : Int32) : Nat → Int32 → Int32 → Int32 → PS → Option (Int32 × Int32 × Int32 × PS)
  | 0, _, _, _, _ => none
  | n + 1, v2, v3, v4, S =>
    (if 40 < v4 then
      some (v2, v3, v4, S)
    else
      bI (fX9_unlikeIn N v4 S) fun x8 S9 =>
      (if x8 ≤ v3 then
        lt (v4 + 1 : Int32) fun x12 =>
        fX11_listen_27 N v1 n v2 v3 x12 S9
      else
        lt (v4 + 1 : Int32) fun x13 =>
        fX11_listen_27 N v1 n v4 x8 x13 S9))
set_option maxHeartbeats 4000000 in
set_option maxRecDepth 100000 in
theorem okX11_listen_27 (N : Nat) (v1 : Int32) (Q : OQ) (u : Nat) (hu : u ≤ 8) : ∀ (n : Nat) (v2 : Int32) (v3 : Int32) (v4 : Int32) (S : PS) (y2 : Int32) (y3 : Int32) (y4 : Int32) (T : PS), fX11_listen_27 N v1 n v2 v3 v4 S = some (y2, y3, y4, T) → WP [] mX11_listen 7 8 Q 63 [some (.ref 0), some (.int v1), some (.int y2), some (.int y3), some (.int y4), none] [] T u → WP [] mX11_listen 7 8 Q 27 [some (.ref 0), some (.int v1), some (.int v2), some (.int v3), some (.int v4), none] [] S u := by
  intro n
  induction n with
  | zero => intro v2 v3 v4 S y2 y3 y4 T h; rw [fX11_listen_27] at h; cases h
  | succ n ih =>
    intro v2 v3 v4 S y2 y3 y4 T h k0
    rw [fX11_listen_27] at h
    refine r_iload (x := v4) dX11_listen_27 rfl ?_
    refine r_bipush (v := 40) dX11_listen_29 rfl ?_
    refine r_icmp_gt (tgt := 63) dX11_listen_31 (by decide) (fun c7 => ?_) (fun c7 => ?_)
    · rw [if_pos c7] at h
      cases h
      exact k0
    · rw [if_neg c7] at h
      refine r_aload_n (x := 0) dX11_listen_34 rfl ?_
      refine r_getfield (o := 0) (v := .ref 7) dX11_listen_35 lX11_43 ck0 nC0 rfl ?_
      refine r_iload (x := v4) dX11_listen_38 rfl ?_
      obtain ⟨x8, S9, h10, h⟩ := bI_e h
      refine r_cVI (y := mX9_unlikeIn) (As := [.int v4]) (rest := []) dX11_listen_40 qX11_292 kX9_unlikeIn rfl ob7 vc9 rfl (okX9_unlikeIn N v4 S x8 S9 h10) (by decide) hu rfl (Nat.le_of_ble_eq_true rfl) ?_
      refine r_istore (L' := [some (.ref 0), some (.int v1), some (.int v2), some (.int v3), some (.int v4), some (.int x8)]) dX11_listen_43 (Nat.le_of_ble_eq_true rfl) rfl rfl ?_
      refine r_iload (x := x8) dX11_listen_45 rfl ?_
      refine r_iload_n (x := v3) dX11_listen_47 rfl ?_
      refine r_icmp_le (tgt := 57) dX11_listen_48 (by decide) (fun c11 => ?_) (fun c11 => ?_)
      · rw [if_pos c11] at h
        obtain ⟨x12, hx12⟩ : ∃ y : Int32, y = (v4 + 1 : Int32) := ⟨_, rfl⟩
        replace h := lt_e hx12 h
        refine r_iinc (x := v4) (v := x12) (L' := [some (.ref 0), some (.int v1), some (.int v2), some (.int v3), some (.int x12), some (.int x8)]) dX11_listen_57 rfl (by rw [hx12]; rfl) (Nat.le_of_ble_eq_true rfl) rfl rfl ?_
        refine r_goto (tgt := 27) dX11_listen_60 (by decide) ?_
        refine r_drop [true, true, true, true, true, false] rfl ?_
        exact ih _ _ _ _ _ _ _ _ h k0
      · rw [if_neg c11] at h
        refine r_iload (x := v4) dX11_listen_51 rfl ?_
        refine r_istore_n (L' := [some (.ref 0), some (.int v1), some (.int v4), some (.int v3), some (.int v4), some (.int x8)]) dX11_listen_53 (Nat.le_of_ble_eq_true rfl) rfl rfl ?_
        refine r_iload (x := x8) dX11_listen_54 rfl ?_
        refine r_istore_n (L' := [some (.ref 0), some (.int v1), some (.int v4), some (.int x8), some (.int v4), some (.int x8)]) dX11_listen_56 (Nat.le_of_ble_eq_true rfl) rfl rfl ?_
        obtain ⟨x13, hx13⟩ : ∃ y : Int32, y = (v4 + 1 : Int32) := ⟨_, rfl⟩
        replace h := lt_e hx13 h
        refine r_iinc (x := v4) (v := x13) (L' := [some (.ref 0), some (.int v1), some (.int v4), some (.int x8), some (.int x13), some (.int x8)]) dX11_listen_57 rfl (by rw [hx13]; rfl) (Nat.le_of_ble_eq_true rfl) rfl rfl ?_
        refine r_goto (tgt := 27) dX11_listen_60 (by decide) ?_
        refine r_drop [true, true, true, true, true, false] rfl ?_
        exact ih _ _ _ _ _ _ _ _ h k0
def fX11_listen (N : Nat) (p0 : Int32) (S : PS) : Option ((Int32 ⊕ String) × PS) :=
  bU (fX11_needWhat N p0 1 S) fun S2 =>
  bV (fX9_search N 3 S2) fun S5 =>
  bT (fX11_listen_27 N p0 N (-1) 0 1 S5) fun q14 =>
  lt (q14.1 : Int32) fun x15 =>
  lt (q14.2.1 : Int32) fun x16 =>
  lt (q14.2.2.1 : Int32) fun x17 =>
  lt (q14.2.2.2 : PS) fun S18 =>
  lt ((if p0 = 0 then x15 else x16) : Int32) fun x22 =>
  some (.inl x22, S18)
set_option maxHeartbeats 4000000 in
set_option maxRecDepth 100000 in
theorem okX11_listen (N : Nat) (p0 : Int32) (S : PS) (r : Int32 ⊕ String) (T : PS) (h : fX11_listen N p0 S = some (r, T)) : CT mX11_listen 7 8 [.ref 0, .int p0] S (qE r T) := by
  refine ct_of [some (.ref 0), some (.int p0), none, none, none, none] rfl (fun _ => rfl) (fun _ => Nat.le_of_ble_eq_true rfl) ?_
  unfold fX11_listen at h
  refine r_iload_n (x := p0) dX11_listen_0 rfl ?_
  refine r_iconst (v := 1) dX11_listen_1 rfl ?_
  obtain ⟨x1, S2, h3, hx1, kx1⟩ := bU_e h
  refine r_cSU (y := mX11_needWhat) (As := [.int p0, .int 1]) (rest := []) dX11_listen_2 qX11_109 kX11_needWhat rfl (okX11_needWhat N p0 1 S x1 S2 h3) (by decide) (by decide) rfl (Nat.le_of_ble_eq_true rfl) (fun ex1 => ?_) (fun Ex1 ex1 => ?_)
  · replace h := hx1 ex1
    refine r_aload_n (x := 0) dX11_listen_5 rfl ?_
    refine r_getfield (o := 0) (v := .ref 7) dX11_listen_6 lX11_43 ck0 nC0 rfl ?_
    refine r_aload_n (x := 0) dX11_listen_9 rfl ?_
    refine r_getfield (o := 0) (v := .ref 5) dX11_listen_10 lX11_29 ck0 nC0 rfl ?_
    refine r_aload_n (x := 0) dX11_listen_13 rfl ?_
    refine r_getfield (o := 0) (v := .ref 3) dX11_listen_14 lX11_19 ck0 nC0 rfl ?_
    obtain ⟨S5, h6, h⟩ := bV_e h
    refine r_cVV (y := mX9_search) (As := [.ref 5, .ref 3]) (rest := []) dX11_listen_17 qX11_282 kX9_search rfl ob7 vc9 rfl (okX9_search N 3 S2 S5 h6) (by decide) (by decide) rfl (Nat.le_of_ble_eq_true rfl) ?_
    refine r_iconst (v := (-1)) dX11_listen_20 rfl ?_
    refine r_istore_n (L' := [some (.ref 0), some (.int p0), some (.int (-1)), none, none, none]) dX11_listen_21 (Nat.le_of_ble_eq_true rfl) rfl rfl ?_
    refine r_iconst (v := 0) dX11_listen_22 rfl ?_
    refine r_istore_n (L' := [some (.ref 0), some (.int p0), some (.int (-1)), some (.int 0), none, none]) dX11_listen_23 (Nat.le_of_ble_eq_true rfl) rfl rfl ?_
    refine r_iconst (v := 1) dX11_listen_24 rfl ?_
    refine r_istore (L' := [some (.ref 0), some (.int p0), some (.int (-1)), some (.int 0), some (.int 1), none]) dX11_listen_25 (Nat.le_of_ble_eq_true rfl) rfl rfl ?_
    obtain ⟨⟨x15, x16, x17, S18⟩, h20, h⟩ := bT_e h
    dsimp only at h
    replace h := pl_s (pl_s (pl_s (pl_s (h))))
    refine okX11_listen_27 N p0 (qE r T) 1 (by decide) _ _ _ _ _ _ _ _ _ h20 ?_
    refine r_iload_n (x := p0) dX11_listen_63 rfl ?_
    obtain ⟨x22, hx22⟩ : ∃ y : Int32, y = ((if p0 = 0 then x15 else x16) : Int32) := ⟨_, rfl⟩
    replace h := lt_e hx22 h
    have keyx22 : WP [] mX11_listen 7 8 (qE r T) 72 [some (.ref 0), some (.int p0), some (.int x15), some (.int x16), some (.int x17), none] (.int x22 :: []) S18 1 := by
      cases h
      exact r_ireturn dX11_listen_72 rfl (by decide) ⟨rfl, rfl⟩
    refine r_if_ne (tgt := 71) dX11_listen_64 (by decide) (fun c21 => ?_) (fun c21 => ?_)
    · refine r_iload_n (x := x16) dX11_listen_71 rfl ?_
      exact r_tope (by rw [hx22, if_neg c21]) keyx22
    · refine r_iload_n (x := x15) dX11_listen_67 rfl ?_
      refine r_goto (tgt := 72) dX11_listen_68 (by decide) ?_
      exact r_tope (by rw [hx22, if_pos c21]) keyx22
  · cases kx1 Ex1 ex1
    exact ⟨rfl, rfl⟩
def fX11_lookAhead (N : Nat) (p0 : Int32) (S : PS) : Option PS :=
  bV (fX3_workOnCopy N 18 S) fun S2 =>
  bV (fX3_goOn N p0 S2) fun S5 =>
  some S5
set_option maxHeartbeats 4000000 in
set_option maxRecDepth 100000 in
theorem okX11_lookAhead (N : Nat) (p0 : Int32) (S : PS) (T : PS) (h : fX11_lookAhead N p0 S = some T) : CT mX11_lookAhead 5 0 [.ref 0, .int p0] S (qV T) := by
  refine ct_of [some (.ref 0), some (.int p0)] rfl (fun _ => rfl) (fun _ => Nat.le_of_ble_eq_true rfl) ?_
  unfold fX11_lookAhead at h
  refine r_aload_n (x := 0) dX11_lookAhead_0 rfl ?_
  refine r_getfield (o := 0) (v := .ref 5) dX11_lookAhead_1 lX11_29 ck0 nC0 rfl ?_
  refine r_aload_n (x := 0) dX11_lookAhead_4 rfl ?_
  refine r_getfield (o := 0) (v := .ref 3) dX11_lookAhead_5 lX11_19 ck0 nC0 rfl ?_
  refine r_getfield (o := 3) (v := .ref 18) dX11_lookAhead_8 lX11_116 ck3 nC3 rfl ?_
  obtain ⟨S2, h3, h⟩ := bV_e h
  refine r_cVV (y := mX3_workOnCopy) (As := [.ref 18]) (rest := []) dX11_lookAhead_11 qX11_363 kX3_workOnCopy rfl ob5 vc3 rfl (okX3_workOnCopy N 18 S S2 h3) (by decide) (Nat.zero_le _) rfl (Nat.le_of_ble_eq_true rfl) ?_
  refine r_aload_n (x := 0) dX11_lookAhead_14 rfl ?_
  refine r_getfield (o := 0) (v := .ref 5) dX11_lookAhead_15 lX11_29 ck0 nC0 rfl ?_
  refine r_iload_n (x := p0) dX11_lookAhead_18 rfl ?_
  obtain ⟨S5, h6, h⟩ := bV_e h
  refine r_cVV (y := mX3_goOn) (As := [.int p0]) (rest := []) dX11_lookAhead_19 qX11_191 kX3_goOn rfl ob5 vc3 rfl (okX3_goOn N p0 S2 S5 h6) (by decide) (Nat.zero_le _) rfl (Nat.le_of_ble_eq_true rfl) ?_
  cases h
  exact r_return dX11_lookAhead_22 rfl (Nat.zero_le _) ⟨rfl, rfl⟩
def fX11_firstHourOfAll_7 (N : Nat) (v1 : Int32) : Nat → Int32 → PS → Option (Nat × Int32 × PS)
  | 0, _, _ => none
  | n + 1, v2, S =>
    (if 200 < v2 then
      some (0, v2, S)
    else
      bV (fX3_goOn N 1 S) fun S6 =>
      (if ((S6.1 5 5) &&& v1) = v1 then
        some (1, v2, S6)
      else
        lt (v2 + 1 : Int32) fun x9 =>
        fX11_firstHourOfAll_7 N v1 n x9 S6))
set_option maxHeartbeats 4000000 in
set_option maxRecDepth 100000 in
theorem okX11_firstHourOfAll_7 (N : Nat) (v1 : Int32) (Q : OQ) (u : Nat) (hu : u ≤ 0) : ∀ (n : Nat) (v2 : Int32) (S : PS) (tg : Nat) (y2 : Int32) (T : PS), fX11_firstHourOfAll_7 N v1 n v2 S = some (tg, y2, T) → (tg = 0 → WP [] mX11_firstHourOfAll 6 0 Q 43 [some (.ref 0), some (.int v1), some (.int y2)] [] T u) → (tg = 1 → WP [] mX11_firstHourOfAll 6 0 Q 35 [some (.ref 0), some (.int v1), some (.int y2)] [] T u) → WP [] mX11_firstHourOfAll 6 0 Q 7 [some (.ref 0), some (.int v1), some (.int v2)] [] S u := by
  intro n
  induction n with
  | zero => intro v2 S tg y2 T h; rw [fX11_firstHourOfAll_7] at h; cases h
  | succ n ih =>
    intro v2 S tg y2 T h k0 k1
    rw [fX11_firstHourOfAll_7] at h
    refine r_iload_n (x := v2) dX11_firstHourOfAll_7 rfl ?_
    refine r_sipush (v := 200) dX11_firstHourOfAll_8 rfl ?_
    refine r_icmp_gt (tgt := 43) dX11_firstHourOfAll_11 (by decide) (fun c4 => ?_) (fun c4 => ?_)
    · rw [if_pos c4] at h
      cases h
      exact k0 rfl
    · rw [if_neg c4] at h
      refine r_aload_n (x := 0) dX11_firstHourOfAll_14 rfl ?_
      refine r_getfield (o := 0) (v := .ref 5) dX11_firstHourOfAll_15 lX11_29 ck0 nC0 rfl ?_
      refine r_iconst (v := 1) dX11_firstHourOfAll_18 rfl ?_
      obtain ⟨S6, h7, h⟩ := bV_e h
      refine r_cVV (y := mX3_goOn) (As := [.int 1]) (rest := []) dX11_firstHourOfAll_19 qX11_191 kX3_goOn rfl ob5 vc3 rfl (okX3_goOn N 1 S S6 h7) (by decide) hu rfl (Nat.le_of_ble_eq_true rfl) ?_
      refine r_aload_n (x := 0) dX11_firstHourOfAll_22 rfl ?_
      refine r_getfield (o := 0) (v := .ref 5) dX11_firstHourOfAll_23 lX11_29 ck0 nC0 rfl ?_
      refine r_getfield (o := 5) (v := .int (S6.1 5 5)) dX11_firstHourOfAll_26 lX11_221 ck5 nC5 rfl ?_
      refine r_iload_n (x := v1) dX11_firstHourOfAll_29 rfl ?_
      refine r_iand dX11_firstHourOfAll_30 ?_
      refine r_iload_n (x := v1) dX11_firstHourOfAll_31 rfl ?_
      refine r_icmp_ne (tgt := 37) dX11_firstHourOfAll_32 (by decide) (fun c8 => ?_) (fun c8 => ?_)
      · rw [if_neg c8] at h
        obtain ⟨x9, hx9⟩ : ∃ y : Int32, y = (v2 + 1 : Int32) := ⟨_, rfl⟩
        replace h := lt_e hx9 h
        refine r_iinc (x := v2) (v := x9) (L' := [some (.ref 0), some (.int v1), some (.int x9)]) dX11_firstHourOfAll_37 rfl (by rw [hx9]; rfl) (Nat.le_of_ble_eq_true rfl) rfl rfl ?_
        refine r_goto (tgt := 7) dX11_firstHourOfAll_40 (by decide) ?_
        exact ih _ _ _ _ _ h k0 k1
      · rw [if_pos c8] at h
        cases h
        exact k1 rfl
def fX11_firstHourOfAll (N : Nat) (p0 : Int32) (S : PS) : Option (Int32 × PS) :=
  bV (fX11_lookAhead N 0 S) fun S2 =>
  bT (fX11_firstHourOfAll_7 N p0 N 1 S2) fun q10 =>
  lt (q10.1 : Nat) fun t13 =>
  lt (q10.2.1 : Int32) fun x11 =>
  lt (q10.2.2 : PS) fun S12 =>
  (if t13 = 0 then
    some ((-1), S12)
  else 
    some (x11, S12))
set_option maxHeartbeats 4000000 in
set_option maxRecDepth 100000 in
theorem okX11_firstHourOfAll (N : Nat) (p0 : Int32) (S : PS) (r : Int32) (T : PS) (h : fX11_firstHourOfAll N p0 S = some (r, T)) : CT mX11_firstHourOfAll 6 0 [.ref 0, .int p0] S (qI r T) := by
  refine ct_of [some (.ref 0), some (.int p0), none] rfl (fun _ => rfl) (fun _ => Nat.le_of_ble_eq_true rfl) ?_
  unfold fX11_firstHourOfAll at h
  refine r_aload_n (x := 0) dX11_firstHourOfAll_0 rfl ?_
  refine r_iconst (v := 0) dX11_firstHourOfAll_1 rfl ?_
  obtain ⟨S2, h3, h⟩ := bV_e h
  refine r_cVV (y := mX11_lookAhead) (As := [.int 0]) (rest := []) dX11_firstHourOfAll_2 qX11_217 kX11_lookAhead rfl ob0 vc11 rfl (okX11_lookAhead N 0 S S2 h3) (by decide) (Nat.zero_le _) rfl (Nat.le_of_ble_eq_true rfl) ?_
  refine r_iconst (v := 1) dX11_firstHourOfAll_5 rfl ?_
  refine r_istore_n (L' := [some (.ref 0), some (.int p0), some (.int 1)]) dX11_firstHourOfAll_6 (Nat.le_of_ble_eq_true rfl) rfl rfl ?_
  obtain ⟨⟨t13, x11, S12⟩, h14, h⟩ := bT_e h
  dsimp only at h
  replace h := pl_s (pl_s (pl_s (h)))
  refine okX11_firstHourOfAll_7 N p0 (qI r T) 0 (Nat.zero_le _) _ _ _ _ _ _ h14 (fun et13 => ?_) (fun et13 => ?_)
  · rw [if_pos et13] at h
    refine r_iconst (v := (-1)) dX11_firstHourOfAll_43 rfl ?_
    cases h
    exact r_ireturn dX11_firstHourOfAll_44 rfl (Nat.zero_le _) ⟨rfl, rfl⟩
  · rw [if_neg (by rw [et13]; decide)] at h
    refine r_iload_n (x := x11) dX11_firstHourOfAll_35 rfl ?_
    cases h
    exact r_ireturn dX11_firstHourOfAll_36 rfl (Nat.zero_le _) ⟨rfl, rfl⟩
def fX11_longestSilence_12 (N : Nat) (v1 : Int32) : Nat → Int32 → Int32 → Int32 → PS → Option (Int32 × Int32 × Int32 × PS)
  | 0, _, _, _, _ => none
  | n + 1, v2, v3, v4, S =>
    (if v1 ≤ v4 then
      some (v2, v3, v4, S)
    else
      bV (fX3_goOn N 1 S) fun S6 =>
      lt ((if (S6.1 5 5) = 0 then (v3 + 1) else 0) : Int32) fun x9 =>
      lt ((if v2 < x9 then x9 else v2) : Int32) fun x10 =>
      lt (v4 + 1 : Int32) fun x11 =>
      fX11_longestSilence_12 N v1 n x10 x9 x11 S6)
set_option maxHeartbeats 4000000 in
set_option maxRecDepth 100000 in
theorem okX11_longestSilence_12 (N : Nat) (v1 : Int32) (Q : OQ) (u : Nat) (hu : u ≤ 0) : ∀ (n : Nat) (v2 : Int32) (v3 : Int32) (v4 : Int32) (S : PS) (y2 : Int32) (y3 : Int32) (y4 : Int32) (T : PS), fX11_longestSilence_12 N v1 n v2 v3 v4 S = some (y2, y3, y4, T) → WP [] mX11_longestSilence 6 0 Q 56 [some (.ref 0), some (.int v1), some (.int y2), some (.int y3), some (.int y4)] [] T u → WP [] mX11_longestSilence 6 0 Q 12 [some (.ref 0), some (.int v1), some (.int v2), some (.int v3), some (.int v4)] [] S u := by
  intro n
  induction n with
  | zero => intro v2 v3 v4 S y2 y3 y4 T h; rw [fX11_longestSilence_12] at h; cases h
  | succ n ih =>
    intro v2 v3 v4 S y2 y3 y4 T h k0
    rw [fX11_longestSilence_12] at h
    refine r_iload (x := v4) dX11_longestSilence_12 rfl ?_
    refine r_iload_n (x := v1) dX11_longestSilence_14 rfl ?_
    refine r_icmp_ge (tgt := 56) dX11_longestSilence_15 (by decide) (fun c4 => ?_) (fun c4 => ?_)
    · rw [if_pos c4] at h
      cases h
      exact k0
    · rw [if_neg c4] at h
      refine r_aload_n (x := 0) dX11_longestSilence_18 rfl ?_
      refine r_getfield (o := 0) (v := .ref 5) dX11_longestSilence_19 lX11_29 ck0 nC0 rfl ?_
      refine r_iconst (v := 1) dX11_longestSilence_22 rfl ?_
      obtain ⟨S6, h7, h⟩ := bV_e h
      refine r_cVV (y := mX3_goOn) (As := [.int 1]) (rest := []) dX11_longestSilence_23 qX11_191 kX3_goOn rfl ob5 vc3 rfl (okX3_goOn N 1 S S6 h7) (by decide) hu rfl (Nat.le_of_ble_eq_true rfl) ?_
      refine r_aload_n (x := 0) dX11_longestSilence_26 rfl ?_
      refine r_getfield (o := 0) (v := .ref 5) dX11_longestSilence_27 lX11_29 ck0 nC0 rfl ?_
      refine r_getfield (o := 5) (v := .int (S6.1 5 5)) dX11_longestSilence_30 lX11_221 ck5 nC5 rfl ?_
      obtain ⟨x9, hx9⟩ : ∃ y : Int32, y = ((if (S6.1 5 5) = 0 then (v3 + 1) else 0) : Int32) := ⟨_, rfl⟩
      replace h := lt_e hx9 h
      have keyx9 : WP [] mX11_longestSilence 6 0 Q 43 [some (.ref 0), some (.int v1), some (.int v2), some (.int v3), some (.int v4)] (.int x9 :: []) S6 u := by
        refine r_istore_n (L' := [some (.ref 0), some (.int v1), some (.int v2), some (.int x9), some (.int v4)]) dX11_longestSilence_43 (Nat.le_of_ble_eq_true rfl) rfl rfl ?_
        refine r_iload_n (x := v2) dX11_longestSilence_44 rfl ?_
        refine r_iload_n (x := x9) dX11_longestSilence_45 rfl ?_
        refine r_mmax dX11_longestSilence_46 qX11_345 (by decide) hu (Nat.le_of_ble_eq_true rfl) ?_
        refine r_topi (fun x10 hx10 => ?_)
        replace h := lt_e hx10 h
        refine r_istore_n (L' := [some (.ref 0), some (.int v1), some (.int x10), some (.int x9), some (.int v4)]) dX11_longestSilence_49 (Nat.le_of_ble_eq_true rfl) rfl rfl ?_
        obtain ⟨x11, hx11⟩ : ∃ y : Int32, y = (v4 + 1 : Int32) := ⟨_, rfl⟩
        replace h := lt_e hx11 h
        refine r_iinc (x := v4) (v := x11) (L' := [some (.ref 0), some (.int v1), some (.int x10), some (.int x9), some (.int x11)]) dX11_longestSilence_50 rfl (by rw [hx11]; rfl) (Nat.le_of_ble_eq_true rfl) rfl rfl ?_
        refine r_goto (tgt := 12) dX11_longestSilence_53 (by decide) ?_
        exact ih _ _ _ _ _ _ _ _ h k0
      refine r_if_ne (tgt := 42) dX11_longestSilence_33 (by decide) (fun c8 => ?_) (fun c8 => ?_)
      · refine r_iconst (v := 0) dX11_longestSilence_42 rfl ?_
        exact r_tope (by rw [hx9, if_neg c8]) keyx9
      · refine r_iload_n (x := v3) dX11_longestSilence_36 rfl ?_
        refine r_iconst (v := 1) dX11_longestSilence_37 rfl ?_
        refine r_iadd dX11_longestSilence_38 ?_
        refine r_goto (tgt := 43) dX11_longestSilence_39 (by decide) ?_
        exact r_tope (by rw [hx9, if_pos c8]) keyx9
def fX11_longestSilence (N : Nat) (p0 : Int32) (S : PS) : Option (Int32 × PS) :=
  bV (fX11_lookAhead N 0 S) fun S2 =>
  bT (fX11_longestSilence_12 N p0 N 0 0 0 S2) fun q12 =>
  lt (q12.1 : Int32) fun x13 =>
  lt (q12.2.1 : Int32) fun x14 =>
  lt (q12.2.2.1 : Int32) fun x15 =>
  lt (q12.2.2.2 : PS) fun S16 =>
  some (x13, S16)
set_option maxHeartbeats 4000000 in
set_option maxRecDepth 100000 in
theorem okX11_longestSilence (N : Nat) (p0 : Int32) (S : PS) (r : Int32) (T : PS) (h : fX11_longestSilence N p0 S = some (r, T)) : CT mX11_longestSilence 6 0 [.ref 0, .int p0] S (qI r T) := by
  refine ct_of [some (.ref 0), some (.int p0), none, none, none] rfl (fun _ => rfl) (fun _ => Nat.le_of_ble_eq_true rfl) ?_
  unfold fX11_longestSilence at h
  refine r_iconst (v := 0) dX11_longestSilence_0 rfl ?_
  refine r_istore_n (L' := [some (.ref 0), some (.int p0), some (.int 0), none, none]) dX11_longestSilence_1 (Nat.le_of_ble_eq_true rfl) rfl rfl ?_
  refine r_iconst (v := 0) dX11_longestSilence_2 rfl ?_
  refine r_istore_n (L' := [some (.ref 0), some (.int p0), some (.int 0), some (.int 0), none]) dX11_longestSilence_3 (Nat.le_of_ble_eq_true rfl) rfl rfl ?_
  refine r_aload_n (x := 0) dX11_longestSilence_4 rfl ?_
  refine r_iconst (v := 0) dX11_longestSilence_5 rfl ?_
  obtain ⟨S2, h3, h⟩ := bV_e h
  refine r_cVV (y := mX11_lookAhead) (As := [.int 0]) (rest := []) dX11_longestSilence_6 qX11_217 kX11_lookAhead rfl ob0 vc11 rfl (okX11_lookAhead N 0 S S2 h3) (by decide) (Nat.zero_le _) rfl (Nat.le_of_ble_eq_true rfl) ?_
  refine r_iconst (v := 0) dX11_longestSilence_9 rfl ?_
  refine r_istore (L' := [some (.ref 0), some (.int p0), some (.int 0), some (.int 0), some (.int 0)]) dX11_longestSilence_10 (Nat.le_of_ble_eq_true rfl) rfl rfl ?_
  obtain ⟨⟨x13, x14, x15, S16⟩, h18, h⟩ := bT_e h
  dsimp only at h
  replace h := pl_s (pl_s (pl_s (pl_s (h))))
  refine okX11_longestSilence_12 N p0 (qI r T) 0 (Nat.zero_le _) _ _ _ _ _ _ _ _ _ h18 ?_
  refine r_iload_n (x := x13) dX11_longestSilence_56 rfl ?_
  cases h
  exact r_ireturn dX11_longestSilence_57 rfl (Nat.zero_le _) ⟨rfl, rfl⟩
def fX11_loudestHour_12 (N : Nat) (v1 : Int32) : Nat → Int32 → Int32 → Int32 → PS → Option (Int32 × Int32 × Int32 × PS)
  | 0, _, _, _, _ => none
  | n + 1, v2, v3, v4, S =>
    (if v1 < v4 then
      some (v2, v3, v4, S)
    else
      bV (fX3_goOn N 1 S) fun S6 =>
      bI (fJ6_bitCount_0f7a4 N (S6.1 5 5) S6) fun x8 S9 =>
      (if x8 ≤ v3 then
        lt (v4 + 1 : Int32) fun x12 =>
        fX11_loudestHour_12 N v1 n v2 v3 x12 S9
      else
        lt (v4 + 1 : Int32) fun x13 =>
        fX11_loudestHour_12 N v1 n v4 x8 x13 S9))
set_option maxHeartbeats 4000000 in
set_option maxRecDepth 100000 in
theorem okX11_loudestHour_12 (N : Nat) (v1 : Int32) (Q : OQ) (u : Nat) (hu : u ≤ 0) : ∀ (n : Nat) (v2 : Int32) (v3 : Int32) (v4 : Int32) (S : PS) (y2 : Int32) (y3 : Int32) (y4 : Int32) (T : PS), fX11_loudestHour_12 N v1 n v2 v3 v4 S = some (y2, y3, y4, T) → WP [] mX11_loudestHour 6 0 Q 56 [some (.ref 0), some (.int v1), some (.int y2), some (.int y3), some (.int y4), none] [] T u → WP [] mX11_loudestHour 6 0 Q 12 [some (.ref 0), some (.int v1), some (.int v2), some (.int v3), some (.int v4), none] [] S u := by
  intro n
  induction n with
  | zero => intro v2 v3 v4 S y2 y3 y4 T h; rw [fX11_loudestHour_12] at h; cases h
  | succ n ih =>
    intro v2 v3 v4 S y2 y3 y4 T h k0
    rw [fX11_loudestHour_12] at h
    refine r_iload (x := v4) dX11_loudestHour_12 rfl ?_
    refine r_iload_n (x := v1) dX11_loudestHour_14 rfl ?_
    refine r_icmp_gt (tgt := 56) dX11_loudestHour_15 (by decide) (fun c4 => ?_) (fun c4 => ?_)
    · rw [if_pos c4] at h
      cases h
      exact k0
    · rw [if_neg c4] at h
      refine r_aload_n (x := 0) dX11_loudestHour_18 rfl ?_
      refine r_getfield (o := 0) (v := .ref 5) dX11_loudestHour_19 lX11_29 ck0 nC0 rfl ?_
      refine r_iconst (v := 1) dX11_loudestHour_22 rfl ?_
      obtain ⟨S6, h7, h⟩ := bV_e h
      refine r_cVV (y := mX3_goOn) (As := [.int 1]) (rest := []) dX11_loudestHour_23 qX11_191 kX3_goOn rfl ob5 vc3 rfl (okX3_goOn N 1 S S6 h7) (by decide) hu rfl (Nat.le_of_ble_eq_true rfl) ?_
      refine r_aload_n (x := 0) dX11_loudestHour_26 rfl ?_
      refine r_getfield (o := 0) (v := .ref 5) dX11_loudestHour_27 lX11_29 ck0 nC0 rfl ?_
      refine r_getfield (o := 5) (v := .int (S6.1 5 5)) dX11_loudestHour_30 lX11_221 ck5 nC5 rfl ?_
      obtain ⟨x8, S9, h10, h⟩ := bI_e h
      refine r_cSI (y := mJ6_bitCount_0f7a4) (As := [.int (S6.1 5 5)]) (rest := []) dX11_loudestHour_33 qX11_312 kJ6_bitCount_0f7a4 rfl (okJ6_bitCount_0f7a4 N (S6.1 5 5) S6 x8 S9 h10) (by decide) hu rfl (Nat.le_of_ble_eq_true rfl) ?_
      refine r_istore (L' := [some (.ref 0), some (.int v1), some (.int v2), some (.int v3), some (.int v4), some (.int x8)]) dX11_loudestHour_36 (Nat.le_of_ble_eq_true rfl) rfl rfl ?_
      refine r_iload (x := x8) dX11_loudestHour_38 rfl ?_
      refine r_iload_n (x := v3) dX11_loudestHour_40 rfl ?_
      refine r_icmp_le (tgt := 50) dX11_loudestHour_41 (by decide) (fun c11 => ?_) (fun c11 => ?_)
      · rw [if_pos c11] at h
        obtain ⟨x12, hx12⟩ : ∃ y : Int32, y = (v4 + 1 : Int32) := ⟨_, rfl⟩
        replace h := lt_e hx12 h
        refine r_iinc (x := v4) (v := x12) (L' := [some (.ref 0), some (.int v1), some (.int v2), some (.int v3), some (.int x12), some (.int x8)]) dX11_loudestHour_50 rfl (by rw [hx12]; rfl) (Nat.le_of_ble_eq_true rfl) rfl rfl ?_
        refine r_goto (tgt := 12) dX11_loudestHour_53 (by decide) ?_
        refine r_drop [true, true, true, true, true, false] rfl ?_
        exact ih _ _ _ _ _ _ _ _ h k0
      · rw [if_neg c11] at h
        refine r_iload (x := v4) dX11_loudestHour_44 rfl ?_
        refine r_istore_n (L' := [some (.ref 0), some (.int v1), some (.int v4), some (.int v3), some (.int v4), some (.int x8)]) dX11_loudestHour_46 (Nat.le_of_ble_eq_true rfl) rfl rfl ?_
        refine r_iload (x := x8) dX11_loudestHour_47 rfl ?_
        refine r_istore_n (L' := [some (.ref 0), some (.int v1), some (.int v4), some (.int x8), some (.int v4), some (.int x8)]) dX11_loudestHour_49 (Nat.le_of_ble_eq_true rfl) rfl rfl ?_
        obtain ⟨x13, hx13⟩ : ∃ y : Int32, y = (v4 + 1 : Int32) := ⟨_, rfl⟩
        replace h := lt_e hx13 h
        refine r_iinc (x := v4) (v := x13) (L' := [some (.ref 0), some (.int v1), some (.int v4), some (.int x8), some (.int x13), some (.int x8)]) dX11_loudestHour_50 rfl (by rw [hx13]; rfl) (Nat.le_of_ble_eq_true rfl) rfl rfl ?_
        refine r_goto (tgt := 12) dX11_loudestHour_53 (by decide) ?_
        refine r_drop [true, true, true, true, true, false] rfl ?_
        exact ih _ _ _ _ _ _ _ _ h k0
def fX11_loudestHour (N : Nat) (p0 : Int32) (S : PS) : Option (Int32 × PS) :=
  bV (fX11_lookAhead N 0 S) fun S2 =>
  bT (fX11_loudestHour_12 N p0 N (-1) (-1) 1 S2) fun q14 =>
  lt (q14.1 : Int32) fun x15 =>
  lt (q14.2.1 : Int32) fun x16 =>
  lt (q14.2.2.1 : Int32) fun x17 =>
  lt (q14.2.2.2 : PS) fun S18 =>
  some (x15, S18)
set_option maxHeartbeats 4000000 in
set_option maxRecDepth 100000 in
theorem okX11_loudestHour (N : Nat) (p0 : Int32) (S : PS) (r : Int32) (T : PS) (h : fX11_loudestHour N p0 S = some (r, T)) : CT mX11_loudestHour 6 0 [.ref 0, .int p0] S (qI r T) := by
  refine ct_of [some (.ref 0), some (.int p0), none, none, none, none] rfl (fun _ => rfl) (fun _ => Nat.le_of_ble_eq_true rfl) ?_
  unfold fX11_loudestHour at h
  refine r_iconst (v := (-1)) dX11_loudestHour_0 rfl ?_
  refine r_istore_n (L' := [some (.ref 0), some (.int p0), some (.int (-1)), none, none, none]) dX11_loudestHour_1 (Nat.le_of_ble_eq_true rfl) rfl rfl ?_
  refine r_iconst (v := (-1)) dX11_loudestHour_2 rfl ?_
  refine r_istore_n (L' := [some (.ref 0), some (.int p0), some (.int (-1)), some (.int (-1)), none, none]) dX11_loudestHour_3 (Nat.le_of_ble_eq_true rfl) rfl rfl ?_
  refine r_aload_n (x := 0) dX11_loudestHour_4 rfl ?_
  refine r_iconst (v := 0) dX11_loudestHour_5 rfl ?_
  obtain ⟨S2, h3, h⟩ := bV_e h
  refine r_cVV (y := mX11_lookAhead) (As := [.int 0]) (rest := []) dX11_loudestHour_6 qX11_217 kX11_lookAhead rfl ob0 vc11 rfl (okX11_lookAhead N 0 S S2 h3) (by decide) (Nat.zero_le _) rfl (Nat.le_of_ble_eq_true rfl) ?_
  refine r_iconst (v := 1) dX11_loudestHour_9 rfl ?_
  refine r_istore (L' := [some (.ref 0), some (.int p0), some (.int (-1)), some (.int (-1)), some (.int 1), none]) dX11_loudestHour_10 (Nat.le_of_ble_eq_true rfl) rfl rfl ?_
  obtain ⟨⟨x15, x16, x17, S18⟩, h20, h⟩ := bT_e h
  dsimp only at h
  replace h := pl_s (pl_s (pl_s (pl_s (h))))
  refine okX11_loudestHour_12 N p0 (qI r T) 0 (Nat.zero_le _) _ _ _ _ _ _ _ _ _ h20 ?_
  refine r_iload_n (x := x15) dX11_loudestHour_56 rfl ?_
  cases h
  exact r_ireturn dX11_loudestHour_57 rfl (Nat.zero_le _) ⟨rfl, rfl⟩
def fX11_playAll_2 (N : Nat) (v1 : Int32) (v2 : Int32) : Nat → Int32 → PS → Option (Int32 × PS)
  | 0, _, _ => none
  | n + 1, v3, S =>
    (if 4 ≤ v3 then
      some (v3, S)
    else
      lt ((v3 >>> ((1 : Int32) &&& 31)) : Int32) fun x2 =>
      lt ((v3 &&& 1) : Int32) fun x3 =>
      bV (fX11_lookAhead N 0 S) fun S5 =>
      (if x2 = 1 then
        lt ((S5.2.2 5 4) : Nat) fun o36 =>
        gd (obj o36 2) <|
        bV (fX2_setPlugged N o36 v1 1 S5) fun S38 =>
        (if x3 = 1 then
          lt ((S38.2.2 5 4) : Nat) fun o53 =>
          gd (obj o53 2) <|
          bV (fX2_setPlugged N o53 v2 1 S38) fun S55 =>
          bV (fX3_goOn N 12 S55) fun S59 =>
          gd (inr v1 9) <|
          gd (inr v2 9) <|
          lt (((S59.1 28 (ix v1)) - (S59.1 28 (ix v2))) : Int32) fun x63 =>
          gd (inr v3 4) <|
          lt ((u2 S59.1 24 (ix v3) ((x63 / 2) - x2), S59.2) : PS) fun S65 =>
          gd (inr v3 4) <|
          lt ((u2 S65.1 25 (ix v3) (((-x63) / 2) - x3), S65.2) : PS) fun S67 =>
          lt (v3 + 1 : Int32) fun x68 =>
          fX11_playAll_2 N v1 v2 n x68 S67
        else
          bV (fX3_goOn N 12 S38) fun S43 =>
          gd (inr v1 9) <|
          gd (inr v2 9) <|
          lt (((S43.1 28 (ix v1)) - (S43.1 28 (ix v2))) : Int32) fun x47 =>
          gd (inr v3 4) <|
          lt ((u2 S43.1 24 (ix v3) ((x47 / 2) - x2), S43.2) : PS) fun S49 =>
          gd (inr v3 4) <|
          lt ((u2 S49.1 25 (ix v3) (((-x47) / 2) - x3), S49.2) : PS) fun S51 =>
          lt (v3 + 1 : Int32) fun x52 =>
          fX11_playAll_2 N v1 v2 n x52 S51)
      else
        (if x3 = 1 then
          lt ((S5.2.2 5 4) : Nat) fun o20 =>
          gd (obj o20 2) <|
          bV (fX2_setPlugged N o20 v2 1 S5) fun S22 =>
          bV (fX3_goOn N 12 S22) fun S26 =>
          gd (inr v1 9) <|
          gd (inr v2 9) <|
          lt (((S26.1 28 (ix v1)) - (S26.1 28 (ix v2))) : Int32) fun x30 =>
          gd (inr v3 4) <|
          lt ((u2 S26.1 24 (ix v3) ((x30 / 2) - x2), S26.2) : PS) fun S32 =>
          gd (inr v3 4) <|
          lt ((u2 S32.1 25 (ix v3) (((-x30) / 2) - x3), S32.2) : PS) fun S34 =>
          lt (v3 + 1 : Int32) fun x35 =>
          fX11_playAll_2 N v1 v2 n x35 S34
        else
          bV (fX3_goOn N 12 S5) fun S10 =>
          gd (inr v1 9) <|
          gd (inr v2 9) <|
          lt (((S10.1 28 (ix v1)) - (S10.1 28 (ix v2))) : Int32) fun x14 =>
          gd (inr v3 4) <|
          lt ((u2 S10.1 24 (ix v3) ((x14 / 2) - x2), S10.2) : PS) fun S16 =>
          gd (inr v3 4) <|
          lt ((u2 S16.1 25 (ix v3) (((-x14) / 2) - x3), S16.2) : PS) fun S18 =>
          lt (v3 + 1 : Int32) fun x19 =>
          fX11_playAll_2 N v1 v2 n x19 S18)))
set_option maxHeartbeats 4000000 in
set_option maxRecDepth 100000 in
theorem okX11_playAll_2 (N : Nat) (v1 : Int32) (v2 : Int32) (Q : OQ) (u : Nat) (hu : u ≤ 0) : ∀ (n : Nat) (v3 : Int32) (S : PS) (y3 : Int32) (T : PS), fX11_playAll_2 N v1 v2 n v3 S = some (y3, T) → WP [] mX11_playAll 6 0 Q 121 [some (.ref 0), some (.int v1), some (.int v2), some (.int y3), none, none, none] [] T u → WP [] mX11_playAll 6 0 Q 2 [some (.ref 0), some (.int v1), some (.int v2), some (.int v3), none, none, none] [] S u := by
  intro n
  induction n with
  | zero => intro v3 S y3 T h; rw [fX11_playAll_2] at h; cases h
  | succ n ih =>
    intro v3 S y3 T h k0
    rw [fX11_playAll_2] at h
    refine r_iload_n (x := v3) dX11_playAll_2 rfl ?_
    refine r_iconst (v := 4) dX11_playAll_3 rfl ?_
    refine r_icmp_ge (tgt := 121) dX11_playAll_4 (by decide) (fun c1 => ?_) (fun c1 => ?_)
    · rw [if_pos c1] at h
      cases h
      exact k0
    · rw [if_neg c1] at h
      refine r_iload_n (x := v3) dX11_playAll_7 rfl ?_
      refine r_iconst (v := 1) dX11_playAll_8 rfl ?_
      refine r_ishr dX11_playAll_9 ?_
      refine r_topi (fun x2 hx2 => ?_)
      replace h := lt_e hx2 h
      refine r_istore (L' := [some (.ref 0), some (.int v1), some (.int v2), some (.int v3), some (.int x2), none, none]) dX11_playAll_10 (Nat.le_of_ble_eq_true rfl) rfl rfl ?_
      refine r_iload_n (x := v3) dX11_playAll_12 rfl ?_
      refine r_iconst (v := 1) dX11_playAll_13 rfl ?_
      refine r_iand dX11_playAll_14 ?_
      refine r_topi (fun x3 hx3 => ?_)
      replace h := lt_e hx3 h
      refine r_istore (L' := [some (.ref 0), some (.int v1), some (.int v2), some (.int v3), some (.int x2), some (.int x3), none]) dX11_playAll_15 (Nat.le_of_ble_eq_true rfl) rfl rfl ?_
      refine r_aload_n (x := 0) dX11_playAll_17 rfl ?_
      refine r_iconst (v := 0) dX11_playAll_18 rfl ?_
      obtain ⟨S5, h6, h⟩ := bV_e h
      refine r_cVV (y := mX11_lookAhead) (As := [.int 0]) (rest := []) dX11_playAll_19 qX11_217 kX11_lookAhead rfl ob0 vc11 rfl (okX11_lookAhead N 0 S S5 h6) (by decide) hu rfl (Nat.le_of_ble_eq_true rfl) ?_
      refine r_iload (x := x2) dX11_playAll_22 rfl ?_
      refine r_iconst (v := 1) dX11_playAll_24 rfl ?_
      refine r_icmp_ne (tgt := 40) dX11_playAll_25 (by decide) (fun c7 => ?_) (fun c7 => ?_)
      · rw [if_neg c7] at h
        refine r_iload (x := x3) dX11_playAll_40 rfl ?_
        refine r_iconst (v := 1) dX11_playAll_42 rfl ?_
        refine r_icmp_ne (tgt := 58) dX11_playAll_43 (by decide) (fun c8 => ?_) (fun c8 => ?_)
        · rw [if_neg c8] at h
          refine r_aload_n (x := 0) dX11_playAll_58 rfl ?_
          refine r_getfield (o := 0) (v := .ref 5) dX11_playAll_59 lX11_29 ck0 nC0 rfl ?_
          refine r_bipush (v := 12) dX11_playAll_62 rfl ?_
          obtain ⟨S10, h11, h⟩ := bV_e h
          refine r_cVV (y := mX3_goOn) (As := [.int 12]) (rest := []) dX11_playAll_64 qX11_191 kX3_goOn rfl ob5 vc3 rfl (okX3_goOn N 12 S5 S10 h11) (by decide) hu rfl (Nat.le_of_ble_eq_true rfl) ?_
          refine r_aload_n (x := 0) dX11_playAll_67 rfl ?_
          refine r_getfield (o := 0) (v := .ref 5) dX11_playAll_68 lX11_29 ck0 nC0 rfl ?_
          refine r_getfield (o := 5) (v := .ref 28) dX11_playAll_71 lX11_208 ck5 nC5 rfl ?_
          refine r_iload_n (x := v1) dX11_playAll_74 rfl ?_
          obtain ⟨g12, h⟩ := gd_e h
          refine r_iaload (a := 28) dX11_playAll_75 ck28 nC28 (inr_IX g12) ?_
          refine r_aload_n (x := 0) dX11_playAll_76 rfl ?_
          refine r_getfield (o := 0) (v := .ref 5) dX11_playAll_77 lX11_29 ck0 nC0 rfl ?_
          refine r_getfield (o := 5) (v := .ref 28) dX11_playAll_80 lX11_208 ck5 nC5 rfl ?_
          refine r_iload_n (x := v2) dX11_playAll_83 rfl ?_
          obtain ⟨g13, h⟩ := gd_e h
          refine r_iaload (a := 28) dX11_playAll_84 ck28 nC28 (inr_IX g13) ?_
          refine r_isub dX11_playAll_85 ?_
          refine r_topi (fun x14 hx14 => ?_)
          replace h := lt_e hx14 h
          refine r_istore (L' := [some (.ref 0), some (.int v1), some (.int v2), some (.int v3), some (.int x2), some (.int x3), some (.int x14)]) dX11_playAll_86 (Nat.le_of_ble_eq_true rfl) rfl rfl ?_
          refine r_aload_n (x := 0) dX11_playAll_88 rfl ?_
          refine r_getfield (o := 0) (v := .ref 24) dX11_playAll_89 lX11_51 ck0 nC0 rfl ?_
          refine r_iload_n (x := v3) dX11_playAll_92 rfl ?_
          refine r_iload (x := x14) dX11_playAll_93 rfl ?_
          refine r_iconst (v := 2) dX11_playAll_95 rfl ?_
          refine r_idiv dX11_playAll_96 (by decide) ?_
          refine r_iload (x := x2) dX11_playAll_97 rfl ?_
          refine r_isub dX11_playAll_99 ?_
          obtain ⟨g15, h⟩ := gd_e h
          refine r_iastore (a := 24) dX11_playAll_100 ck24 nC24 (inr_IX g15) ?_
          refine r_topS (fun S16 hS16 => ?_)
          replace h := lt_e hS16 h
          refine r_aload_n (x := 0) dX11_playAll_101 rfl ?_
          refine r_getfield (o := 0) (v := .ref 25) dX11_playAll_102 lX11_54 ck0 nC0 rfl ?_
          refine r_iload_n (x := v3) dX11_playAll_105 rfl ?_
          refine r_iload (x := x14) dX11_playAll_106 rfl ?_
          refine r_ineg dX11_playAll_108 ?_
          refine r_iconst (v := 2) dX11_playAll_109 rfl ?_
          refine r_idiv dX11_playAll_110 (by decide) ?_
          refine r_iload (x := x3) dX11_playAll_111 rfl ?_
          refine r_isub dX11_playAll_113 ?_
          obtain ⟨g17, h⟩ := gd_e h
          refine r_iastore (a := 25) dX11_playAll_114 ck25 nC25 (inr_IX g17) ?_
          refine r_topS (fun S18 hS18 => ?_)
          replace h := lt_e hS18 h
          obtain ⟨x19, hx19⟩ : ∃ y : Int32, y = (v3 + 1 : Int32) := ⟨_, rfl⟩
          replace h := lt_e hx19 h
          refine r_iinc (x := v3) (v := x19) (L' := [some (.ref 0), some (.int v1), some (.int v2), some (.int x19), some (.int x2), some (.int x3), some (.int x14)]) dX11_playAll_115 rfl (by rw [hx19]; rfl) (Nat.le_of_ble_eq_true rfl) rfl rfl ?_
          refine r_goto (tgt := 2) dX11_playAll_118 (by decide) ?_
          refine r_drop [true, true, true, true, false, false, false] rfl ?_
          exact ih _ _ _ _ h k0
        · rw [if_pos c8] at h
          refine r_aload_n (x := 0) dX11_playAll_46 rfl ?_
          refine r_getfield (o := 0) (v := .ref 5) dX11_playAll_47 lX11_29 ck0 nC0 rfl ?_
          refine r_getfield (o := 5) (v := .ref (S5.2.2 5 4)) dX11_playAll_50 lX11_220 ck5 nC5 rfl ?_
          refine r_topr (fun o20 ho20 => ?_)
          replace h := lt_e ho20 h
          refine r_iload_n (x := v2) dX11_playAll_53 rfl ?_
          refine r_iconst (v := 1) dX11_playAll_54 rfl ?_
          obtain ⟨g24, h⟩ := gd_e h
          obtain ⟨S22, h23, h⟩ := bV_e h
          refine r_cVV (y := mX2_setPlugged) (As := [.int v2, .int 1]) (rest := []) dX11_playAll_55 qX11_201 kX2_setPlugged rfl g24 vc2 rfl (okX2_setPlugged N o20 v2 1 S5 S22 h23) (by decide) hu rfl (Nat.le_of_ble_eq_true rfl) ?_
          refine r_aload_n (x := 0) dX11_playAll_58 rfl ?_
          refine r_getfield (o := 0) (v := .ref 5) dX11_playAll_59 lX11_29 ck0 nC0 rfl ?_
          refine r_bipush (v := 12) dX11_playAll_62 rfl ?_
          obtain ⟨S26, h27, h⟩ := bV_e h
          refine r_cVV (y := mX3_goOn) (As := [.int 12]) (rest := []) dX11_playAll_64 qX11_191 kX3_goOn rfl ob5 vc3 rfl (okX3_goOn N 12 S22 S26 h27) (by decide) hu rfl (Nat.le_of_ble_eq_true rfl) ?_
          refine r_aload_n (x := 0) dX11_playAll_67 rfl ?_
          refine r_getfield (o := 0) (v := .ref 5) dX11_playAll_68 lX11_29 ck0 nC0 rfl ?_
          refine r_getfield (o := 5) (v := .ref 28) dX11_playAll_71 lX11_208 ck5 nC5 rfl ?_
          refine r_iload_n (x := v1) dX11_playAll_74 rfl ?_
          obtain ⟨g28, h⟩ := gd_e h
          refine r_iaload (a := 28) dX11_playAll_75 ck28 nC28 (inr_IX g28) ?_
          refine r_aload_n (x := 0) dX11_playAll_76 rfl ?_
          refine r_getfield (o := 0) (v := .ref 5) dX11_playAll_77 lX11_29 ck0 nC0 rfl ?_
          refine r_getfield (o := 5) (v := .ref 28) dX11_playAll_80 lX11_208 ck5 nC5 rfl ?_
          refine r_iload_n (x := v2) dX11_playAll_83 rfl ?_
          obtain ⟨g29, h⟩ := gd_e h
          refine r_iaload (a := 28) dX11_playAll_84 ck28 nC28 (inr_IX g29) ?_
          refine r_isub dX11_playAll_85 ?_
          refine r_topi (fun x30 hx30 => ?_)
          replace h := lt_e hx30 h
          refine r_istore (L' := [some (.ref 0), some (.int v1), some (.int v2), some (.int v3), some (.int x2), some (.int x3), some (.int x30)]) dX11_playAll_86 (Nat.le_of_ble_eq_true rfl) rfl rfl ?_
          refine r_aload_n (x := 0) dX11_playAll_88 rfl ?_
          refine r_getfield (o := 0) (v := .ref 24) dX11_playAll_89 lX11_51 ck0 nC0 rfl ?_
          refine r_iload_n (x := v3) dX11_playAll_92 rfl ?_
          refine r_iload (x := x30) dX11_playAll_93 rfl ?_
          refine r_iconst (v := 2) dX11_playAll_95 rfl ?_
          refine r_idiv dX11_playAll_96 (by decide) ?_
          refine r_iload (x := x2) dX11_playAll_97 rfl ?_
          refine r_isub dX11_playAll_99 ?_
          obtain ⟨g31, h⟩ := gd_e h
          refine r_iastore (a := 24) dX11_playAll_100 ck24 nC24 (inr_IX g31) ?_
          refine r_topS (fun S32 hS32 => ?_)
          replace h := lt_e hS32 h
          refine r_aload_n (x := 0) dX11_playAll_101 rfl ?_
          refine r_getfield (o := 0) (v := .ref 25) dX11_playAll_102 lX11_54 ck0 nC0 rfl ?_
          refine r_iload_n (x := v3) dX11_playAll_105 rfl ?_
          refine r_iload (x := x30) dX11_playAll_106 rfl ?_
          refine r_ineg dX11_playAll_108 ?_
          refine r_iconst (v := 2) dX11_playAll_109 rfl ?_
          refine r_idiv dX11_playAll_110 (by decide) ?_
          refine r_iload (x := x3) dX11_playAll_111 rfl ?_
          refine r_isub dX11_playAll_113 ?_
          obtain ⟨g33, h⟩ := gd_e h
          refine r_iastore (a := 25) dX11_playAll_114 ck25 nC25 (inr_IX g33) ?_
          refine r_topS (fun S34 hS34 => ?_)
          replace h := lt_e hS34 h
          obtain ⟨x35, hx35⟩ : ∃ y : Int32, y = (v3 + 1 : Int32) := ⟨_, rfl⟩
          replace h := lt_e hx35 h
          refine r_iinc (x := v3) (v := x35) (L' := [some (.ref 0), some (.int v1), some (.int v2), some (.int x35), some (.int x2), some (.int x3), some (.int x30)]) dX11_playAll_115 rfl (by rw [hx35]; rfl) (Nat.le_of_ble_eq_true rfl) rfl rfl ?_
          refine r_goto (tgt := 2) dX11_playAll_118 (by decide) ?_
          refine r_drop [true, true, true, true, false, false, false] rfl ?_
          exact ih _ _ _ _ h k0
      · rw [if_pos c7] at h
        refine r_aload_n (x := 0) dX11_playAll_28 rfl ?_
        refine r_getfield (o := 0) (v := .ref 5) dX11_playAll_29 lX11_29 ck0 nC0 rfl ?_
        refine r_getfield (o := 5) (v := .ref (S5.2.2 5 4)) dX11_playAll_32 lX11_220 ck5 nC5 rfl ?_
        refine r_topr (fun o36 ho36 => ?_)
        replace h := lt_e ho36 h
        refine r_iload_n (x := v1) dX11_playAll_35 rfl ?_
        refine r_iconst (v := 1) dX11_playAll_36 rfl ?_
        obtain ⟨g40, h⟩ := gd_e h
        obtain ⟨S38, h39, h⟩ := bV_e h
        refine r_cVV (y := mX2_setPlugged) (As := [.int v1, .int 1]) (rest := []) dX11_playAll_37 qX11_201 kX2_setPlugged rfl g40 vc2 rfl (okX2_setPlugged N o36 v1 1 S5 S38 h39) (by decide) hu rfl (Nat.le_of_ble_eq_true rfl) ?_
        refine r_iload (x := x3) dX11_playAll_40 rfl ?_
        refine r_iconst (v := 1) dX11_playAll_42 rfl ?_
        refine r_icmp_ne (tgt := 58) dX11_playAll_43 (by decide) (fun c41 => ?_) (fun c41 => ?_)
        · rw [if_neg c41] at h
          refine r_aload_n (x := 0) dX11_playAll_58 rfl ?_
          refine r_getfield (o := 0) (v := .ref 5) dX11_playAll_59 lX11_29 ck0 nC0 rfl ?_
          refine r_bipush (v := 12) dX11_playAll_62 rfl ?_
          obtain ⟨S43, h44, h⟩ := bV_e h
          refine r_cVV (y := mX3_goOn) (As := [.int 12]) (rest := []) dX11_playAll_64 qX11_191 kX3_goOn rfl ob5 vc3 rfl (okX3_goOn N 12 S38 S43 h44) (by decide) hu rfl (Nat.le_of_ble_eq_true rfl) ?_
          refine r_aload_n (x := 0) dX11_playAll_67 rfl ?_
          refine r_getfield (o := 0) (v := .ref 5) dX11_playAll_68 lX11_29 ck0 nC0 rfl ?_
          refine r_getfield (o := 5) (v := .ref 28) dX11_playAll_71 lX11_208 ck5 nC5 rfl ?_
          refine r_iload_n (x := v1) dX11_playAll_74 rfl ?_
          obtain ⟨g45, h⟩ := gd_e h
          refine r_iaload (a := 28) dX11_playAll_75 ck28 nC28 (inr_IX g45) ?_
          refine r_aload_n (x := 0) dX11_playAll_76 rfl ?_
          refine r_getfield (o := 0) (v := .ref 5) dX11_playAll_77 lX11_29 ck0 nC0 rfl ?_
          refine r_getfield (o := 5) (v := .ref 28) dX11_playAll_80 lX11_208 ck5 nC5 rfl ?_
          refine r_iload_n (x := v2) dX11_playAll_83 rfl ?_
          obtain ⟨g46, h⟩ := gd_e h
          refine r_iaload (a := 28) dX11_playAll_84 ck28 nC28 (inr_IX g46) ?_
          refine r_isub dX11_playAll_85 ?_
          refine r_topi (fun x47 hx47 => ?_)
          replace h := lt_e hx47 h
          refine r_istore (L' := [some (.ref 0), some (.int v1), some (.int v2), some (.int v3), some (.int x2), some (.int x3), some (.int x47)]) dX11_playAll_86 (Nat.le_of_ble_eq_true rfl) rfl rfl ?_
          refine r_aload_n (x := 0) dX11_playAll_88 rfl ?_
          refine r_getfield (o := 0) (v := .ref 24) dX11_playAll_89 lX11_51 ck0 nC0 rfl ?_
          refine r_iload_n (x := v3) dX11_playAll_92 rfl ?_
          refine r_iload (x := x47) dX11_playAll_93 rfl ?_
          refine r_iconst (v := 2) dX11_playAll_95 rfl ?_
          refine r_idiv dX11_playAll_96 (by decide) ?_
          refine r_iload (x := x2) dX11_playAll_97 rfl ?_
          refine r_isub dX11_playAll_99 ?_
          obtain ⟨g48, h⟩ := gd_e h
          refine r_iastore (a := 24) dX11_playAll_100 ck24 nC24 (inr_IX g48) ?_
          refine r_topS (fun S49 hS49 => ?_)
          replace h := lt_e hS49 h
          refine r_aload_n (x := 0) dX11_playAll_101 rfl ?_
          refine r_getfield (o := 0) (v := .ref 25) dX11_playAll_102 lX11_54 ck0 nC0 rfl ?_
          refine r_iload_n (x := v3) dX11_playAll_105 rfl ?_
          refine r_iload (x := x47) dX11_playAll_106 rfl ?_
          refine r_ineg dX11_playAll_108 ?_
          refine r_iconst (v := 2) dX11_playAll_109 rfl ?_
          refine r_idiv dX11_playAll_110 (by decide) ?_
          refine r_iload (x := x3) dX11_playAll_111 rfl ?_
          refine r_isub dX11_playAll_113 ?_
          obtain ⟨g50, h⟩ := gd_e h
          refine r_iastore (a := 25) dX11_playAll_114 ck25 nC25 (inr_IX g50) ?_
          refine r_topS (fun S51 hS51 => ?_)
          replace h := lt_e hS51 h
          obtain ⟨x52, hx52⟩ : ∃ y : Int32, y = (v3 + 1 : Int32) := ⟨_, rfl⟩
          replace h := lt_e hx52 h
          refine r_iinc (x := v3) (v := x52) (L' := [some (.ref 0), some (.int v1), some (.int v2), some (.int x52), some (.int x2), some (.int x3), some (.int x47)]) dX11_playAll_115 rfl (by rw [hx52]; rfl) (Nat.le_of_ble_eq_true rfl) rfl rfl ?_
          refine r_goto (tgt := 2) dX11_playAll_118 (by decide) ?_
          refine r_drop [true, true, true, true, false, false, false] rfl ?_
          exact ih _ _ _ _ h k0
        · rw [if_pos c41] at h
          refine r_aload_n (x := 0) dX11_playAll_46 rfl ?_
          refine r_getfield (o := 0) (v := .ref 5) dX11_playAll_47 lX11_29 ck0 nC0 rfl ?_
          refine r_getfield (o := 5) (v := .ref (S38.2.2 5 4)) dX11_playAll_50 lX11_220 ck5 nC5 rfl ?_
          refine r_topr (fun o53 ho53 => ?_)
          replace h := lt_e ho53 h
          refine r_iload_n (x := v2) dX11_playAll_53 rfl ?_
          refine r_iconst (v := 1) dX11_playAll_54 rfl ?_
          obtain ⟨g57, h⟩ := gd_e h
          obtain ⟨S55, h56, h⟩ := bV_e h
          refine r_cVV (y := mX2_setPlugged) (As := [.int v2, .int 1]) (rest := []) dX11_playAll_55 qX11_201 kX2_setPlugged rfl g57 vc2 rfl (okX2_setPlugged N o53 v2 1 S38 S55 h56) (by decide) hu rfl (Nat.le_of_ble_eq_true rfl) ?_
          refine r_aload_n (x := 0) dX11_playAll_58 rfl ?_
          refine r_getfield (o := 0) (v := .ref 5) dX11_playAll_59 lX11_29 ck0 nC0 rfl ?_
          refine r_bipush (v := 12) dX11_playAll_62 rfl ?_
          obtain ⟨S59, h60, h⟩ := bV_e h
          refine r_cVV (y := mX3_goOn) (As := [.int 12]) (rest := []) dX11_playAll_64 qX11_191 kX3_goOn rfl ob5 vc3 rfl (okX3_goOn N 12 S55 S59 h60) (by decide) hu rfl (Nat.le_of_ble_eq_true rfl) ?_
          refine r_aload_n (x := 0) dX11_playAll_67 rfl ?_
          refine r_getfield (o := 0) (v := .ref 5) dX11_playAll_68 lX11_29 ck0 nC0 rfl ?_
          refine r_getfield (o := 5) (v := .ref 28) dX11_playAll_71 lX11_208 ck5 nC5 rfl ?_
          refine r_iload_n (x := v1) dX11_playAll_74 rfl ?_
          obtain ⟨g61, h⟩ := gd_e h
          refine r_iaload (a := 28) dX11_playAll_75 ck28 nC28 (inr_IX g61) ?_
          refine r_aload_n (x := 0) dX11_playAll_76 rfl ?_
          refine r_getfield (o := 0) (v := .ref 5) dX11_playAll_77 lX11_29 ck0 nC0 rfl ?_
          refine r_getfield (o := 5) (v := .ref 28) dX11_playAll_80 lX11_208 ck5 nC5 rfl ?_
          refine r_iload_n (x := v2) dX11_playAll_83 rfl ?_
          obtain ⟨g62, h⟩ := gd_e h
          refine r_iaload (a := 28) dX11_playAll_84 ck28 nC28 (inr_IX g62) ?_
          refine r_isub dX11_playAll_85 ?_
          refine r_topi (fun x63 hx63 => ?_)
          replace h := lt_e hx63 h
          refine r_istore (L' := [some (.ref 0), some (.int v1), some (.int v2), some (.int v3), some (.int x2), some (.int x3), some (.int x63)]) dX11_playAll_86 (Nat.le_of_ble_eq_true rfl) rfl rfl ?_
          refine r_aload_n (x := 0) dX11_playAll_88 rfl ?_
          refine r_getfield (o := 0) (v := .ref 24) dX11_playAll_89 lX11_51 ck0 nC0 rfl ?_
          refine r_iload_n (x := v3) dX11_playAll_92 rfl ?_
          refine r_iload (x := x63) dX11_playAll_93 rfl ?_
          refine r_iconst (v := 2) dX11_playAll_95 rfl ?_
          refine r_idiv dX11_playAll_96 (by decide) ?_
          refine r_iload (x := x2) dX11_playAll_97 rfl ?_
          refine r_isub dX11_playAll_99 ?_
          obtain ⟨g64, h⟩ := gd_e h
          refine r_iastore (a := 24) dX11_playAll_100 ck24 nC24 (inr_IX g64) ?_
          refine r_topS (fun S65 hS65 => ?_)
          replace h := lt_e hS65 h
          refine r_aload_n (x := 0) dX11_playAll_101 rfl ?_
          refine r_getfield (o := 0) (v := .ref 25) dX11_playAll_102 lX11_54 ck0 nC0 rfl ?_
          refine r_iload_n (x := v3) dX11_playAll_105 rfl ?_
          refine r_iload (x := x63) dX11_playAll_106 rfl ?_
          refine r_ineg dX11_playAll_108 ?_
          refine r_iconst (v := 2) dX11_playAll_109 rfl ?_
          refine r_idiv dX11_playAll_110 (by decide) ?_
          refine r_iload (x := x3) dX11_playAll_111 rfl ?_
          refine r_isub dX11_playAll_113 ?_
          obtain ⟨g66, h⟩ := gd_e h
          refine r_iastore (a := 25) dX11_playAll_114 ck25 nC25 (inr_IX g66) ?_
          refine r_topS (fun S67 hS67 => ?_)
          replace h := lt_e hS67 h
          obtain ⟨x68, hx68⟩ : ∃ y : Int32, y = (v3 + 1 : Int32) := ⟨_, rfl⟩
          replace h := lt_e hx68 h
          refine r_iinc (x := v3) (v := x68) (L' := [some (.ref 0), some (.int v1), some (.int v2), some (.int x68), some (.int x2), some (.int x3), some (.int x63)]) dX11_playAll_115 rfl (by rw [hx68]; rfl) (Nat.le_of_ble_eq_true rfl) rfl rfl ?_
          refine r_goto (tgt := 2) dX11_playAll_118 (by decide) ?_
          refine r_drop [true, true, true, true, false, false, false] rfl ?_
          exact ih _ _ _ _ h k0
def fX11_playAll (N : Nat) (p0 : Int32) (p1 : Int32) (S : PS) : Option PS :=
  bT (fX11_playAll_2 N p0 p1 N 0 S) fun q69 =>
  lt (q69.1 : Int32) fun x70 =>
  lt (q69.2 : PS) fun S71 =>
  some S71
set_option maxHeartbeats 4000000 in
set_option maxRecDepth 100000 in
theorem okX11_playAll (N : Nat) (p0 : Int32) (p1 : Int32) (S : PS) (T : PS) (h : fX11_playAll N p0 p1 S = some T) : CT mX11_playAll 6 0 [.ref 0, .int p0, .int p1] S (qV T) := by
  refine ct_of [some (.ref 0), some (.int p0), some (.int p1), none, none, none, none] rfl (fun _ => rfl) (fun _ => Nat.le_of_ble_eq_true rfl) ?_
  unfold fX11_playAll at h
  refine r_iconst (v := 0) dX11_playAll_0 rfl ?_
  refine r_istore_n (L' := [some (.ref 0), some (.int p0), some (.int p1), some (.int 0), none, none, none]) dX11_playAll_1 (Nat.le_of_ble_eq_true rfl) rfl rfl ?_
  obtain ⟨⟨x70, S71⟩, h73, h⟩ := bT_e h
  dsimp only at h
  replace h := pl_s (pl_s (h))
  refine okX11_playAll_2 N p0 p1 (qV T) 0 (Nat.zero_le _) _ _ _ _ _ h73 ?_
  cases h
  exact r_return dX11_playAll_121 rfl (Nat.zero_le _) ⟨rfl, rfl⟩
def fX11_then (N : Nat) (p0 : Int32) (p1 : Int32) (p2 : Int32) (S : PS) : Option ((Int32 ⊕ String) × PS) :=
  bU (fX11_needCup N p0 S) fun S2 =>
  bU (fX11_needWhat N p2 1 S2) fun S5 =>
  bU (fX11_needRange N p1 0 200 S5) fun S8 =>
  bV (fX11_lookAhead N p1 S8) fun S11 =>
  (if p2 = 0 then
    lt ((S11.2.2 5 4) : Nat) fun o15 =>
    gd (obj o15 2) <|
    gd (arr (sr o15 1) 1 9) <|
    gd (inr p0 9) <|
    some (.inl (S11.1 (sr o15 1) (ix p0)), S11)
  else
    gd (inr p0 9) <|
    some (.inl (S11.1 28 (ix p0)), S11))
set_option maxHeartbeats 4000000 in
set_option maxRecDepth 100000 in
theorem okX11_then (N : Nat) (p0 : Int32) (p1 : Int32) (p2 : Int32) (S : PS) (r : Int32 ⊕ String) (T : PS) (h : fX11_then N p0 p1 p2 S = some (r, T)) : CT mX11_then 7 8 [.ref 0, .int p0, .int p1, .int p2] S (qE r T) := by
  refine ct_of [some (.ref 0), some (.int p0), some (.int p1), some (.int p2)] rfl (fun _ => rfl) (fun _ => Nat.le_of_ble_eq_true rfl) ?_
  unfold fX11_then at h
  refine r_aload_n (x := 0) dX11_then_0 rfl ?_
  refine r_iload_n (x := p0) dX11_then_1 rfl ?_
  obtain ⟨x1, S2, h3, hx1, kx1⟩ := bU_e h
  refine r_cVU (y := mX11_needCup) (As := [.int p0]) (rest := []) dX11_then_2 qX11_156 kX11_needCup rfl ob0 vc11 rfl (okX11_needCup N p0 S x1 S2 h3) (by decide) (by decide) rfl (Nat.le_of_ble_eq_true rfl) (fun ex1 => ?_) (fun Ex1 ex1 => ?_)
  · replace h := hx1 ex1
    refine r_iload_n (x := p2) dX11_then_5 rfl ?_
    refine r_iconst (v := 1) dX11_then_6 rfl ?_
    obtain ⟨x4, S5, h6, hx4, kx4⟩ := bU_e h
    refine r_cSU (y := mX11_needWhat) (As := [.int p2, .int 1]) (rest := []) dX11_then_7 qX11_109 kX11_needWhat rfl (okX11_needWhat N p2 1 S2 x4 S5 h6) (by decide) (by decide) rfl (Nat.le_of_ble_eq_true rfl) (fun ex4 => ?_) (fun Ex4 ex4 => ?_)
    · replace h := hx4 ex4
      refine r_iload_n (x := p1) dX11_then_10 rfl ?_
      refine r_iconst (v := 0) dX11_then_11 rfl ?_
      refine r_sipush (v := 200) dX11_then_12 rfl ?_
      obtain ⟨x7, S8, h9, hx7, kx7⟩ := bU_e h
      refine r_cSU (y := mX11_needRange) (As := [.int p1, .int 0, .int 200]) (rest := []) dX11_then_15 qX11_81 kX11_needRange rfl (okX11_needRange N p1 0 200 S5 x7 S8 h9) (by decide) (by decide) rfl (Nat.le_of_ble_eq_true rfl) (fun ex7 => ?_) (fun Ex7 ex7 => ?_)
      · replace h := hx7 ex7
        refine r_aload_n (x := 0) dX11_then_18 rfl ?_
        refine r_iload_n (x := p1) dX11_then_19 rfl ?_
        obtain ⟨S11, h12, h⟩ := bV_e h
        refine r_cVV (y := mX11_lookAhead) (As := [.int p1]) (rest := []) dX11_then_20 qX11_217 kX11_lookAhead rfl ob0 vc11 rfl (okX11_lookAhead N p1 S8 S11 h12) (by decide) (by decide) rfl (Nat.le_of_ble_eq_true rfl) ?_
        refine r_iload_n (x := p2) dX11_then_23 rfl ?_
        refine r_if_ne (tgt := 42) dX11_then_24 (by decide) (fun c13 => ?_) (fun c13 => ?_)
        · rw [if_neg c13] at h
          refine r_aload_n (x := 0) dX11_then_42 rfl ?_
          refine r_getfield (o := 0) (v := .ref 5) dX11_then_43 lX11_29 ck0 nC0 rfl ?_
          refine r_getfield (o := 5) (v := .ref 28) dX11_then_46 lX11_208 ck5 nC5 rfl ?_
          refine r_iload_n (x := p0) dX11_then_49 rfl ?_
          obtain ⟨g14, h⟩ := gd_e h
          refine r_iaload (a := 28) dX11_then_50 ck28 nC28 (inr_IX g14) ?_
          cases h
          exact r_ireturn dX11_then_51 rfl (by decide) ⟨rfl, rfl⟩
        · rw [if_pos c13] at h
          refine r_aload_n (x := 0) dX11_then_27 rfl ?_
          refine r_getfield (o := 0) (v := .ref 5) dX11_then_28 lX11_29 ck0 nC0 rfl ?_
          refine r_getfield (o := 5) (v := .ref (S11.2.2 5 4)) dX11_then_31 lX11_220 ck5 nC5 rfl ?_
          refine r_topr (fun o15 ho15 => ?_)
          replace h := lt_e ho15 h
          obtain ⟨g16, h⟩ := gd_e h
          refine r_getfield (o := o15) (v := .ref (sr o15 1)) dX11_then_34 lX11_162 g16.1 g16.2 rfl ?_
          refine r_iload_n (x := p0) dX11_then_37 rfl ?_
          obtain ⟨g17, h⟩ := gd_e h
          obtain ⟨g18, h⟩ := gd_e h
          refine r_iaload (a := (sr o15 1)) dX11_then_38 g17.1 g17.2 (inr_IX g18) ?_
          refine r_goto (tgt := 51) dX11_then_39 (by decide) ?_
          cases h
          exact r_ireturn dX11_then_51 rfl (by decide) ⟨rfl, rfl⟩
      · cases kx7 Ex7 ex7
        exact ⟨rfl, rfl⟩
    · cases kx4 Ex4 ex4
      exact ⟨rfl, rfl⟩
  · cases kx1 Ex1 ex1
    exact ⟨rfl, rfl⟩
def fX11_tipping (N : Nat) (p0 : Int32) (S : PS) : Option ((Int32 ⊕ String) × PS) :=
  bU (fX11_needRange N p0 1 200 S) fun S2 =>
  bV (fX11_lookAhead N p0 S2) fun S5 =>
  some (.inl (S5.1 5 5), S5)
set_option maxHeartbeats 4000000 in
set_option maxRecDepth 100000 in
theorem okX11_tipping (N : Nat) (p0 : Int32) (S : PS) (r : Int32 ⊕ String) (T : PS) (h : fX11_tipping N p0 S = some (r, T)) : CT mX11_tipping 7 8 [.ref 0, .int p0] S (qE r T) := by
  refine ct_of [some (.ref 0), some (.int p0)] rfl (fun _ => rfl) (fun _ => Nat.le_of_ble_eq_true rfl) ?_
  unfold fX11_tipping at h
  refine r_iload_n (x := p0) dX11_tipping_0 rfl ?_
  refine r_iconst (v := 1) dX11_tipping_1 rfl ?_
  refine r_sipush (v := 200) dX11_tipping_2 rfl ?_
  obtain ⟨x1, S2, h3, hx1, kx1⟩ := bU_e h
  refine r_cSU (y := mX11_needRange) (As := [.int p0, .int 1, .int 200]) (rest := []) dX11_tipping_5 qX11_81 kX11_needRange rfl (okX11_needRange N p0 1 200 S x1 S2 h3) (by decide) (by decide) rfl (Nat.le_of_ble_eq_true rfl) (fun ex1 => ?_) (fun Ex1 ex1 => ?_)
  · replace h := hx1 ex1
    refine r_aload_n (x := 0) dX11_tipping_8 rfl ?_
    refine r_iload_n (x := p0) dX11_tipping_9 rfl ?_
    obtain ⟨S5, h6, h⟩ := bV_e h
    refine r_cVV (y := mX11_lookAhead) (As := [.int p0]) (rest := []) dX11_tipping_10 qX11_217 kX11_lookAhead rfl ob0 vc11 rfl (okX11_lookAhead N p0 S2 S5 h6) (by decide) (by decide) rfl (Nat.le_of_ble_eq_true rfl) ?_
    refine r_aload_n (x := 0) dX11_tipping_13 rfl ?_
    refine r_getfield (o := 0) (v := .ref 5) dX11_tipping_14 lX11_29 ck0 nC0 rfl ?_
    refine r_getfield (o := 5) (v := .int (S5.1 5 5)) dX11_tipping_17 lX11_221 ck5 nC5 rfl ?_
    cases h
    exact r_ireturn dX11_tipping_20 rfl (by decide) ⟨rfl, rfl⟩
  · cases kx1 Ex1 ex1
    exact ⟨rfl, rfl⟩
def fX11_next (N : Nat) (p0 : Int32) (S : PS) : Option ((Int32 ⊕ String) × PS) :=
  bU (fX11_needCup N p0 S) fun S2 =>
  bI (fX11_firstHourOfAll N (1 <<< (p0 &&& 31)) S2) fun x4 S5 =>
  some (.inl x4, S5)
set_option maxHeartbeats 4000000 in
set_option maxRecDepth 100000 in
theorem okX11_next (N : Nat) (p0 : Int32) (S : PS) (r : Int32 ⊕ String) (T : PS) (h : fX11_next N p0 S = some (r, T)) : CT mX11_next 7 8 [.ref 0, .int p0] S (qE r T) := by
  refine ct_of [some (.ref 0), some (.int p0)] rfl (fun _ => rfl) (fun _ => Nat.le_of_ble_eq_true rfl) ?_
  unfold fX11_next at h
  refine r_aload_n (x := 0) dX11_next_0 rfl ?_
  refine r_iload_n (x := p0) dX11_next_1 rfl ?_
  obtain ⟨x1, S2, h3, hx1, kx1⟩ := bU_e h
  refine r_cVU (y := mX11_needCup) (As := [.int p0]) (rest := []) dX11_next_2 qX11_156 kX11_needCup rfl ob0 vc11 rfl (okX11_needCup N p0 S x1 S2 h3) (by decide) (by decide) rfl (Nat.le_of_ble_eq_true rfl) (fun ex1 => ?_) (fun Ex1 ex1 => ?_)
  · replace h := hx1 ex1
    refine r_aload_n (x := 0) dX11_next_5 rfl ?_
    refine r_iconst (v := 1) dX11_next_6 rfl ?_
    refine r_iload_n (x := p0) dX11_next_7 rfl ?_
    refine r_ishl dX11_next_8 ?_
    obtain ⟨x4, S5, h6, h⟩ := bI_e h
    refine r_cVI (y := mX11_firstHourOfAll) (As := [.int (1 <<< (p0 &&& 31))]) (rest := []) dX11_next_9 qX11_224 kX11_firstHourOfAll rfl ob0 vc11 rfl (okX11_firstHourOfAll N (1 <<< (p0 &&& 31)) S2 x4 S5 h6) (by decide) (by decide) rfl (Nat.le_of_ble_eq_true rfl) ?_
    cases h
    exact r_ireturn dX11_next_12 rfl (by decide) ⟨rfl, rfl⟩
  · cases kx1 Ex1 ex1
    exact ⟨rfl, rfl⟩
def fX11_together (N : Nat) (p0 : Int32) (S : PS) : Option ((Int32 ⊕ String) × PS) :=
  bU (fX11_needCups N p0 S) fun S2 =>
  bI (fX11_firstHourOfAll N p0 S2) fun x4 S5 =>
  some (.inl x4, S5)
set_option maxHeartbeats 4000000 in
set_option maxRecDepth 100000 in
theorem okX11_together (N : Nat) (p0 : Int32) (S : PS) (r : Int32 ⊕ String) (T : PS) (h : fX11_together N p0 S = some (r, T)) : CT mX11_together 7 8 [.ref 0, .int p0] S (qE r T) := by
  refine ct_of [some (.ref 0), some (.int p0)] rfl (fun _ => rfl) (fun _ => Nat.le_of_ble_eq_true rfl) ?_
  unfold fX11_together at h
  refine r_aload_n (x := 0) dX11_together_0 rfl ?_
  refine r_iload_n (x := p0) dX11_together_1 rfl ?_
  obtain ⟨x1, S2, h3, hx1, kx1⟩ := bU_e h
  refine r_cVU (y := mX11_needCups) (As := [.int p0]) (rest := []) dX11_together_2 qX11_227 kX11_needCups rfl ob0 vc11 rfl (okX11_needCups N p0 S x1 S2 h3) (by decide) (by decide) rfl (Nat.le_of_ble_eq_true rfl) (fun ex1 => ?_) (fun Ex1 ex1 => ?_)
  · replace h := hx1 ex1
    refine r_aload_n (x := 0) dX11_together_5 rfl ?_
    refine r_iload_n (x := p0) dX11_together_6 rfl ?_
    obtain ⟨x4, S5, h6, h⟩ := bI_e h
    refine r_cVI (y := mX11_firstHourOfAll) (As := [.int p0]) (rest := []) dX11_together_7 qX11_224 kX11_firstHourOfAll rfl ob0 vc11 rfl (okX11_firstHourOfAll N p0 S2 x4 S5 h6) (by decide) (by decide) rfl (Nat.le_of_ble_eq_true rfl) ?_
    cases h
    exact r_ireturn dX11_together_10 rfl (by decide) ⟨rfl, rfl⟩
  · cases kx1 Ex1 ex1
    exact ⟨rfl, rfl⟩
def fX11_sound (N : Nat) (p0 : Int32) (p1 : Int32) (S : PS) : Option ((Int32 ⊕ String) × PS) :=
  bU (fX11_needWhat N p1 1 S) fun S2 =>
  bU (fX11_needRange N p0 1 200 S2) fun S5 =>
  (if p1 = 0 then
    bI (fX11_longestSilence N p0 S5) fun x11 S12 =>
    some (.inl x11, S12)
  else
    bI (fX11_loudestHour N p0 S5) fun x8 S9 =>
    some (.inl x8, S9))
set_option maxHeartbeats 4000000 in
set_option maxRecDepth 100000 in
theorem okX11_sound (N : Nat) (p0 : Int32) (p1 : Int32) (S : PS) (r : Int32 ⊕ String) (T : PS) (h : fX11_sound N p0 p1 S = some (r, T)) : CT mX11_sound 7 8 [.ref 0, .int p0, .int p1] S (qE r T) := by
  refine ct_of [some (.ref 0), some (.int p0), some (.int p1)] rfl (fun _ => rfl) (fun _ => Nat.le_of_ble_eq_true rfl) ?_
  unfold fX11_sound at h
  refine r_iload_n (x := p1) dX11_sound_0 rfl ?_
  refine r_iconst (v := 1) dX11_sound_1 rfl ?_
  obtain ⟨x1, S2, h3, hx1, kx1⟩ := bU_e h
  refine r_cSU (y := mX11_needWhat) (As := [.int p1, .int 1]) (rest := []) dX11_sound_2 qX11_109 kX11_needWhat rfl (okX11_needWhat N p1 1 S x1 S2 h3) (by decide) (by decide) rfl (Nat.le_of_ble_eq_true rfl) (fun ex1 => ?_) (fun Ex1 ex1 => ?_)
  · replace h := hx1 ex1
    refine r_iload_n (x := p0) dX11_sound_5 rfl ?_
    refine r_iconst (v := 1) dX11_sound_6 rfl ?_
    refine r_sipush (v := 200) dX11_sound_7 rfl ?_
    obtain ⟨x4, S5, h6, hx4, kx4⟩ := bU_e h
    refine r_cSU (y := mX11_needRange) (As := [.int p0, .int 1, .int 200]) (rest := []) dX11_sound_10 qX11_81 kX11_needRange rfl (okX11_needRange N p0 1 200 S2 x4 S5 h6) (by decide) (by decide) rfl (Nat.le_of_ble_eq_true rfl) (fun ex4 => ?_) (fun Ex4 ex4 => ?_)
    · replace h := hx4 ex4
      refine r_iload_n (x := p1) dX11_sound_13 rfl ?_
      refine r_if_ne (tgt := 25) dX11_sound_14 (by decide) (fun c7 => ?_) (fun c7 => ?_)
      · rw [if_neg c7] at h
        refine r_aload_n (x := 0) dX11_sound_25 rfl ?_
        refine r_iload_n (x := p0) dX11_sound_26 rfl ?_
        obtain ⟨x8, S9, h10, h⟩ := bI_e h
        refine r_cVI (y := mX11_loudestHour) (As := [.int p0]) (rest := []) dX11_sound_27 qX11_233 kX11_loudestHour rfl ob0 vc11 rfl (okX11_loudestHour N p0 S5 x8 S9 h10) (by decide) (by decide) rfl (Nat.le_of_ble_eq_true rfl) ?_
        cases h
        exact r_ireturn dX11_sound_30 rfl (by decide) ⟨rfl, rfl⟩
      · rw [if_pos c7] at h
        refine r_aload_n (x := 0) dX11_sound_17 rfl ?_
        refine r_iload_n (x := p0) dX11_sound_18 rfl ?_
        obtain ⟨x11, S12, h13, h⟩ := bI_e h
        refine r_cVI (y := mX11_longestSilence) (As := [.int p0]) (rest := []) dX11_sound_19 qX11_230 kX11_longestSilence rfl ob0 vc11 rfl (okX11_longestSilence N p0 S5 x11 S12 h13) (by decide) (by decide) rfl (Nat.le_of_ble_eq_true rfl) ?_
        refine r_goto (tgt := 30) dX11_sound_22 (by decide) ?_
        cases h
        exact r_ireturn dX11_sound_30 rfl (by decide) ⟨rfl, rfl⟩
    · cases kx4 Ex4 ex4
      exact ⟨rfl, rfl⟩
  · cases kx1 Ex1 ex1
    exact ⟨rfl, rfl⟩
def fX11_toCrack_42 (N : Nat) (v1 : Int32) (v2 : Int32) (v3 : Int32) (v4 : Int32) : Nat → Int32 → Int32 → Int32 → PS → Option (Int32 × Int32 × Int32 × PS)
  | 0, _, _, _, _ => none
  | n + 1, v5, v6, v7, S =>
    (if 30 < v7 then
      some (v5, v6, v7, S)
    else
      bV (fX11_lookAhead N 0 S) fun S13 =>
      lt ((S13.2.2 5 4) : Nat) fun o15 =>
      gd (obj o15 2) <|
      bV (fX2_setHolds N o15 v1 v7 S13) fun S17 =>
      bV (fX3_goOn N v3 S17) fun S21 =>
      gd (inr v1 9) <|
      lt ((if 0 ≤ ((S21.1 28 (ix v1)) - v2) then ((S21.1 28 (ix v1)) - v2) else 0 - ((S21.1 28 (ix v1)) - v2)) : Int32) fun x24 =>
      (if v5 = (-1) then
        lt (v7 + 1 : Int32) fun x26 =>
        fX11_toCrack_42 N v1 v2 v3 v4 n v7 x24 x26 S21
      else
        (if v6 ≤ x24 then
          lt (v7 + 1 : Int32) fun x28 =>
          fX11_toCrack_42 N v1 v2 v3 v4 n v5 v6 x28 S21
        else
          lt (v7 + 1 : Int32) fun x29 =>
          fX11_toCrack_42 N v1 v2 v3 v4 n v7 x24 x29 S21)))
set_option maxHeartbeats 4000000 in
set_option maxRecDepth 100000 in
theorem okX11_toCrack_42 (N : Nat) (v1 : Int32) (v2 : Int32) (v3 : Int32) (v4 : Int32) (Q : OQ) (u : Nat) (hu : u ≤ 8) : ∀ (n : Nat) (v5 : Int32) (v6 : Int32) (v7 : Int32) (S : PS) (y5 : Int32) (y6 : Int32) (y7 : Int32) (T : PS), fX11_toCrack_42 N v1 v2 v3 v4 n v5 v6 v7 S = some (y5, y6, y7, T) → WP [] mX11_toCrack 7 8 Q 118 [some (.ref 0), some (.int v1), some (.int v2), some (.int v3), some (.int v4), some (.int y5), some (.int y6), some (.int y7), none] [] T u → WP [] mX11_toCrack 7 8 Q 42 [some (.ref 0), some (.int v1), some (.int v2), some (.int v3), some (.int v4), some (.int v5), some (.int v6), some (.int v7), none] [] S u := by
  intro n
  induction n with
  | zero => intro v5 v6 v7 S y5 y6 y7 T h; rw [fX11_toCrack_42] at h; cases h
  | succ n ih =>
    intro v5 v6 v7 S y5 y6 y7 T h k0
    rw [fX11_toCrack_42] at h
    refine r_iload (x := v7) dX11_toCrack_42 rfl ?_
    refine r_bipush (v := 30) dX11_toCrack_44 rfl ?_
    refine r_icmp_gt (tgt := 118) dX11_toCrack_46 (by decide) (fun c11 => ?_) (fun c11 => ?_)
    · rw [if_pos c11] at h
      cases h
      exact k0
    · rw [if_neg c11] at h
      refine r_aload_n (x := 0) dX11_toCrack_49 rfl ?_
      refine r_iconst (v := 0) dX11_toCrack_50 rfl ?_
      obtain ⟨S13, h14, h⟩ := bV_e h
      refine r_cVV (y := mX11_lookAhead) (As := [.int 0]) (rest := []) dX11_toCrack_51 qX11_217 kX11_lookAhead rfl ob0 vc11 rfl (okX11_lookAhead N 0 S S13 h14) (by decide) hu rfl (Nat.le_of_ble_eq_true rfl) ?_
      refine r_aload_n (x := 0) dX11_toCrack_54 rfl ?_
      refine r_getfield (o := 0) (v := .ref 5) dX11_toCrack_55 lX11_29 ck0 nC0 rfl ?_
      refine r_getfield (o := 5) (v := .ref (S13.2.2 5 4)) dX11_toCrack_58 lX11_220 ck5 nC5 rfl ?_
      refine r_topr (fun o15 ho15 => ?_)
      replace h := lt_e ho15 h
      refine r_iload_n (x := v1) dX11_toCrack_61 rfl ?_
      refine r_iload (x := v7) dX11_toCrack_62 rfl ?_
      obtain ⟨g19, h⟩ := gd_e h
      obtain ⟨S17, h18, h⟩ := bV_e h
      refine r_cVV (y := mX2_setHolds) (As := [.int v1, .int v7]) (rest := []) dX11_toCrack_64 qX11_211 kX2_setHolds rfl g19 vc2 rfl (okX2_setHolds N o15 v1 v7 S13 S17 h18) (by decide) hu rfl (Nat.le_of_ble_eq_true rfl) ?_
      refine r_aload_n (x := 0) dX11_toCrack_67 rfl ?_
      refine r_getfield (o := 0) (v := .ref 5) dX11_toCrack_68 lX11_29 ck0 nC0 rfl ?_
      refine r_iload_n (x := v3) dX11_toCrack_71 rfl ?_
      obtain ⟨S21, h22, h⟩ := bV_e h
      refine r_cVV (y := mX3_goOn) (As := [.int v3]) (rest := []) dX11_toCrack_72 qX11_191 kX3_goOn rfl ob5 vc3 rfl (okX3_goOn N v3 S17 S21 h22) (by decide) hu rfl (Nat.le_of_ble_eq_true rfl) ?_
      refine r_aload_n (x := 0) dX11_toCrack_75 rfl ?_
      refine r_getfield (o := 0) (v := .ref 5) dX11_toCrack_76 lX11_29 ck0 nC0 rfl ?_
      refine r_getfield (o := 5) (v := .ref 28) dX11_toCrack_79 lX11_208 ck5 nC5 rfl ?_
      refine r_iload_n (x := v1) dX11_toCrack_82 rfl ?_
      obtain ⟨g23, h⟩ := gd_e h
      refine r_iaload (a := 28) dX11_toCrack_83 ck28 nC28 (inr_IX g23) ?_
      refine r_iload_n (x := v2) dX11_toCrack_84 rfl ?_
      refine r_isub dX11_toCrack_85 ?_
      refine r_mabs dX11_toCrack_86 qX11_266 (by decide) hu (Nat.le_of_ble_eq_true rfl) ?_
      refine r_topi (fun x24 hx24 => ?_)
      replace h := lt_e hx24 h
      refine r_istore (L' := [some (.ref 0), some (.int v1), some (.int v2), some (.int v3), some (.int v4), some (.int v5), some (.int v6), some (.int v7), some (.int x24)]) dX11_toCrack_89 (Nat.le_of_ble_eq_true rfl) rfl rfl ?_
      refine r_iload (x := v5) dX11_toCrack_91 rfl ?_
      refine r_iconst (v := (-1)) dX11_toCrack_93 rfl ?_
      refine r_icmp_eq (tgt := 104) dX11_toCrack_94 (by decide) (fun c25 => ?_) (fun c25 => ?_)
      · rw [if_pos c25] at h
        refine r_iload (x := v7) dX11_toCrack_104 rfl ?_
        refine r_istore (L' := [some (.ref 0), some (.int v1), some (.int v2), some (.int v3), some (.int v4), some (.int v7), some (.int v6), some (.int v7), some (.int x24)]) dX11_toCrack_106 (Nat.le_of_ble_eq_true rfl) rfl rfl ?_
        refine r_iload (x := x24) dX11_toCrack_108 rfl ?_
        refine r_istore (L' := [some (.ref 0), some (.int v1), some (.int v2), some (.int v3), some (.int v4), some (.int v7), some (.int x24), some (.int v7), some (.int x24)]) dX11_toCrack_110 (Nat.le_of_ble_eq_true rfl) rfl rfl ?_
        obtain ⟨x26, hx26⟩ : ∃ y : Int32, y = (v7 + 1 : Int32) := ⟨_, rfl⟩
        replace h := lt_e hx26 h
        refine r_iinc (x := v7) (v := x26) (L' := [some (.ref 0), some (.int v1), some (.int v2), some (.int v3), some (.int v4), some (.int v7), some (.int x24), some (.int x26), some (.int x24)]) dX11_toCrack_112 rfl (by rw [hx26]; rfl) (Nat.le_of_ble_eq_true rfl) rfl rfl ?_
        refine r_goto (tgt := 42) dX11_toCrack_115 (by decide) ?_
        refine r_drop [true, true, true, true, true, true, true, true, false] rfl ?_
        exact ih _ _ _ _ _ _ _ _ h k0
      · rw [if_neg c25] at h
        refine r_iload (x := x24) dX11_toCrack_97 rfl ?_
        refine r_iload (x := v6) dX11_toCrack_99 rfl ?_
        refine r_icmp_ge (tgt := 112) dX11_toCrack_101 (by decide) (fun c27 => ?_) (fun c27 => ?_)
        · rw [if_pos c27] at h
          obtain ⟨x28, hx28⟩ : ∃ y : Int32, y = (v7 + 1 : Int32) := ⟨_, rfl⟩
          replace h := lt_e hx28 h
          refine r_iinc (x := v7) (v := x28) (L' := [some (.ref 0), some (.int v1), some (.int v2), some (.int v3), some (.int v4), some (.int v5), some (.int v6), some (.int x28), some (.int x24)]) dX11_toCrack_112 rfl (by rw [hx28]; rfl) (Nat.le_of_ble_eq_true rfl) rfl rfl ?_
          refine r_goto (tgt := 42) dX11_toCrack_115 (by decide) ?_
          refine r_drop [true, true, true, true, true, true, true, true, false] rfl ?_
          exact ih _ _ _ _ _ _ _ _ h k0
        · rw [if_neg c27] at h
          refine r_iload (x := v7) dX11_toCrack_104 rfl ?_
          refine r_istore (L' := [some (.ref 0), some (.int v1), some (.int v2), some (.int v3), some (.int v4), some (.int v7), some (.int v6), some (.int v7), some (.int x24)]) dX11_toCrack_106 (Nat.le_of_ble_eq_true rfl) rfl rfl ?_
          refine r_iload (x := x24) dX11_toCrack_108 rfl ?_
          refine r_istore (L' := [some (.ref 0), some (.int v1), some (.int v2), some (.int v3), some (.int v4), some (.int v7), some (.int x24), some (.int v7), some (.int x24)]) dX11_toCrack_110 (Nat.le_of_ble_eq_true rfl) rfl rfl ?_
          obtain ⟨x29, hx29⟩ : ∃ y : Int32, y = (v7 + 1 : Int32) := ⟨_, rfl⟩
          replace h := lt_e hx29 h
          refine r_iinc (x := v7) (v := x29) (L' := [some (.ref 0), some (.int v1), some (.int v2), some (.int v3), some (.int v4), some (.int v7), some (.int x24), some (.int x29), some (.int x24)]) dX11_toCrack_112 rfl (by rw [hx29]; rfl) (Nat.le_of_ble_eq_true rfl) rfl rfl ?_
          refine r_goto (tgt := 42) dX11_toCrack_115 (by decide) ?_
          refine r_drop [true, true, true, true, true, true, true, true, false] rfl ?_
          exact ih _ _ _ _ _ _ _ _ h k0
def fX11_toCrack (N : Nat) (p0 : Int32) (p1 : Int32) (p2 : Int32) (p3 : Int32) (S : PS) : Option ((Int32 ⊕ String) × PS) :=
  bU (fX11_needCup N p0 S) fun S2 =>
  bU (fX11_needWhat N p3 1 S2) fun S5 =>
  bU (fX11_needRange N p2 1 60 S5) fun S8 =>
  (if 0 ≤ p1 then
    bT (fX11_toCrack_42 N p0 p1 p2 p3 N (-1) 0 1 S8) fun q30 =>
    lt (q30.1 : Int32) fun x31 =>
    lt (q30.2.1 : Int32) fun x32 =>
    lt (q30.2.2.1 : Int32) fun x33 =>
    lt (q30.2.2.2 : PS) fun S34 =>
    lt ((if p3 = 0 then x31 else x32) : Int32) fun x38 =>
    some (.inl x38, S34)
  else
    some (.inr nIAE, S8))
set_option maxHeartbeats 4000000 in
set_option maxRecDepth 100000 in
theorem okX11_toCrack (N : Nat) (p0 : Int32) (p1 : Int32) (p2 : Int32) (p3 : Int32) (S : PS) (r : Int32 ⊕ String) (T : PS) (h : fX11_toCrack N p0 p1 p2 p3 S = some (r, T)) : CT mX11_toCrack 7 8 [.ref 0, .int p0, .int p1, .int p2, .int p3] S (qE r T) := by
  refine ct_of [some (.ref 0), some (.int p0), some (.int p1), some (.int p2), some (.int p3), none, none, none, none] rfl (fun _ => rfl) (fun _ => Nat.le_of_ble_eq_true rfl) ?_
  unfold fX11_toCrack at h
  refine r_aload_n (x := 0) dX11_toCrack_0 rfl ?_
  refine r_iload_n (x := p0) dX11_toCrack_1 rfl ?_
  obtain ⟨x1, S2, h3, hx1, kx1⟩ := bU_e h
  refine r_cVU (y := mX11_needCup) (As := [.int p0]) (rest := []) dX11_toCrack_2 qX11_156 kX11_needCup rfl ob0 vc11 rfl (okX11_needCup N p0 S x1 S2 h3) (by decide) (by decide) rfl (Nat.le_of_ble_eq_true rfl) (fun ex1 => ?_) (fun Ex1 ex1 => ?_)
  · replace h := hx1 ex1
    refine r_iload (x := p3) dX11_toCrack_5 rfl ?_
    refine r_iconst (v := 1) dX11_toCrack_7 rfl ?_
    obtain ⟨x4, S5, h6, hx4, kx4⟩ := bU_e h
    refine r_cSU (y := mX11_needWhat) (As := [.int p3, .int 1]) (rest := []) dX11_toCrack_8 qX11_109 kX11_needWhat rfl (okX11_needWhat N p3 1 S2 x4 S5 h6) (by decide) (by decide) rfl (Nat.le_of_ble_eq_true rfl) (fun ex4 => ?_) (fun Ex4 ex4 => ?_)
    · replace h := hx4 ex4
      refine r_iload_n (x := p2) dX11_toCrack_11 rfl ?_
      refine r_iconst (v := 1) dX11_toCrack_12 rfl ?_
      refine r_bipush (v := 60) dX11_toCrack_13 rfl ?_
      obtain ⟨x7, S8, h9, hx7, kx7⟩ := bU_e h
      refine r_cSU (y := mX11_needRange) (As := [.int p2, .int 1, .int 60]) (rest := []) dX11_toCrack_15 qX11_81 kX11_needRange rfl (okX11_needRange N p2 1 60 S5 x7 S8 h9) (by decide) (by decide) rfl (Nat.le_of_ble_eq_true rfl) (fun ex7 => ?_) (fun Ex7 ex7 => ?_)
      · replace h := hx7 ex7
        refine r_iload_n (x := p1) dX11_toCrack_18 rfl ?_
        refine r_if_ge (tgt := 33) dX11_toCrack_19 (by decide) (fun c10 => ?_) (fun c10 => ?_)
        · rw [if_pos c10] at h
          refine r_iconst (v := (-1)) dX11_toCrack_33 rfl ?_
          refine r_istore (L' := [some (.ref 0), some (.int p0), some (.int p1), some (.int p2), some (.int p3), some (.int (-1)), none, none, none]) dX11_toCrack_34 (Nat.le_of_ble_eq_true rfl) rfl rfl ?_
          refine r_iconst (v := 0) dX11_toCrack_36 rfl ?_
          refine r_istore (L' := [some (.ref 0), some (.int p0), some (.int p1), some (.int p2), some (.int p3), some (.int (-1)), some (.int 0), none, none]) dX11_toCrack_37 (Nat.le_of_ble_eq_true rfl) rfl rfl ?_
          refine r_iconst (v := 1) dX11_toCrack_39 rfl ?_
          refine r_istore (L' := [some (.ref 0), some (.int p0), some (.int p1), some (.int p2), some (.int p3), some (.int (-1)), some (.int 0), some (.int 1), none]) dX11_toCrack_40 (Nat.le_of_ble_eq_true rfl) rfl rfl ?_
          obtain ⟨⟨x31, x32, x33, S34⟩, h36, h⟩ := bT_e h
          dsimp only at h
          replace h := pl_s (pl_s (pl_s (pl_s (h))))
          refine okX11_toCrack_42 N p0 p1 p2 p3 (qE r T) 3 (by decide) _ _ _ _ _ _ _ _ _ h36 ?_
          refine r_iload (x := p3) dX11_toCrack_118 rfl ?_
          obtain ⟨x38, hx38⟩ : ∃ y : Int32, y = ((if p3 = 0 then x31 else x32) : Int32) := ⟨_, rfl⟩
          replace h := lt_e hx38 h
          have keyx38 : WP [] mX11_toCrack 7 8 (qE r T) 130 [some (.ref 0), some (.int p0), some (.int p1), some (.int p2), some (.int p3), some (.int x31), some (.int x32), some (.int x33), none] (.int x38 :: []) S34 3 := by
            cases h
            exact r_ireturn dX11_toCrack_130 rfl (by decide) ⟨rfl, rfl⟩
          refine r_if_ne (tgt := 128) dX11_toCrack_120 (by decide) (fun c37 => ?_) (fun c37 => ?_)
          · refine r_iload (x := x32) dX11_toCrack_128 rfl ?_
            exact r_tope (by rw [hx38, if_neg c37]) keyx38
          · refine r_iload (x := x31) dX11_toCrack_123 rfl ?_
            refine r_goto (tgt := 130) dX11_toCrack_125 (by decide) ?_
            exact r_tope (by rw [hx38, if_pos c37]) keyx38
        · rw [if_neg c10] at h
          cases h
          exact r_thrI (is := 261) (text := "times below 0") rfl dX11_toCrack_22 dX11_toCrack_25 dX11_toCrack_26 dX11_toCrack_29 dX11_toCrack_32 (by decide) (by decide) (by decide) (Nat.le_of_ble_eq_true rfl) ⟨rfl, rfl⟩
      · cases kx7 Ex7 ex7
        exact ⟨rfl, rfl⟩
    · cases kx4 Ex4 ex4
      exact ⟨rfl, rfl⟩
  · cases kx1 Ex1 ex1
    exact ⟨rfl, rfl⟩
def fX11_office_25 (N : Nat) (v1 : Int32) (v2 : Int32) : Nat → Int32 → Int32 → Int32 → PS → Option (Int32 × Int32 × Int32 × PS)
  | 0, _, _, _, _ => none
  | n + 1, v3, v4, v5, S =>
    (if 120 < v5 then
      some (v3, v4, v5, S)
    else
      bV (fX3_goOn N 1 S) fun S12 =>
      (if v3 = (-1) then
        (if (S12.1 5 5) = 0 then
          lt (v5 + 1 : Int32) fun x16 =>
          fX11_office_25 N v1 v2 n v3 v4 x16 S12
        else
          (if (1 : Int32) = 0 then
            lt (v5 + 1 : Int32) fun x18 =>
            fX11_office_25 N v1 v2 n v3 v4 x18 S12
          else
            lt ((S12.1 5 5) : Int32) fun x19 =>
            lt (v5 + 1 : Int32) fun x20 =>
            fX11_office_25 N v1 v2 n v5 x19 x20 S12))
      else
        lt ((if 0 ≤ (v5 - v1) then (v5 - v1) else 0 - (v5 - v1)) : Int32) fun x21 =>
        lt ((if 0 ≤ (v3 - v1) then (v3 - v1) else 0 - (v3 - v1)) : Int32) fun x22 =>
        lt ((if x22 ≤ x21 then 0 else 1) : Int32) fun x24 =>
        (if (S12.1 5 5) = 0 then
          lt (v5 + 1 : Int32) fun x26 =>
          fX11_office_25 N v1 v2 n v3 v4 x26 S12
        else
          (if x24 = 0 then
            lt (v5 + 1 : Int32) fun x28 =>
            fX11_office_25 N v1 v2 n v3 v4 x28 S12
          else
            lt ((S12.1 5 5) : Int32) fun x29 =>
            lt (v5 + 1 : Int32) fun x30 =>
            fX11_office_25 N v1 v2 n v5 x29 x30 S12))))
set_option maxHeartbeats 4000000 in
set_option maxRecDepth 100000 in
theorem okX11_office_25 (N : Nat) (v1 : Int32) (v2 : Int32) (Q : OQ) (u : Nat) (hu : u ≤ 8) : ∀ (n : Nat) (v3 : Int32) (v4 : Int32) (v5 : Int32) (S : PS) (y3 : Int32) (y4 : Int32) (y5 : Int32) (T : PS), fX11_office_25 N v1 v2 n v3 v4 v5 S = some (y3, y4, y5, T) → WP [] mX11_office 7 8 Q 101 [some (.ref 0), some (.int v1), some (.int v2), some (.int y3), some (.int y4), some (.int y5), none] [] T u → WP [] mX11_office 7 8 Q 25 [some (.ref 0), some (.int v1), some (.int v2), some (.int v3), some (.int v4), some (.int v5), none] [] S u := by
  intro n
  induction n with
  | zero => intro v3 v4 v5 S y3 y4 y5 T h; rw [fX11_office_25] at h; cases h
  | succ n ih =>
    intro v3 v4 v5 S y3 y4 y5 T h k0
    rw [fX11_office_25] at h
    refine r_iload (x := v5) dX11_office_25 rfl ?_
    refine r_bipush (v := 120) dX11_office_27 rfl ?_
    refine r_icmp_gt (tgt := 101) dX11_office_29 (by decide) (fun c10 => ?_) (fun c10 => ?_)
    · rw [if_pos c10] at h
      cases h
      exact k0
    · rw [if_neg c10] at h
      refine r_aload_n (x := 0) dX11_office_32 rfl ?_
      refine r_getfield (o := 0) (v := .ref 5) dX11_office_33 lX11_29 ck0 nC0 rfl ?_
      refine r_iconst (v := 1) dX11_office_36 rfl ?_
      obtain ⟨S12, h13, h⟩ := bV_e h
      refine r_cVV (y := mX3_goOn) (As := [.int 1]) (rest := []) dX11_office_37 qX11_191 kX3_goOn rfl ob5 vc3 rfl (okX3_goOn N 1 S S12 h13) (by decide) hu rfl (Nat.le_of_ble_eq_true rfl) ?_
      refine r_iload_n (x := v3) dX11_office_40 rfl ?_
      refine r_iconst (v := (-1)) dX11_office_41 rfl ?_
      refine r_icmp_eq (tgt := 61) dX11_office_42 (by decide) (fun c14 => ?_) (fun c14 => ?_)
      · rw [if_pos c14] at h
        refine r_iconst (v := 1) dX11_office_61 rfl ?_
        refine r_goto (tgt := 66) dX11_office_62 (by decide) ?_
        refine r_istore (L' := [some (.ref 0), some (.int v1), some (.int v2), some (.int v3), some (.int v4), some (.int v5), some (.int 1)]) dX11_office_66 (Nat.le_of_ble_eq_true rfl) rfl rfl ?_
        refine r_aload_n (x := 0) dX11_office_68 rfl ?_
        refine r_getfield (o := 0) (v := .ref 5) dX11_office_69 lX11_29 ck0 nC0 rfl ?_
        refine r_getfield (o := 5) (v := .int (S12.1 5 5)) dX11_office_72 lX11_221 ck5 nC5 rfl ?_
        refine r_if_eq (tgt := 95) dX11_office_75 (by decide) (fun c15 => ?_) (fun c15 => ?_)
        · rw [if_pos c15] at h
          obtain ⟨x16, hx16⟩ : ∃ y : Int32, y = (v5 + 1 : Int32) := ⟨_, rfl⟩
          replace h := lt_e hx16 h
          refine r_iinc (x := v5) (v := x16) (L' := [some (.ref 0), some (.int v1), some (.int v2), some (.int v3), some (.int v4), some (.int x16), some (.int 1)]) dX11_office_95 rfl (by rw [hx16]; rfl) (Nat.le_of_ble_eq_true rfl) rfl rfl ?_
          refine r_goto (tgt := 25) dX11_office_98 (by decide) ?_
          refine r_drop [true, true, true, true, true, true, false] rfl ?_
          exact ih _ _ _ _ _ _ _ _ h k0
        · rw [if_neg c15] at h
          refine r_iload (x := 1) dX11_office_78 rfl ?_
          refine r_if_eq (tgt := 95) dX11_office_80 (by decide) (fun c17 => ?_) (fun c17 => ?_)
          · rw [if_pos c17] at h
            obtain ⟨x18, hx18⟩ : ∃ y : Int32, y = (v5 + 1 : Int32) := ⟨_, rfl⟩
            replace h := lt_e hx18 h
            refine r_iinc (x := v5) (v := x18) (L' := [some (.ref 0), some (.int v1), some (.int v2), some (.int v3), some (.int v4), some (.int x18), some (.int 1)]) dX11_office_95 rfl (by rw [hx18]; rfl) (Nat.le_of_ble_eq_true rfl) rfl rfl ?_
            refine r_goto (tgt := 25) dX11_office_98 (by decide) ?_
            refine r_drop [true, true, true, true, true, true, false] rfl ?_
            exact ih _ _ _ _ _ _ _ _ h k0
          · rw [if_neg c17] at h
            refine r_iload (x := v5) dX11_office_83 rfl ?_
            refine r_istore_n (L' := [some (.ref 0), some (.int v1), some (.int v2), some (.int v5), some (.int v4), some (.int v5), some (.int 1)]) dX11_office_85 (Nat.le_of_ble_eq_true rfl) rfl rfl ?_
            refine r_aload_n (x := 0) dX11_office_86 rfl ?_
            refine r_getfield (o := 0) (v := .ref 5) dX11_office_87 lX11_29 ck0 nC0 rfl ?_
            refine r_getfield (o := 5) (v := .int (S12.1 5 5)) dX11_office_90 lX11_221 ck5 nC5 rfl ?_
            refine r_topi (fun x19 hx19 => ?_)
            replace h := lt_e hx19 h
            refine r_istore (L' := [some (.ref 0), some (.int v1), some (.int v2), some (.int v5), some (.int x19), some (.int v5), some (.int 1)]) dX11_office_93 (Nat.le_of_ble_eq_true rfl) rfl rfl ?_
            obtain ⟨x20, hx20⟩ : ∃ y : Int32, y = (v5 + 1 : Int32) := ⟨_, rfl⟩
            replace h := lt_e hx20 h
            refine r_iinc (x := v5) (v := x20) (L' := [some (.ref 0), some (.int v1), some (.int v2), some (.int v5), some (.int x19), some (.int x20), some (.int 1)]) dX11_office_95 rfl (by rw [hx20]; rfl) (Nat.le_of_ble_eq_true rfl) rfl rfl ?_
            refine r_goto (tgt := 25) dX11_office_98 (by decide) ?_
            refine r_drop [true, true, true, true, true, true, false] rfl ?_
            exact ih _ _ _ _ _ _ _ _ h k0
      · rw [if_neg c14] at h
        refine r_iload (x := v5) dX11_office_45 rfl ?_
        refine r_iload_n (x := v1) dX11_office_47 rfl ?_
        refine r_isub dX11_office_48 ?_
        refine r_mabs dX11_office_49 qX11_266 (by decide) hu (Nat.le_of_ble_eq_true rfl) ?_
        refine r_topi (fun x21 hx21 => ?_)
        replace h := lt_e hx21 h
        refine r_iload_n (x := v3) dX11_office_52 rfl ?_
        refine r_iload_n (x := v1) dX11_office_53 rfl ?_
        refine r_isub dX11_office_54 ?_
        refine r_mabs dX11_office_55 qX11_266 (by decide) hu (Nat.le_of_ble_eq_true rfl) ?_
        refine r_topi (fun x22 hx22 => ?_)
        replace h := lt_e hx22 h
        obtain ⟨x24, hx24⟩ : ∃ y : Int32, y = ((if x22 ≤ x21 then 0 else 1) : Int32) := ⟨_, rfl⟩
        replace h := lt_e hx24 h
        have keyx24 : WP [] mX11_office 7 8 Q 66 [some (.ref 0), some (.int v1), some (.int v2), some (.int v3), some (.int v4), some (.int v5), none] (.int x24 :: []) S12 u := by
          refine r_istore (L' := [some (.ref 0), some (.int v1), some (.int v2), some (.int v3), some (.int v4), some (.int v5), some (.int x24)]) dX11_office_66 (Nat.le_of_ble_eq_true rfl) rfl rfl ?_
          refine r_aload_n (x := 0) dX11_office_68 rfl ?_
          refine r_getfield (o := 0) (v := .ref 5) dX11_office_69 lX11_29 ck0 nC0 rfl ?_
          refine r_getfield (o := 5) (v := .int (S12.1 5 5)) dX11_office_72 lX11_221 ck5 nC5 rfl ?_
          refine r_if_eq (tgt := 95) dX11_office_75 (by decide) (fun c25 => ?_) (fun c25 => ?_)
          · rw [if_pos c25] at h
            obtain ⟨x26, hx26⟩ : ∃ y : Int32, y = (v5 + 1 : Int32) := ⟨_, rfl⟩
            replace h := lt_e hx26 h
            refine r_iinc (x := v5) (v := x26) (L' := [some (.ref 0), some (.int v1), some (.int v2), some (.int v3), some (.int v4), some (.int x26), some (.int x24)]) dX11_office_95 rfl (by rw [hx26]; rfl) (Nat.le_of_ble_eq_true rfl) rfl rfl ?_
            refine r_goto (tgt := 25) dX11_office_98 (by decide) ?_
            refine r_drop [true, true, true, true, true, true, false] rfl ?_
            exact ih _ _ _ _ _ _ _ _ h k0
          · rw [if_neg c25] at h
            refine r_iload (x := x24) dX11_office_78 rfl ?_
            refine r_if_eq (tgt := 95) dX11_office_80 (by decide) (fun c27 => ?_) (fun c27 => ?_)
            · rw [if_pos c27] at h
              obtain ⟨x28, hx28⟩ : ∃ y : Int32, y = (v5 + 1 : Int32) := ⟨_, rfl⟩
              replace h := lt_e hx28 h
              refine r_iinc (x := v5) (v := x28) (L' := [some (.ref 0), some (.int v1), some (.int v2), some (.int v3), some (.int v4), some (.int x28), some (.int x24)]) dX11_office_95 rfl (by rw [hx28]; rfl) (Nat.le_of_ble_eq_true rfl) rfl rfl ?_
              refine r_goto (tgt := 25) dX11_office_98 (by decide) ?_
              refine r_drop [true, true, true, true, true, true, false] rfl ?_
              exact ih _ _ _ _ _ _ _ _ h k0
            · rw [if_neg c27] at h
              refine r_iload (x := v5) dX11_office_83 rfl ?_
              refine r_istore_n (L' := [some (.ref 0), some (.int v1), some (.int v2), some (.int v5), some (.int v4), some (.int v5), some (.int x24)]) dX11_office_85 (Nat.le_of_ble_eq_true rfl) rfl rfl ?_
              refine r_aload_n (x := 0) dX11_office_86 rfl ?_
              refine r_getfield (o := 0) (v := .ref 5) dX11_office_87 lX11_29 ck0 nC0 rfl ?_
              refine r_getfield (o := 5) (v := .int (S12.1 5 5)) dX11_office_90 lX11_221 ck5 nC5 rfl ?_
              refine r_topi (fun x29 hx29 => ?_)
              replace h := lt_e hx29 h
              refine r_istore (L' := [some (.ref 0), some (.int v1), some (.int v2), some (.int v5), some (.int x29), some (.int v5), some (.int x24)]) dX11_office_93 (Nat.le_of_ble_eq_true rfl) rfl rfl ?_
              obtain ⟨x30, hx30⟩ : ∃ y : Int32, y = (v5 + 1 : Int32) := ⟨_, rfl⟩
              replace h := lt_e hx30 h
              refine r_iinc (x := v5) (v := x30) (L' := [some (.ref 0), some (.int v1), some (.int v2), some (.int v5), some (.int x29), some (.int x30), some (.int x24)]) dX11_office_95 rfl (by rw [hx30]; rfl) (Nat.le_of_ble_eq_true rfl) rfl rfl ?_
              refine r_goto (tgt := 25) dX11_office_98 (by decide) ?_
              refine r_drop [true, true, true, true, true, true, false] rfl ?_
              exact ih _ _ _ _ _ _ _ _ h k0
        refine r_icmp_ge (tgt := 65) dX11_office_58 (by decide) (fun c23 => ?_) (fun c23 => ?_)
        · refine r_iconst (v := 0) dX11_office_65 rfl ?_
          exact r_tope (by rw [hx24, if_pos c23]) keyx24
        · refine r_iconst (v := 1) dX11_office_61 rfl ?_
          refine r_goto (tgt := 66) dX11_office_62 (by decide) ?_
          exact r_tope (by rw [hx24, if_neg c23]) keyx24
def fX11_office (N : Nat) (p0 : Int32) (p1 : Int32) (S : PS) : Option ((Int32 ⊕ String) × PS) :=
  bU (fX11_needWhat N p1 1 S) fun S2 =>
  bU (fX11_needRange N p0 1 60 S2) fun S5 =>
  bV (fX11_lookAhead N 0 S5) fun S8 =>
  bT (fX11_office_25 N p0 p1 N (-1) 0 1 S8) fun q31 =>
  lt (q31.1 : Int32) fun x32 =>
  lt (q31.2.1 : Int32) fun x33 =>
  lt (q31.2.2.1 : Int32) fun x34 =>
  lt (q31.2.2.2 : PS) fun S35 =>
  (if p1 = 0 then
    bI (fX11_leastOf N x33 S35) fun x39 S40 =>
    some (.inl x39, S40)
  else
    some (.inl x32, S35))
set_option maxHeartbeats 4000000 in
set_option maxRecDepth 100000 in
theorem okX11_office (N : Nat) (p0 : Int32) (p1 : Int32) (S : PS) (r : Int32 ⊕ String) (T : PS) (h : fX11_office N p0 p1 S = some (r, T)) : CT mX11_office 7 8 [.ref 0, .int p0, .int p1] S (qE r T) := by
  refine ct_of [some (.ref 0), some (.int p0), some (.int p1), none, none, none, none] rfl (fun _ => rfl) (fun _ => Nat.le_of_ble_eq_true rfl) ?_
  unfold fX11_office at h
  refine r_iload_n (x := p1) dX11_office_0 rfl ?_
  refine r_iconst (v := 1) dX11_office_1 rfl ?_
  obtain ⟨x1, S2, h3, hx1, kx1⟩ := bU_e h
  refine r_cSU (y := mX11_needWhat) (As := [.int p1, .int 1]) (rest := []) dX11_office_2 qX11_109 kX11_needWhat rfl (okX11_needWhat N p1 1 S x1 S2 h3) (by decide) (by decide) rfl (Nat.le_of_ble_eq_true rfl) (fun ex1 => ?_) (fun Ex1 ex1 => ?_)
  · replace h := hx1 ex1
    refine r_iload_n (x := p0) dX11_office_5 rfl ?_
    refine r_iconst (v := 1) dX11_office_6 rfl ?_
    refine r_bipush (v := 60) dX11_office_7 rfl ?_
    obtain ⟨x4, S5, h6, hx4, kx4⟩ := bU_e h
    refine r_cSU (y := mX11_needRange) (As := [.int p0, .int 1, .int 60]) (rest := []) dX11_office_9 qX11_81 kX11_needRange rfl (okX11_needRange N p0 1 60 S2 x4 S5 h6) (by decide) (by decide) rfl (Nat.le_of_ble_eq_true rfl) (fun ex4 => ?_) (fun Ex4 ex4 => ?_)
    · replace h := hx4 ex4
      refine r_iconst (v := (-1)) dX11_office_12 rfl ?_
      refine r_istore_n (L' := [some (.ref 0), some (.int p0), some (.int p1), some (.int (-1)), none, none, none]) dX11_office_13 (Nat.le_of_ble_eq_true rfl) rfl rfl ?_
      refine r_iconst (v := 0) dX11_office_14 rfl ?_
      refine r_istore (L' := [some (.ref 0), some (.int p0), some (.int p1), some (.int (-1)), some (.int 0), none, none]) dX11_office_15 (Nat.le_of_ble_eq_true rfl) rfl rfl ?_
      refine r_aload_n (x := 0) dX11_office_17 rfl ?_
      refine r_iconst (v := 0) dX11_office_18 rfl ?_
      obtain ⟨S8, h9, h⟩ := bV_e h
      refine r_cVV (y := mX11_lookAhead) (As := [.int 0]) (rest := []) dX11_office_19 qX11_217 kX11_lookAhead rfl ob0 vc11 rfl (okX11_lookAhead N 0 S5 S8 h9) (by decide) (by decide) rfl (Nat.le_of_ble_eq_true rfl) ?_
      refine r_iconst (v := 1) dX11_office_22 rfl ?_
      refine r_istore (L' := [some (.ref 0), some (.int p0), some (.int p1), some (.int (-1)), some (.int 0), some (.int 1), none]) dX11_office_23 (Nat.le_of_ble_eq_true rfl) rfl rfl ?_
      obtain ⟨⟨x32, x33, x34, S35⟩, h37, h⟩ := bT_e h
      dsimp only at h
      replace h := pl_s (pl_s (pl_s (pl_s (h))))
      refine okX11_office_25 N p0 p1 (qE r T) 2 (by decide) _ _ _ _ _ _ _ _ _ h37 ?_
      refine r_iload_n (x := p1) dX11_office_101 rfl ?_
      refine r_if_ne (tgt := 113) dX11_office_102 (by decide) (fun c38 => ?_) (fun c38 => ?_)
      · rw [if_neg c38] at h
        refine r_iload_n (x := x32) dX11_office_113 rfl ?_
        cases h
        exact r_ireturn dX11_office_114 rfl (by decide) ⟨rfl, rfl⟩
      · rw [if_pos c38] at h
        refine r_iload (x := x33) dX11_office_105 rfl ?_
        obtain ⟨x39, S40, h41, h⟩ := bI_e h
        refine r_cSI (y := mX11_leastOf) (As := [.int x33]) (rest := []) dX11_office_107 qX11_271 kX11_leastOf rfl (okX11_leastOf N x33 S35 x39 S40 h41) (by decide) (by decide) rfl (Nat.le_of_ble_eq_true rfl) ?_
        refine r_goto (tgt := 114) dX11_office_110 (by decide) ?_
        cases h
        exact r_ireturn dX11_office_114 rfl (by decide) ⟨rfl, rfl⟩
    · cases kx4 Ex4 ex4
      exact ⟨rfl, rfl⟩
  · cases kx1 Ex1 ex1
    exact ⟨rfl, rfl⟩
def fX11_cold_43 (N : Nat) (v1 : Int32) (v2 : Int32) (v3 : Int32) (v4 : Int32) (v5 : Int32) : Nat → Int32 → Int32 → PS → Option (Int32 × Int32 × PS)
  | 0, _, _, _ => none
  | n + 1, v6, v7, S =>
    (if v2 ≤ v7 then
      some (v6, v7, S)
    else
      lt ((if ((v5 >>> (v7 &&& 31)) &&& 1) = 1 then 1 else 0) : Int32) fun x16 =>
      lt ((if x16 = 0 then (10 - v3) else v3) : Int32) fun x18 =>
      lt ((v6 * x18) : Int32) fun x19 =>
      lt ((if x16 = 0 then 2 else 1) : Int32) fun x21 =>
      bV (fX3_passHour N x21 S) fun S23 =>
      lt (v7 + 1 : Int32) fun x25 =>
      fX11_cold_43 N v1 v2 v3 v4 v5 n x19 x25 S23)
set_option maxHeartbeats 4000000 in
set_option maxRecDepth 100000 in
theorem okX11_cold_43 (N : Nat) (v1 : Int32) (v2 : Int32) (v3 : Int32) (v4 : Int32) (v5 : Int32) (Q : OQ) (u : Nat) (hu : u ≤ 8) : ∀ (n : Nat) (v6 : Int32) (v7 : Int32) (S : PS) (y6 : Int32) (y7 : Int32) (T : PS), fX11_cold_43 N v1 v2 v3 v4 v5 n v6 v7 S = some (y6, y7, T) → WP [] mX11_cold 7 8 Q 108 [some (.ref 0), some (.int v1), some (.int v2), some (.int v3), some (.int v4), some (.int v5), some (.int y6), some (.int y7), none] [] T u → WP [] mX11_cold 7 8 Q 43 [some (.ref 0), some (.int v1), some (.int v2), some (.int v3), some (.int v4), some (.int v5), some (.int v6), some (.int v7), none] [] S u := by
  intro n
  induction n with
  | zero => intro v6 v7 S y6 y7 T h; rw [fX11_cold_43] at h; cases h
  | succ n ih =>
    intro v6 v7 S y6 y7 T h k0
    rw [fX11_cold_43] at h
    refine r_iload (x := v7) dX11_cold_43 rfl ?_
    refine r_iload_n (x := v2) dX11_cold_45 rfl ?_
    refine r_icmp_ge (tgt := 108) dX11_cold_46 (by decide) (fun c14 => ?_) (fun c14 => ?_)
    · rw [if_pos c14] at h
      cases h
      exact k0
    · rw [if_neg c14] at h
      refine r_iload (x := v5) dX11_cold_49 rfl ?_
      refine r_iload (x := v7) dX11_cold_51 rfl ?_
      refine r_ishr dX11_cold_53 ?_
      refine r_iconst (v := 1) dX11_cold_54 rfl ?_
      refine r_iand dX11_cold_55 ?_
      refine r_iconst (v := 1) dX11_cold_56 rfl ?_
      obtain ⟨x16, hx16⟩ : ∃ y : Int32, y = ((if ((v5 >>> (v7 &&& 31)) &&& 1) = 1 then 1 else 0) : Int32) := ⟨_, rfl⟩
      replace h := lt_e hx16 h
      have keyx16 : WP [] mX11_cold 7 8 Q 65 [some (.ref 0), some (.int v1), some (.int v2), some (.int v3), some (.int v4), some (.int v5), some (.int v6), some (.int v7), none] (.int x16 :: []) S u := by
        refine r_istore (L' := [some (.ref 0), some (.int v1), some (.int v2), some (.int v3), some (.int v4), some (.int v5), some (.int v6), some (.int v7), some (.int x16)]) dX11_cold_65 (Nat.le_of_ble_eq_true rfl) rfl rfl ?_
        refine r_iload (x := v6) dX11_cold_67 rfl ?_
        refine r_iload (x := x16) dX11_cold_69 rfl ?_
        obtain ⟨x18, hx18⟩ : ∃ y : Int32, y = ((if x16 = 0 then (10 - v3) else v3) : Int32) := ⟨_, rfl⟩
        replace h := lt_e hx18 h
        have keyx18 : WP [] mX11_cold 7 8 Q 82 [some (.ref 0), some (.int v1), some (.int v2), some (.int v3), some (.int v4), some (.int v5), some (.int v6), some (.int v7), some (.int x16)] (.int x18 :: [.int v6]) S u := by
          refine r_imul dX11_cold_82 ?_
          refine r_topi (fun x19 hx19 => ?_)
          replace h := lt_e hx19 h
          refine r_istore (L' := [some (.ref 0), some (.int v1), some (.int v2), some (.int v3), some (.int v4), some (.int v5), some (.int x19), some (.int v7), some (.int x16)]) dX11_cold_83 (Nat.le_of_ble_eq_true rfl) rfl rfl ?_
          refine r_aload_n (x := 0) dX11_cold_85 rfl ?_
          refine r_getfield (o := 0) (v := .ref 5) dX11_cold_86 lX11_29 ck0 nC0 rfl ?_
          refine r_iload (x := x16) dX11_cold_89 rfl ?_
          obtain ⟨x21, hx21⟩ : ∃ y : Int32, y = ((if x16 = 0 then 2 else 1) : Int32) := ⟨_, rfl⟩
          replace h := lt_e hx21 h
          have keyx21 : WP [] mX11_cold 7 8 Q 99 [some (.ref 0), some (.int v1), some (.int v2), some (.int v3), some (.int v4), some (.int v5), some (.int x19), some (.int v7), some (.int x16)] (.int x21 :: [.ref 5]) S u := by
            obtain ⟨S23, h24, h⟩ := bV_e h
            refine r_cVV (y := mX3_passHour) (As := [.int x21]) (rest := []) dX11_cold_99 qX11_295 kX3_passHour rfl ob5 vc3 rfl (okX3_passHour N x21 S S23 h24) (by decide) hu rfl (Nat.le_of_ble_eq_true rfl) ?_
            obtain ⟨x25, hx25⟩ : ∃ y : Int32, y = (v7 + 1 : Int32) := ⟨_, rfl⟩
            replace h := lt_e hx25 h
            refine r_iinc (x := v7) (v := x25) (L' := [some (.ref 0), some (.int v1), some (.int v2), some (.int v3), some (.int v4), some (.int v5), some (.int x19), some (.int x25), some (.int x16)]) dX11_cold_102 rfl (by rw [hx25]; rfl) (Nat.le_of_ble_eq_true rfl) rfl rfl ?_
            refine r_goto (tgt := 43) dX11_cold_105 (by decide) ?_
            refine r_drop [true, true, true, true, true, true, true, true, false] rfl ?_
            exact ih _ _ _ _ _ _ h k0
          refine r_if_eq (tgt := 98) dX11_cold_91 (by decide) (fun c20 => ?_) (fun c20 => ?_)
          · refine r_iconst (v := 2) dX11_cold_98 rfl ?_
            exact r_tope (by rw [hx21, if_pos c20]) keyx21
          · refine r_iconst (v := 1) dX11_cold_94 rfl ?_
            refine r_goto (tgt := 99) dX11_cold_95 (by decide) ?_
            exact r_tope (by rw [hx21, if_neg c20]) keyx21
        refine r_if_eq (tgt := 78) dX11_cold_71 (by decide) (fun c17 => ?_) (fun c17 => ?_)
        · refine r_bipush (v := 10) dX11_cold_78 rfl ?_
          refine r_iload_n (x := v3) dX11_cold_80 rfl ?_
          refine r_isub dX11_cold_81 ?_
          exact r_tope (by rw [hx18, if_pos c17]) keyx18
        · refine r_iload_n (x := v3) dX11_cold_74 rfl ?_
          refine r_goto (tgt := 82) dX11_cold_75 (by decide) ?_
          exact r_tope (by rw [hx18, if_neg c17]) keyx18
      refine r_icmp_ne (tgt := 64) dX11_cold_57 (by decide) (fun c15 => ?_) (fun c15 => ?_)
      · refine r_iconst (v := 0) dX11_cold_64 rfl ?_
        exact r_tope (by rw [hx16, if_neg c15]) keyx16
      · refine r_iconst (v := 1) dX11_cold_60 rfl ?_
        refine r_goto (tgt := 65) dX11_cold_61 (by decide) ?_
        exact r_tope (by rw [hx16, if_pos c15]) keyx16
def fX11_cold_24 (N : Nat) (v1 : Int32) (v2 : Int32) (v3 : Int32) : Nat → Int32 → Int32 → PS → Option (Int32 × Int32 × PS)
  | 0, _, _, _ => none
  | n + 1, v4, v5, S =>
    (if (1 <<< (v2 &&& 31)) ≤ v5 then
      some (v4, v5, S)
    else
      bV (fX11_lookAhead N 0 S) fun S12 =>
      bT (fX11_cold_43 N v1 v2 v3 v4 v5 N 1 0 S12) fun q26 =>
      lt (q26.1 : Int32) fun x27 =>
      lt (q26.2.1 : Int32) fun x28 =>
      lt (q26.2.2 : PS) fun S29 =>
      gd (inr v1 9) <|
      (if (S29.1 28 (ix v1)) ≤ 0 then
        lt (v5 + 1 : Int32) fun x34 =>
        fX11_cold_24 N v1 v2 v3 n v4 x34 S29
      else
        lt ((v4 + x27) : Int32) fun x35 =>
        lt (v5 + 1 : Int32) fun x36 =>
        fX11_cold_24 N v1 v2 v3 n x35 x36 S29))
set_option maxHeartbeats 4000000 in
set_option maxRecDepth 100000 in
theorem okX11_cold_24 (N : Nat) (v1 : Int32) (v2 : Int32) (v3 : Int32) (Q : OQ) (u : Nat) (hu : u ≤ 8) : ∀ (n : Nat) (v4 : Int32) (v5 : Int32) (S : PS) (y4 : Int32) (y5 : Int32) (T : PS), fX11_cold_24 N v1 v2 v3 n v4 v5 S = some (y4, y5, T) → WP [] mX11_cold 7 8 Q 133 [some (.ref 0), some (.int v1), some (.int v2), some (.int v3), some (.int y4), some (.int y5), none, none, none] [] T u → WP [] mX11_cold 7 8 Q 24 [some (.ref 0), some (.int v1), some (.int v2), some (.int v3), some (.int v4), some (.int v5), none, none, none] [] S u := by
  intro n
  induction n with
  | zero => intro v4 v5 S y4 y5 T h; rw [fX11_cold_24] at h; cases h
  | succ n ih =>
    intro v4 v5 S y4 y5 T h k0
    rw [fX11_cold_24] at h
    refine r_iload (x := v5) dX11_cold_24 rfl ?_
    refine r_iconst (v := 1) dX11_cold_26 rfl ?_
    refine r_iload_n (x := v2) dX11_cold_27 rfl ?_
    refine r_ishl dX11_cold_28 ?_
    refine r_icmp_ge (tgt := 133) dX11_cold_29 (by decide) (fun c10 => ?_) (fun c10 => ?_)
    · rw [if_pos c10] at h
      cases h
      exact k0
    · rw [if_neg c10] at h
      refine r_iconst (v := 1) dX11_cold_32 rfl ?_
      refine r_istore (L' := [some (.ref 0), some (.int v1), some (.int v2), some (.int v3), some (.int v4), some (.int v5), some (.int 1), none, none]) dX11_cold_33 (Nat.le_of_ble_eq_true rfl) rfl rfl ?_
      refine r_aload_n (x := 0) dX11_cold_35 rfl ?_
      refine r_iconst (v := 0) dX11_cold_36 rfl ?_
      obtain ⟨S12, h13, h⟩ := bV_e h
      refine r_cVV (y := mX11_lookAhead) (As := [.int 0]) (rest := []) dX11_cold_37 qX11_217 kX11_lookAhead rfl ob0 vc11 rfl (okX11_lookAhead N 0 S S12 h13) (by decide) hu rfl (Nat.le_of_ble_eq_true rfl) ?_
      refine r_iconst (v := 0) dX11_cold_40 rfl ?_
      refine r_istore (L' := [some (.ref 0), some (.int v1), some (.int v2), some (.int v3), some (.int v4), some (.int v5), some (.int 1), some (.int 0), none]) dX11_cold_41 (Nat.le_of_ble_eq_true rfl) rfl rfl ?_
      obtain ⟨⟨x27, x28, S29⟩, h31, h⟩ := bT_e h
      dsimp only at h
      replace h := pl_s (pl_s (pl_s (h)))
      refine okX11_cold_43 N v1 v2 v3 v4 v5 Q u hu _ _ _ _ _ _ _ h31 ?_
      refine r_aload_n (x := 0) dX11_cold_108 rfl ?_
      refine r_getfield (o := 0) (v := .ref 5) dX11_cold_109 lX11_29 ck0 nC0 rfl ?_
      refine r_getfield (o := 5) (v := .ref 28) dX11_cold_112 lX11_208 ck5 nC5 rfl ?_
      refine r_iload_n (x := v1) dX11_cold_115 rfl ?_
      obtain ⟨g32, h⟩ := gd_e h
      refine r_iaload (a := 28) dX11_cold_116 ck28 nC28 (inr_IX g32) ?_
      refine r_if_le (tgt := 127) dX11_cold_117 (by decide) (fun c33 => ?_) (fun c33 => ?_)
      · rw [if_pos c33] at h
        obtain ⟨x34, hx34⟩ : ∃ y : Int32, y = (v5 + 1 : Int32) := ⟨_, rfl⟩
        replace h := lt_e hx34 h
        refine r_iinc (x := v5) (v := x34) (L' := [some (.ref 0), some (.int v1), some (.int v2), some (.int v3), some (.int v4), some (.int x34), some (.int x27), some (.int x28), none]) dX11_cold_127 rfl (by rw [hx34]; rfl) (Nat.le_of_ble_eq_true rfl) rfl rfl ?_
        refine r_goto (tgt := 24) dX11_cold_130 (by decide) ?_
        refine r_drop [true, true, true, true, true, true, false, false, true] rfl ?_
        exact ih _ _ _ _ _ _ h k0
      · rw [if_neg c33] at h
        refine r_iload (x := v4) dX11_cold_120 rfl ?_
        refine r_iload (x := x27) dX11_cold_122 rfl ?_
        refine r_iadd dX11_cold_124 ?_
        refine r_topi (fun x35 hx35 => ?_)
        replace h := lt_e hx35 h
        refine r_istore (L' := [some (.ref 0), some (.int v1), some (.int v2), some (.int v3), some (.int x35), some (.int v5), some (.int x27), some (.int x28), none]) dX11_cold_125 (Nat.le_of_ble_eq_true rfl) rfl rfl ?_
        obtain ⟨x36, hx36⟩ : ∃ y : Int32, y = (v5 + 1 : Int32) := ⟨_, rfl⟩
        replace h := lt_e hx36 h
        refine r_iinc (x := v5) (v := x36) (L' := [some (.ref 0), some (.int v1), some (.int v2), some (.int v3), some (.int x35), some (.int x36), some (.int x27), some (.int x28), none]) dX11_cold_127 rfl (by rw [hx36]; rfl) (Nat.le_of_ble_eq_true rfl) rfl rfl ?_
        refine r_goto (tgt := 24) dX11_cold_130 (by decide) ?_
        refine r_drop [true, true, true, true, true, true, false, false, true] rfl ?_
        exact ih _ _ _ _ _ _ h k0
def fX11_cold (N : Nat) (p0 : Int32) (p1 : Int32) (p2 : Int32) (S : PS) : Option ((Int32 ⊕ String) × PS) :=
  bU (fX11_needCup N p0 S) fun S2 =>
  bU (fX11_needRange N p1 1 5 S2) fun S5 =>
  bU (fX11_needRange N p2 0 10 S5) fun S8 =>
  bT (fX11_cold_24 N p0 p1 p2 N 0 0 S8) fun q37 =>
  lt (q37.1 : Int32) fun x38 =>
  lt (q37.2.1 : Int32) fun x39 =>
  lt (q37.2.2 : PS) fun S40 =>
  some (.inl x38, S40)
set_option maxHeartbeats 4000000 in
set_option maxRecDepth 100000 in
theorem okX11_cold (N : Nat) (p0 : Int32) (p1 : Int32) (p2 : Int32) (S : PS) (r : Int32 ⊕ String) (T : PS) (h : fX11_cold N p0 p1 p2 S = some (r, T)) : CT mX11_cold 7 8 [.ref 0, .int p0, .int p1, .int p2] S (qE r T) := by
  refine ct_of [some (.ref 0), some (.int p0), some (.int p1), some (.int p2), none, none, none, none, none] rfl (fun _ => rfl) (fun _ => Nat.le_of_ble_eq_true rfl) ?_
  unfold fX11_cold at h
  refine r_aload_n (x := 0) dX11_cold_0 rfl ?_
  refine r_iload_n (x := p0) dX11_cold_1 rfl ?_
  obtain ⟨x1, S2, h3, hx1, kx1⟩ := bU_e h
  refine r_cVU (y := mX11_needCup) (As := [.int p0]) (rest := []) dX11_cold_2 qX11_156 kX11_needCup rfl ob0 vc11 rfl (okX11_needCup N p0 S x1 S2 h3) (by decide) (by decide) rfl (Nat.le_of_ble_eq_true rfl) (fun ex1 => ?_) (fun Ex1 ex1 => ?_)
  · replace h := hx1 ex1
    refine r_iload_n (x := p1) dX11_cold_5 rfl ?_
    refine r_iconst (v := 1) dX11_cold_6 rfl ?_
    refine r_iconst (v := 5) dX11_cold_7 rfl ?_
    obtain ⟨x4, S5, h6, hx4, kx4⟩ := bU_e h
    refine r_cSU (y := mX11_needRange) (As := [.int p1, .int 1, .int 5]) (rest := []) dX11_cold_8 qX11_81 kX11_needRange rfl (okX11_needRange N p1 1 5 S2 x4 S5 h6) (by decide) (by decide) rfl (Nat.le_of_ble_eq_true rfl) (fun ex4 => ?_) (fun Ex4 ex4 => ?_)
    · replace h := hx4 ex4
      refine r_iload_n (x := p2) dX11_cold_11 rfl ?_
      refine r_iconst (v := 0) dX11_cold_12 rfl ?_
      refine r_bipush (v := 10) dX11_cold_13 rfl ?_
      obtain ⟨x7, S8, h9, hx7, kx7⟩ := bU_e h
      refine r_cSU (y := mX11_needRange) (As := [.int p2, .int 0, .int 10]) (rest := []) dX11_cold_15 qX11_81 kX11_needRange rfl (okX11_needRange N p2 0 10 S5 x7 S8 h9) (by decide) (by decide) rfl (Nat.le_of_ble_eq_true rfl) (fun ex7 => ?_) (fun Ex7 ex7 => ?_)
      · replace h := hx7 ex7
        refine r_iconst (v := 0) dX11_cold_18 rfl ?_
        refine r_istore (L' := [some (.ref 0), some (.int p0), some (.int p1), some (.int p2), some (.int 0), none, none, none, none]) dX11_cold_19 (Nat.le_of_ble_eq_true rfl) rfl rfl ?_
        refine r_iconst (v := 0) dX11_cold_21 rfl ?_
        refine r_istore (L' := [some (.ref 0), some (.int p0), some (.int p1), some (.int p2), some (.int 0), some (.int 0), none, none, none]) dX11_cold_22 (Nat.le_of_ble_eq_true rfl) rfl rfl ?_
        obtain ⟨⟨x38, x39, S40⟩, h42, h⟩ := bT_e h
        dsimp only at h
        replace h := pl_s (pl_s (pl_s (h)))
        refine okX11_cold_24 N p0 p1 p2 (qE r T) 3 (by decide) _ _ _ _ _ _ _ h42 ?_
        refine r_iload (x := x38) dX11_cold_133 rfl ?_
        cases h
        exact r_ireturn dX11_cold_135 rfl (by decide) ⟨rfl, rfl⟩
      · cases kx7 Ex7 ex7
        exact ⟨rfl, rfl⟩
    · cases kx4 Ex4 ex4
      exact ⟨rfl, rfl⟩
  · cases kx1 Ex1 ex1
    exact ⟨rfl, rfl⟩
def fX11_game_46 (N : Nat) (v1 : Int32) (v2 : Int32) (v3 : Int32) : Nat → Int32 → Int32 → Int32 → PS → Option (Int32 × Int32 × Int32 × PS)
  | 0, _, _, _, _ => none
  | n + 1, v4, v5, v6, S =>
    (if 4 ≤ v6 then
      some (v4, v5, v6, S)
    else
      gd (inr v6 4) <|
      gd (inr (v6 ^^^ 2) 4) <|
      (if (S.1 24 (ix v6)) < (S.1 24 (ix (v6 ^^^ 2))) then
        lt (v6 + 1 : Int32) fun x18 =>
        fX11_game_46 N v1 v2 v3 n v4 v5 x18 S
      else
        gd (inr v6 4) <|
        gd (inr (v6 ^^^ 1) 4) <|
        (if (S.1 25 (ix v6)) < (S.1 25 (ix (v6 ^^^ 1))) then
          lt (v6 + 1 : Int32) fun x22 =>
          fX11_game_46 N v1 v2 v3 n v4 v5 x22 S
        else
          lt (v4 + 1 : Int32) fun x23 =>
          (if v5 = (-1) then
            lt ((((v6 >>> ((1 : Int32) &&& 31)) * 10) + (v6 &&& 1)) : Int32) fun x26 =>
            lt (v6 + 1 : Int32) fun x27 =>
            fX11_game_46 N v1 v2 v3 n x23 x26 x27 S
          else
            lt (v6 + 1 : Int32) fun x25 =>
            fX11_game_46 N v1 v2 v3 n x23 v5 x25 S))))
set_option maxHeartbeats 4000000 in
set_option maxRecDepth 100000 in
theorem okX11_game_46 (N : Nat) (v1 : Int32) (v2 : Int32) (v3 : Int32) (Q : OQ) (u : Nat) (hu : u ≤ 8) : ∀ (n : Nat) (v4 : Int32) (v5 : Int32) (v6 : Int32) (S : PS) (y4 : Int32) (y5 : Int32) (y6 : Int32) (T : PS), fX11_game_46 N v1 v2 v3 n v4 v5 v6 S = some (y4, y5, y6, T) → WP [] mX11_game 7 8 Q 119 [some (.ref 0), some (.int v1), some (.int v2), some (.int v3), some (.int y4), some (.int y5), some (.int y6)] [] T u → WP [] mX11_game 7 8 Q 46 [some (.ref 0), some (.int v1), some (.int v2), some (.int v3), some (.int v4), some (.int v5), some (.int v6)] [] S u := by
  intro n
  induction n with
  | zero => intro v4 v5 v6 S y4 y5 y6 T h; rw [fX11_game_46] at h; cases h
  | succ n ih =>
    intro v4 v5 v6 S y4 y5 y6 T h k0
    rw [fX11_game_46] at h
    refine r_iload (x := v6) dX11_game_46 rfl ?_
    refine r_iconst (v := 4) dX11_game_48 rfl ?_
    refine r_icmp_ge (tgt := 119) dX11_game_49 (by decide) (fun c14 => ?_) (fun c14 => ?_)
    · rw [if_pos c14] at h
      cases h
      exact k0
    · rw [if_neg c14] at h
      refine r_aload_n (x := 0) dX11_game_52 rfl ?_
      refine r_getfield (o := 0) (v := .ref 24) dX11_game_53 lX11_51 ck0 nC0 rfl ?_
      refine r_iload (x := v6) dX11_game_56 rfl ?_
      obtain ⟨g15, h⟩ := gd_e h
      refine r_iaload (a := 24) dX11_game_58 ck24 nC24 (inr_IX g15) ?_
      refine r_aload_n (x := 0) dX11_game_59 rfl ?_
      refine r_getfield (o := 0) (v := .ref 24) dX11_game_60 lX11_51 ck0 nC0 rfl ?_
      refine r_iload (x := v6) dX11_game_63 rfl ?_
      refine r_iconst (v := 2) dX11_game_65 rfl ?_
      refine r_ixor dX11_game_66 ?_
      obtain ⟨g16, h⟩ := gd_e h
      refine r_iaload (a := 24) dX11_game_67 ck24 nC24 (inr_IX g16) ?_
      refine r_icmp_lt (tgt := 113) dX11_game_68 (by decide) (fun c17 => ?_) (fun c17 => ?_)
      · rw [if_pos c17] at h
        obtain ⟨x18, hx18⟩ : ∃ y : Int32, y = (v6 + 1 : Int32) := ⟨_, rfl⟩
        replace h := lt_e hx18 h
        refine r_iinc (x := v6) (v := x18) (L' := [some (.ref 0), some (.int v1), some (.int v2), some (.int v3), some (.int v4), some (.int v5), some (.int x18)]) dX11_game_113 rfl (by rw [hx18]; rfl) (Nat.le_of_ble_eq_true rfl) rfl rfl ?_
        refine r_goto (tgt := 46) dX11_game_116 (by decide) ?_
        exact ih _ _ _ _ _ _ _ _ h k0
      · rw [if_neg c17] at h
        refine r_aload_n (x := 0) dX11_game_71 rfl ?_
        refine r_getfield (o := 0) (v := .ref 25) dX11_game_72 lX11_54 ck0 nC0 rfl ?_
        refine r_iload (x := v6) dX11_game_75 rfl ?_
        obtain ⟨g19, h⟩ := gd_e h
        refine r_iaload (a := 25) dX11_game_77 ck25 nC25 (inr_IX g19) ?_
        refine r_aload_n (x := 0) dX11_game_78 rfl ?_
        refine r_getfield (o := 0) (v := .ref 25) dX11_game_79 lX11_54 ck0 nC0 rfl ?_
        refine r_iload (x := v6) dX11_game_82 rfl ?_
        refine r_iconst (v := 1) dX11_game_84 rfl ?_
        refine r_ixor dX11_game_85 ?_
        obtain ⟨g20, h⟩ := gd_e h
        refine r_iaload (a := 25) dX11_game_86 ck25 nC25 (inr_IX g20) ?_
        refine r_icmp_lt (tgt := 113) dX11_game_87 (by decide) (fun c21 => ?_) (fun c21 => ?_)
        · rw [if_pos c21] at h
          obtain ⟨x22, hx22⟩ : ∃ y : Int32, y = (v6 + 1 : Int32) := ⟨_, rfl⟩
          replace h := lt_e hx22 h
          refine r_iinc (x := v6) (v := x22) (L' := [some (.ref 0), some (.int v1), some (.int v2), some (.int v3), some (.int v4), some (.int v5), some (.int x22)]) dX11_game_113 rfl (by rw [hx22]; rfl) (Nat.le_of_ble_eq_true rfl) rfl rfl ?_
          refine r_goto (tgt := 46) dX11_game_116 (by decide) ?_
          exact ih _ _ _ _ _ _ _ _ h k0
        · rw [if_neg c21] at h
          obtain ⟨x23, hx23⟩ : ∃ y : Int32, y = (v4 + 1 : Int32) := ⟨_, rfl⟩
          replace h := lt_e hx23 h
          refine r_iinc (x := v4) (v := x23) (L' := [some (.ref 0), some (.int v1), some (.int v2), some (.int v3), some (.int x23), some (.int v5), some (.int v6)]) dX11_game_90 rfl (by rw [hx23]; rfl) (Nat.le_of_ble_eq_true rfl) rfl rfl ?_
          refine r_iload (x := v5) dX11_game_93 rfl ?_
          refine r_iconst (v := (-1)) dX11_game_95 rfl ?_
          refine r_icmp_ne (tgt := 113) dX11_game_96 (by decide) (fun c24 => ?_) (fun c24 => ?_)
          · rw [if_neg c24] at h
            obtain ⟨x25, hx25⟩ : ∃ y : Int32, y = (v6 + 1 : Int32) := ⟨_, rfl⟩
            replace h := lt_e hx25 h
            refine r_iinc (x := v6) (v := x25) (L' := [some (.ref 0), some (.int v1), some (.int v2), some (.int v3), some (.int x23), some (.int v5), some (.int x25)]) dX11_game_113 rfl (by rw [hx25]; rfl) (Nat.le_of_ble_eq_true rfl) rfl rfl ?_
            refine r_goto (tgt := 46) dX11_game_116 (by decide) ?_
            exact ih _ _ _ _ _ _ _ _ h k0
          · rw [if_pos c24] at h
            refine r_iload (x := v6) dX11_game_99 rfl ?_
            refine r_iconst (v := 1) dX11_game_101 rfl ?_
            refine r_ishr dX11_game_102 ?_
            refine r_bipush (v := 10) dX11_game_103 rfl ?_
            refine r_imul dX11_game_105 ?_
            refine r_iload (x := v6) dX11_game_106 rfl ?_
            refine r_iconst (v := 1) dX11_game_108 rfl ?_
            refine r_iand dX11_game_109 ?_
            refine r_iadd dX11_game_110 ?_
            refine r_topi (fun x26 hx26 => ?_)
            replace h := lt_e hx26 h
            refine r_istore (L' := [some (.ref 0), some (.int v1), some (.int v2), some (.int v3), some (.int x23), some (.int x26), some (.int v6)]) dX11_game_111 (Nat.le_of_ble_eq_true rfl) rfl rfl ?_
            obtain ⟨x27, hx27⟩ : ∃ y : Int32, y = (v6 + 1 : Int32) := ⟨_, rfl⟩
            replace h := lt_e hx27 h
            refine r_iinc (x := v6) (v := x27) (L' := [some (.ref 0), some (.int v1), some (.int v2), some (.int v3), some (.int x23), some (.int x26), some (.int x27)]) dX11_game_113 rfl (by rw [hx27]; rfl) (Nat.le_of_ble_eq_true rfl) rfl rfl ?_
            refine r_goto (tgt := 46) dX11_game_116 (by decide) ?_
            exact ih _ _ _ _ _ _ _ _ h k0
def fX11_game (N : Nat) (p0 : Int32) (p1 : Int32) (p2 : Int32) (S : PS) : Option ((Int32 ⊕ String) × PS) :=
  bU (fX11_needCup N p0 S) fun S2 =>
  bU (fX11_needCup N p1 S2) fun S5 =>
  bU (fX11_needWhat N p2 1 S5) fun S8 =>
  (if p0 = p1 then
    some (.inr nIAE, S8)
  else
    bV (fX11_playAll N p0 p1 S8) fun S12 =>
    bT (fX11_game_46 N p0 p1 p2 N 0 (-1) 0 S12) fun q28 =>
    lt (q28.1 : Int32) fun x29 =>
    lt (q28.2.1 : Int32) fun x30 =>
    lt (q28.2.2.1 : Int32) fun x31 =>
    lt (q28.2.2.2 : PS) fun S32 =>
    lt ((if p2 = 0 then x29 else x30) : Int32) fun x36 =>
    some (.inl x36, S32))
set_option maxHeartbeats 4000000 in
set_option maxRecDepth 100000 in
theorem okX11_game (N : Nat) (p0 : Int32) (p1 : Int32) (p2 : Int32) (S : PS) (r : Int32 ⊕ String) (T : PS) (h : fX11_game N p0 p1 p2 S = some (r, T)) : CT mX11_game 7 8 [.ref 0, .int p0, .int p1, .int p2] S (qE r T) := by
  refine ct_of [some (.ref 0), some (.int p0), some (.int p1), some (.int p2), none, none, none] rfl (fun _ => rfl) (fun _ => Nat.le_of_ble_eq_true rfl) ?_
  unfold fX11_game at h
  refine r_aload_n (x := 0) dX11_game_0 rfl ?_
  refine r_iload_n (x := p0) dX11_game_1 rfl ?_
  obtain ⟨x1, S2, h3, hx1, kx1⟩ := bU_e h
  refine r_cVU (y := mX11_needCup) (As := [.int p0]) (rest := []) dX11_game_2 qX11_156 kX11_needCup rfl ob0 vc11 rfl (okX11_needCup N p0 S x1 S2 h3) (by decide) (by decide) rfl (Nat.le_of_ble_eq_true rfl) (fun ex1 => ?_) (fun Ex1 ex1 => ?_)
  · replace h := hx1 ex1
    refine r_aload_n (x := 0) dX11_game_5 rfl ?_
    refine r_iload_n (x := p1) dX11_game_6 rfl ?_
    obtain ⟨x4, S5, h6, hx4, kx4⟩ := bU_e h
    refine r_cVU (y := mX11_needCup) (As := [.int p1]) (rest := []) dX11_game_7 qX11_156 kX11_needCup rfl ob0 vc11 rfl (okX11_needCup N p1 S2 x4 S5 h6) (by decide) (by decide) rfl (Nat.le_of_ble_eq_true rfl) (fun ex4 => ?_) (fun Ex4 ex4 => ?_)
    · replace h := hx4 ex4
      refine r_iload_n (x := p2) dX11_game_10 rfl ?_
      refine r_iconst (v := 1) dX11_game_11 rfl ?_
      obtain ⟨x7, S8, h9, hx7, kx7⟩ := bU_e h
      refine r_cSU (y := mX11_needWhat) (As := [.int p2, .int 1]) (rest := []) dX11_game_12 qX11_109 kX11_needWhat rfl (okX11_needWhat N p2 1 S5 x7 S8 h9) (by decide) (by decide) rfl (Nat.le_of_ble_eq_true rfl) (fun ex7 => ?_) (fun Ex7 ex7 => ?_)
      · replace h := hx7 ex7
        refine r_iload_n (x := p0) dX11_game_15 rfl ?_
        refine r_iload_n (x := p1) dX11_game_16 rfl ?_
        refine r_icmp_ne (tgt := 31) dX11_game_17 (by decide) (fun c10 => ?_) (fun c10 => ?_)
        · rw [if_neg c10] at h
          refine r_aload_n (x := 0) dX11_game_31 rfl ?_
          refine r_iload_n (x := p0) dX11_game_32 rfl ?_
          refine r_iload_n (x := p1) dX11_game_33 rfl ?_
          obtain ⟨S12, h13, h⟩ := bV_e h
          refine r_cVV (y := mX11_playAll) (As := [.int p0, .int p1]) (rest := []) dX11_game_34 qX11_300 kX11_playAll rfl ob0 vc11 rfl (okX11_playAll N p0 p1 S8 S12 h13) (by decide) (by decide) rfl (Nat.le_of_ble_eq_true rfl) ?_
          refine r_iconst (v := 0) dX11_game_37 rfl ?_
          refine r_istore (L' := [some (.ref 0), some (.int p0), some (.int p1), some (.int p2), some (.int 0), none, none]) dX11_game_38 (Nat.le_of_ble_eq_true rfl) rfl rfl ?_
          refine r_iconst (v := (-1)) dX11_game_40 rfl ?_
          refine r_istore (L' := [some (.ref 0), some (.int p0), some (.int p1), some (.int p2), some (.int 0), some (.int (-1)), none]) dX11_game_41 (Nat.le_of_ble_eq_true rfl) rfl rfl ?_
          refine r_iconst (v := 0) dX11_game_43 rfl ?_
          refine r_istore (L' := [some (.ref 0), some (.int p0), some (.int p1), some (.int p2), some (.int 0), some (.int (-1)), some (.int 0)]) dX11_game_44 (Nat.le_of_ble_eq_true rfl) rfl rfl ?_
          obtain ⟨⟨x29, x30, x31, S32⟩, h34, h⟩ := bT_e h
          dsimp only at h
          replace h := pl_s (pl_s (pl_s (pl_s (h))))
          refine okX11_game_46 N p0 p1 p2 (qE r T) 3 (by decide) _ _ _ _ _ _ _ _ _ h34 ?_
          refine r_iload_n (x := p2) dX11_game_119 rfl ?_
          obtain ⟨x36, hx36⟩ : ∃ y : Int32, y = ((if p2 = 0 then x29 else x30) : Int32) := ⟨_, rfl⟩
          replace h := lt_e hx36 h
          have keyx36 : WP [] mX11_game 7 8 (qE r T) 130 [some (.ref 0), some (.int p0), some (.int p1), some (.int p2), some (.int x29), some (.int x30), some (.int x31)] (.int x36 :: []) S32 3 := by
            cases h
            exact r_ireturn dX11_game_130 rfl (by decide) ⟨rfl, rfl⟩
          refine r_if_ne (tgt := 128) dX11_game_120 (by decide) (fun c35 => ?_) (fun c35 => ?_)
          · refine r_iload (x := x30) dX11_game_128 rfl ?_
            exact r_tope (by rw [hx36, if_neg c35]) keyx36
          · refine r_iload (x := x29) dX11_game_123 rfl ?_
            refine r_goto (tgt := 130) dX11_game_125 (by decide) ?_
            exact r_tope (by rw [hx36, if_pos c35]) keyx36
        · rw [if_pos c10] at h
          cases h
          exact r_thrI (is := 298) (text := "both are one") rfl dX11_game_20 dX11_game_23 dX11_game_24 dX11_game_27 dX11_game_30 (by decide) (by decide) (by decide) (Nat.le_of_ble_eq_true rfl) ⟨rfl, rfl⟩
      · cases kx7 Ex7 ex7
        exact ⟨rfl, rfl⟩
    · cases kx4 Ex4 ex4
      exact ⟨rfl, rfl⟩
  · cases kx1 Ex1 ex1
    exact ⟨rfl, rfl⟩
def fX11_years_26 (N : Nat) (v1 : Int32) (v2 : Int32) (v3 : Int32) : Nat → Int32 → PS → Option (Int32 × PS)
  | 0, _, _ => none
  | n + 1, v4, S =>
    (if v2 ≤ v4 then
      some (v4, S)
    else
      bV (fX11_drawAct N  S) fun S13 =>
      bV (fX3_goOn N 1 S13) fun S16 =>
      lt (v4 + 1 : Int32) fun x18 =>
      fX11_years_26 N v1 v2 v3 n x18 S16)
set_option maxHeartbeats 4000000 in
set_option maxRecDepth 100000 in
theorem okX11_years_26 (N : Nat) (v1 : Int32) (v2 : Int32) (v3 : Int32) (Q : OQ) (u : Nat) (hu : u ≤ 8) : ∀ (n : Nat) (v4 : Int32) (S : PS) (y4 : Int32) (T : PS), fX11_years_26 N v1 v2 v3 n v4 S = some (y4, T) → WP [] mX11_years 7 8 Q 50 [some (.ref 0), some (.int v1), some (.int v2), some (.int v3), some (.int y4)] [] T u → WP [] mX11_years 7 8 Q 26 [some (.ref 0), some (.int v1), some (.int v2), some (.int v3), some (.int v4)] [] S u := by
  intro n
  induction n with
  | zero => intro v4 S y4 T h; rw [fX11_years_26] at h; cases h
  | succ n ih =>
    intro v4 S y4 T h k0
    rw [fX11_years_26] at h
    refine r_iload (x := v4) dX11_years_26 rfl ?_
    refine r_iload_n (x := v2) dX11_years_28 rfl ?_
    refine r_icmp_ge (tgt := 50) dX11_years_29 (by decide) (fun c11 => ?_) (fun c11 => ?_)
    · rw [if_pos c11] at h
      cases h
      exact k0
    · rw [if_neg c11] at h
      refine r_aload_n (x := 0) dX11_years_32 rfl ?_
      obtain ⟨S13, h14, h⟩ := bV_e h
      refine r_cVV (y := mX11_drawAct) (As := []) (rest := []) dX11_years_33 qX11_303 kX11_drawAct rfl ob0 vc11 rfl (okX11_drawAct N  S S13 h14) (by decide) hu rfl (Nat.le_of_ble_eq_true rfl) ?_
      refine r_aload_n (x := 0) dX11_years_36 rfl ?_
      refine r_getfield (o := 0) (v := .ref 5) dX11_years_37 lX11_29 ck0 nC0 rfl ?_
      refine r_iconst (v := 1) dX11_years_40 rfl ?_
      obtain ⟨S16, h17, h⟩ := bV_e h
      refine r_cVV (y := mX3_goOn) (As := [.int 1]) (rest := []) dX11_years_41 qX11_191 kX3_goOn rfl ob5 vc3 rfl (okX3_goOn N 1 S13 S16 h17) (by decide) hu rfl (Nat.le_of_ble_eq_true rfl) ?_
      obtain ⟨x18, hx18⟩ : ∃ y : Int32, y = (v4 + 1 : Int32) := ⟨_, rfl⟩
      replace h := lt_e hx18 h
      refine r_iinc (x := v4) (v := x18) (L' := [some (.ref 0), some (.int v1), some (.int v2), some (.int v3), some (.int x18)]) dX11_years_44 rfl (by rw [hx18]; rfl) (Nat.le_of_ble_eq_true rfl) rfl rfl ?_
      refine r_goto (tgt := 26) dX11_years_47 (by decide) ?_
      exact ih _ _ _ _ h k0
def fX11_years (N : Nat) (p0 : Int32) (p1 : Int32) (p2 : Int32) (S : PS) : Option ((Int32 ⊕ String) × PS) :=
  bU (fX11_needWhat N p2 2 S) fun S2 =>
  bU (fX11_needRange N p1 0 200 S2) fun S5 =>
  lt ((u2 S5.1 0 11 p0, S5.2) : PS) fun S7 =>
  bV (fX11_lookAhead N 0 S7) fun S9 =>
  bT (fX11_years_26 N p0 p1 p2 N 0 S9) fun q19 =>
  lt (q19.1 : Int32) fun x20 =>
  lt (q19.2 : PS) fun S21 =>
  (if p2 = 0 then
    bI (fX3_timesOfAll N  S21) fun x25 S26 =>
    some (.inl x25, S26)
  else if p2 = 1 then
    lt ((S21.2.2 5 4) : Nat) fun o29 =>
    gd (obj o29 2) <|
    bI (fX2_fillOfAll N o29 S21) fun x30 S31 =>
    some (.inl x30, S31)
  else 
    bI (fX3_neverTipped N  S21) fun x34 S35 =>
    bI (fJ6_bitCount_0f7a4 N x34 S35) fun x37 S38 =>
    some (.inl x37, S38))
set_option maxHeartbeats 4000000 in
set_option maxRecDepth 100000 in
theorem okX11_years (N : Nat) (p0 : Int32) (p1 : Int32) (p2 : Int32) (S : PS) (r : Int32 ⊕ String) (T : PS) (h : fX11_years N p0 p1 p2 S = some (r, T)) : CT mX11_years 7 8 [.ref 0, .int p0, .int p1, .int p2] S (qE r T) := by
  refine ct_of [some (.ref 0), some (.int p0), some (.int p1), some (.int p2), none] rfl (fun _ => rfl) (fun _ => Nat.le_of_ble_eq_true rfl) ?_
  unfold fX11_years at h
  refine r_iload_n (x := p2) dX11_years_0 rfl ?_
  refine r_iconst (v := 2) dX11_years_1 rfl ?_
  obtain ⟨x1, S2, h3, hx1, kx1⟩ := bU_e h
  refine r_cSU (y := mX11_needWhat) (As := [.int p2, .int 2]) (rest := []) dX11_years_2 qX11_109 kX11_needWhat rfl (okX11_needWhat N p2 2 S x1 S2 h3) (by decide) (by decide) rfl (Nat.le_of_ble_eq_true rfl) (fun ex1 => ?_) (fun Ex1 ex1 => ?_)
  · replace h := hx1 ex1
    refine r_iload_n (x := p1) dX11_years_5 rfl ?_
    refine r_iconst (v := 0) dX11_years_6 rfl ?_
    refine r_sipush (v := 200) dX11_years_7 rfl ?_
    obtain ⟨x4, S5, h6, hx4, kx4⟩ := bU_e h
    refine r_cSU (y := mX11_needRange) (As := [.int p1, .int 0, .int 200]) (rest := []) dX11_years_10 qX11_81 kX11_needRange rfl (okX11_needRange N p1 0 200 S2 x4 S5 h6) (by decide) (by decide) rfl (Nat.le_of_ble_eq_true rfl) (fun ex4 => ?_) (fun Ex4 ex4 => ?_)
    · replace h := hx4 ex4
      refine r_aload_n (x := 0) dX11_years_13 rfl ?_
      refine r_iload_n (x := p0) dX11_years_14 rfl ?_
      refine r_putI dX11_years_15 lX11_65 ck0 nC0 ?_
      refine r_topS (fun S7 hS7 => ?_)
      replace h := lt_e hS7 h
      refine r_aload_n (x := 0) dX11_years_18 rfl ?_
      refine r_iconst (v := 0) dX11_years_19 rfl ?_
      obtain ⟨S9, h10, h⟩ := bV_e h
      refine r_cVV (y := mX11_lookAhead) (As := [.int 0]) (rest := []) dX11_years_20 qX11_217 kX11_lookAhead rfl ob0 vc11 rfl (okX11_lookAhead N 0 S7 S9 h10) (by decide) (by decide) rfl (Nat.le_of_ble_eq_true rfl) ?_
      refine r_iconst (v := 0) dX11_years_23 rfl ?_
      refine r_istore (L' := [some (.ref 0), some (.int p0), some (.int p1), some (.int p2), some (.int 0)]) dX11_years_24 (Nat.le_of_ble_eq_true rfl) rfl rfl ?_
      obtain ⟨⟨x20, S21⟩, h23, h⟩ := bT_e h
      dsimp only at h
      replace h := pl_s (pl_s (h))
      refine okX11_years_26 N p0 p1 p2 (qE r T) 2 (by decide) _ _ _ _ _ h23 ?_
      refine r_iload_n (x := p2) dX11_years_50 rfl ?_
      by_cases c24 : p2 = 0
      · rw [if_pos c24] at h
        refine r_lookup (tgt := 76) (off := 25) dX11_years_51 (by decide) (by rw [c24]; first | done | rfl) (by decide) ?_
        refine r_aload_n (x := 0) dX11_years_76 rfl ?_
        refine r_getfield (o := 0) (v := .ref 5) dX11_years_77 lX11_29 ck0 nC0 rfl ?_
        obtain ⟨x25, S26, h27, h⟩ := bI_e h
        refine r_cVI (y := mX3_timesOfAll) (As := []) (rest := []) dX11_years_80 qX11_306 kX3_timesOfAll rfl ob5 vc3 rfl (okX3_timesOfAll N  S21 x25 S26 h27) (by decide) (by decide) rfl (Nat.le_of_ble_eq_true rfl) ?_
        cases h
        exact r_ireturn dX11_years_83 rfl (by decide) ⟨rfl, rfl⟩
      rw [if_neg c24] at h
      by_cases c28 : p2 = 1
      · rw [if_pos c28] at h
        refine r_lookup (tgt := 84) (off := 33) dX11_years_51 (by decide) (by rw [c28]; first | done | rfl) (by decide) ?_
        refine r_aload_n (x := 0) dX11_years_84 rfl ?_
        refine r_getfield (o := 0) (v := .ref 5) dX11_years_85 lX11_29 ck0 nC0 rfl ?_
        refine r_getfield (o := 5) (v := .ref (S21.2.2 5 4)) dX11_years_88 lX11_220 ck5 nC5 rfl ?_
        refine r_topr (fun o29 ho29 => ?_)
        replace h := lt_e ho29 h
        obtain ⟨g33, h⟩ := gd_e h
        obtain ⟨x30, S31, h32, h⟩ := bI_e h
        refine r_cVI (y := mX2_fillOfAll) (As := []) (rest := []) dX11_years_91 qX11_126 kX2_fillOfAll rfl g33 vc2 rfl (okX2_fillOfAll N o29 S21 x30 S31 h32) (by decide) (by decide) rfl (Nat.le_of_ble_eq_true rfl) ?_
        cases h
        exact r_ireturn dX11_years_94 rfl (by decide) ⟨rfl, rfl⟩
      rw [if_neg c28] at h
      refine r_lookup (tgt := 95) (off := 44) dX11_years_51 (by decide) (by show Op.lookupswitch.offset [(0, 25), (1, 33)] 44 _ = _; rw [lv_osw (a := 0) c24 rfl, lv_osw (a := 1) c28 rfl]; rfl) (by decide) ?_
      refine r_aload_n (x := 0) dX11_years_95 rfl ?_
      refine r_getfield (o := 0) (v := .ref 5) dX11_years_96 lX11_29 ck0 nC0 rfl ?_
      obtain ⟨x34, S35, h36, h⟩ := bI_e h
      refine r_cVI (y := mX3_neverTipped) (As := []) (rest := []) dX11_years_99 qX11_309 kX3_neverTipped rfl ob5 vc3 rfl (okX3_neverTipped N  S21 x34 S35 h36) (by decide) (by decide) rfl (Nat.le_of_ble_eq_true rfl) ?_
      obtain ⟨x37, S38, h39, h⟩ := bI_e h
      refine r_cSI (y := mJ6_bitCount_0f7a4) (As := [.int x34]) (rest := []) dX11_years_102 qX11_312 kJ6_bitCount_0f7a4 rfl (okJ6_bitCount_0f7a4 N x34 S35 x37 S38 h39) (by decide) (by decide) rfl (Nat.le_of_ble_eq_true rfl) ?_
      cases h
      exact r_ireturn dX11_years_105 rfl (by decide) ⟨rfl, rfl⟩
    · cases kx4 Ex4 ex4
      exact ⟨rfl, rfl⟩
  · cases kx1 Ex1 ex1
    exact ⟨rfl, rfl⟩
def fX11_later (N : Nat) (p0 : Int32) (p1 : Int32) (S : PS) : Option ((Int32 ⊕ String) × PS) :=
  bU (fX11_needWhat N p1 2 S) fun S2 =>
  bU (fX11_needRange N p0 0 200 S2) fun S5 =>
  bV (fX11_lookAhead N p0 S5) fun S8 =>
  (if p1 = 0 then
    lt ((S8.2.2 5 4) : Nat) fun o11 =>
    gd (obj o11 2) <|
    bI (fX11_mostOf N (sr o11 1) S8) fun x13 S14 =>
    some (.inl x13, S14)
  else if p1 = 1 then
    lt ((S8.2.2 5 4) : Nat) fun o17 =>
    bI (fX11_dryCups N o17 S8) fun x18 S19 =>
    some (.inl x18, S19)
  else 
    some (.inl (S8.1 5 6), S8))
set_option maxHeartbeats 4000000 in
set_option maxRecDepth 100000 in
theorem okX11_later (N : Nat) (p0 : Int32) (p1 : Int32) (S : PS) (r : Int32 ⊕ String) (T : PS) (h : fX11_later N p0 p1 S = some (r, T)) : CT mX11_later 7 8 [.ref 0, .int p0, .int p1] S (qE r T) := by
  refine ct_of [some (.ref 0), some (.int p0), some (.int p1)] rfl (fun _ => rfl) (fun _ => Nat.le_of_ble_eq_true rfl) ?_
  unfold fX11_later at h
  refine r_iload_n (x := p1) dX11_later_0 rfl ?_
  refine r_iconst (v := 2) dX11_later_1 rfl ?_
  obtain ⟨x1, S2, h3, hx1, kx1⟩ := bU_e h
  refine r_cSU (y := mX11_needWhat) (As := [.int p1, .int 2]) (rest := []) dX11_later_2 qX11_109 kX11_needWhat rfl (okX11_needWhat N p1 2 S x1 S2 h3) (by decide) (by decide) rfl (Nat.le_of_ble_eq_true rfl) (fun ex1 => ?_) (fun Ex1 ex1 => ?_)
  · replace h := hx1 ex1
    refine r_iload_n (x := p0) dX11_later_5 rfl ?_
    refine r_iconst (v := 0) dX11_later_6 rfl ?_
    refine r_sipush (v := 200) dX11_later_7 rfl ?_
    obtain ⟨x4, S5, h6, hx4, kx4⟩ := bU_e h
    refine r_cSU (y := mX11_needRange) (As := [.int p0, .int 0, .int 200]) (rest := []) dX11_later_10 qX11_81 kX11_needRange rfl (okX11_needRange N p0 0 200 S2 x4 S5 h6) (by decide) (by decide) rfl (Nat.le_of_ble_eq_true rfl) (fun ex4 => ?_) (fun Ex4 ex4 => ?_)
    · replace h := hx4 ex4
      refine r_aload_n (x := 0) dX11_later_13 rfl ?_
      refine r_iload_n (x := p0) dX11_later_14 rfl ?_
      obtain ⟨S8, h9, h⟩ := bV_e h
      refine r_cVV (y := mX11_lookAhead) (As := [.int p0]) (rest := []) dX11_later_15 qX11_217 kX11_lookAhead rfl ob0 vc11 rfl (okX11_lookAhead N p0 S5 S8 h9) (by decide) (by decide) rfl (Nat.le_of_ble_eq_true rfl) ?_
      refine r_iload_n (x := p1) dX11_later_18 rfl ?_
      by_cases c10 : p1 = 0
      · rw [if_pos c10] at h
        refine r_lookup (tgt := 44) (off := 25) dX11_later_19 (by decide) (by rw [c10]; first | done | rfl) (by decide) ?_
        refine r_aload_n (x := 0) dX11_later_44 rfl ?_
        refine r_aload_n (x := 0) dX11_later_45 rfl ?_
        refine r_getfield (o := 0) (v := .ref 5) dX11_later_46 lX11_29 ck0 nC0 rfl ?_
        refine r_getfield (o := 5) (v := .ref (S8.2.2 5 4)) dX11_later_49 lX11_220 ck5 nC5 rfl ?_
        refine r_topr (fun o11 ho11 => ?_)
        replace h := lt_e ho11 h
        obtain ⟨g12, h⟩ := gd_e h
        refine r_getfield (o := o11) (v := .ref (sr o11 1)) dX11_later_52 lX11_162 g12.1 g12.2 rfl ?_
        obtain ⟨x13, S14, h15, h⟩ := bI_e h
        refine r_cVI (y := mX11_mostOf) (As := [.ref (sr o11 1)]) (rest := []) dX11_later_55 qX11_317 kX11_mostOf rfl ob0 vc11 rfl (okX11_mostOf N (sr o11 1) S8 x13 S14 h15) (by decide) (by decide) rfl (Nat.le_of_ble_eq_true rfl) ?_
        cases h
        exact r_ireturn dX11_later_58 rfl (by decide) ⟨rfl, rfl⟩
      rw [if_neg c10] at h
      by_cases c16 : p1 = 1
      · rw [if_pos c16] at h
        refine r_lookup (tgt := 59) (off := 40) dX11_later_19 (by decide) (by rw [c16]; first | done | rfl) (by decide) ?_
        refine r_aload_n (x := 0) dX11_later_59 rfl ?_
        refine r_aload_n (x := 0) dX11_later_60 rfl ?_
        refine r_getfield (o := 0) (v := .ref 5) dX11_later_61 lX11_29 ck0 nC0 rfl ?_
        refine r_getfield (o := 5) (v := .ref (S8.2.2 5 4)) dX11_later_64 lX11_220 ck5 nC5 rfl ?_
        refine r_topr (fun o17 ho17 => ?_)
        replace h := lt_e ho17 h
        obtain ⟨x18, S19, h20, h⟩ := bI_e h
        refine r_cVI (y := mX11_dryCups) (As := [.ref o17]) (rest := []) dX11_later_67 qX11_321 kX11_dryCups rfl ob0 vc11 rfl (okX11_dryCups N o17 S8 x18 S19 h20) (by decide) (by decide) rfl (Nat.le_of_ble_eq_true rfl) ?_
        cases h
        exact r_ireturn dX11_later_70 rfl (by decide) ⟨rfl, rfl⟩
      rw [if_neg c16] at h
      refine r_lookup (tgt := 71) (off := 52) dX11_later_19 (by decide) (by show Op.lookupswitch.offset [(0, 25), (1, 40)] 52 _ = _; rw [lv_osw (a := 0) c10 rfl, lv_osw (a := 1) c16 rfl]; rfl) (by decide) ?_
      refine r_aload_n (x := 0) dX11_later_71 rfl ?_
      refine r_getfield (o := 0) (v := .ref 5) dX11_later_72 lX11_29 ck0 nC0 rfl ?_
      refine r_getfield (o := 5) (v := .int (S8.1 5 6)) dX11_later_75 lX11_325 ck5 nC5 rfl ?_
      cases h
      exact r_ireturn dX11_later_78 rfl (by decide) ⟨rfl, rfl⟩
    · cases kx4 Ex4 ex4
      exact ⟨rfl, rfl⟩
  · cases kx1 Ex1 ex1
    exact ⟨rfl, rfl⟩
def fX11_oftenest (N : Nat) (p0 : Int32) (S : PS) : Option ((Int32 ⊕ String) × PS) :=
  bU (fX11_needRange N p0 1 200 S) fun S2 =>
  bV (fX11_lookAhead N p0 S2) fun S5 =>
  bI (fX11_mostOf N 28 S5) fun x7 S8 =>
  some (.inl x7, S8)
set_option maxHeartbeats 4000000 in
set_option maxRecDepth 100000 in
theorem okX11_oftenest (N : Nat) (p0 : Int32) (S : PS) (r : Int32 ⊕ String) (T : PS) (h : fX11_oftenest N p0 S = some (r, T)) : CT mX11_oftenest 7 8 [.ref 0, .int p0] S (qE r T) := by
  refine ct_of [some (.ref 0), some (.int p0)] rfl (fun _ => rfl) (fun _ => Nat.le_of_ble_eq_true rfl) ?_
  unfold fX11_oftenest at h
  refine r_iload_n (x := p0) dX11_oftenest_0 rfl ?_
  refine r_iconst (v := 1) dX11_oftenest_1 rfl ?_
  refine r_sipush (v := 200) dX11_oftenest_2 rfl ?_
  obtain ⟨x1, S2, h3, hx1, kx1⟩ := bU_e h
  refine r_cSU (y := mX11_needRange) (As := [.int p0, .int 1, .int 200]) (rest := []) dX11_oftenest_5 qX11_81 kX11_needRange rfl (okX11_needRange N p0 1 200 S x1 S2 h3) (by decide) (by decide) rfl (Nat.le_of_ble_eq_true rfl) (fun ex1 => ?_) (fun Ex1 ex1 => ?_)
  · replace h := hx1 ex1
    refine r_aload_n (x := 0) dX11_oftenest_8 rfl ?_
    refine r_iload_n (x := p0) dX11_oftenest_9 rfl ?_
    obtain ⟨S5, h6, h⟩ := bV_e h
    refine r_cVV (y := mX11_lookAhead) (As := [.int p0]) (rest := []) dX11_oftenest_10 qX11_217 kX11_lookAhead rfl ob0 vc11 rfl (okX11_lookAhead N p0 S2 S5 h6) (by decide) (by decide) rfl (Nat.le_of_ble_eq_true rfl) ?_
    refine r_aload_n (x := 0) dX11_oftenest_13 rfl ?_
    refine r_aload_n (x := 0) dX11_oftenest_14 rfl ?_
    refine r_getfield (o := 0) (v := .ref 5) dX11_oftenest_15 lX11_29 ck0 nC0 rfl ?_
    refine r_getfield (o := 5) (v := .ref 28) dX11_oftenest_18 lX11_208 ck5 nC5 rfl ?_
    obtain ⟨x7, S8, h9, h⟩ := bI_e h
    refine r_cVI (y := mX11_mostOf) (As := [.ref 28]) (rest := []) dX11_oftenest_21 qX11_317 kX11_mostOf rfl ob0 vc11 rfl (okX11_mostOf N 28 S5 x7 S8 h9) (by decide) (by decide) rfl (Nat.le_of_ble_eq_true rfl) ?_
    cases h
    exact r_ireturn dX11_oftenest_24 rfl (by decide) ⟨rfl, rfl⟩
  · cases kx1 Ex1 ex1
    exact ⟨rfl, rfl⟩
def fX11_round_7 (N : Nat)  : Nat → Int32 → PS → Option (Nat × Int32 × PS)
  | 0, _, _ => none
  | n + 1, v1, S =>
    (if 200 < v1 then
      some (0, v1, S)
    else
      bV (fX3_goOn N 1 S) fun S6 =>
      lt ((S6.2.2 5 4) : Nat) fun o8 =>
      gd (obj o8 2) <|
      bI (fX2_filledAs N o8 18 S6) fun x9 S10 =>
      (if x9 = 0 then
        lt (v1 + 1 : Int32) fun x14 =>
        fX11_round_7 N  n x14 S10
      else
        some (1, v1, S10)))
set_option maxHeartbeats 4000000 in
set_option maxRecDepth 100000 in
theorem okX11_round_7 (N : Nat)  (Q : OQ) (u : Nat) (hu : u ≤ 0) : ∀ (n : Nat) (v1 : Int32) (S : PS) (tg : Nat) (y1 : Int32) (T : PS), fX11_round_7 N  n v1 S = some (tg, y1, T) → (tg = 0 → WP [] mX11_round 6 0 Q 50 [some (.ref 0), some (.int y1)] [] T u) → (tg = 1 → WP [] mX11_round 6 0 Q 42 [some (.ref 0), some (.int y1)] [] T u) → WP [] mX11_round 6 0 Q 7 [some (.ref 0), some (.int v1)] [] S u := by
  intro n
  induction n with
  | zero => intro v1 S tg y1 T h; rw [fX11_round_7] at h; cases h
  | succ n ih =>
    intro v1 S tg y1 T h k0 k1
    rw [fX11_round_7] at h
    refine r_iload_n (x := v1) dX11_round_7 rfl ?_
    refine r_sipush (v := 200) dX11_round_8 rfl ?_
    refine r_icmp_gt (tgt := 50) dX11_round_11 (by decide) (fun c4 => ?_) (fun c4 => ?_)
    · rw [if_pos c4] at h
      cases h
      exact k0 rfl
    · rw [if_neg c4] at h
      refine r_aload_n (x := 0) dX11_round_14 rfl ?_
      refine r_getfield (o := 0) (v := .ref 5) dX11_round_15 lX11_29 ck0 nC0 rfl ?_
      refine r_iconst (v := 1) dX11_round_18 rfl ?_
      obtain ⟨S6, h7, h⟩ := bV_e h
      refine r_cVV (y := mX3_goOn) (As := [.int 1]) (rest := []) dX11_round_19 qX11_191 kX3_goOn rfl ob5 vc3 rfl (okX3_goOn N 1 S S6 h7) (by decide) hu rfl (Nat.le_of_ble_eq_true rfl) ?_
      refine r_aload_n (x := 0) dX11_round_22 rfl ?_
      refine r_getfield (o := 0) (v := .ref 5) dX11_round_23 lX11_29 ck0 nC0 rfl ?_
      refine r_getfield (o := 5) (v := .ref (S6.2.2 5 4)) dX11_round_26 lX11_220 ck5 nC5 rfl ?_
      refine r_topr (fun o8 ho8 => ?_)
      replace h := lt_e ho8 h
      refine r_aload_n (x := 0) dX11_round_29 rfl ?_
      refine r_getfield (o := 0) (v := .ref 3) dX11_round_30 lX11_19 ck0 nC0 rfl ?_
      refine r_getfield (o := 3) (v := .ref 18) dX11_round_33 lX11_116 ck3 nC3 rfl ?_
      obtain ⟨g12, h⟩ := gd_e h
      obtain ⟨x9, S10, h11, h⟩ := bI_e h
      refine r_cVI (y := mX2_filledAs) (As := [.ref 18]) (rest := []) dX11_round_36 qX11_328 kX2_filledAs rfl g12 vc2 rfl (okX2_filledAs N o8 18 S6 x9 S10 h11) (by decide) hu rfl (Nat.le_of_ble_eq_true rfl) ?_
      refine r_if_eq (tgt := 44) dX11_round_39 (by decide) (fun c13 => ?_) (fun c13 => ?_)
      · rw [if_pos c13] at h
        obtain ⟨x14, hx14⟩ : ∃ y : Int32, y = (v1 + 1 : Int32) := ⟨_, rfl⟩
        replace h := lt_e hx14 h
        refine r_iinc (x := v1) (v := x14) (L' := [some (.ref 0), some (.int x14)]) dX11_round_44 rfl (by rw [hx14]; rfl) (Nat.le_of_ble_eq_true rfl) rfl rfl ?_
        refine r_goto (tgt := 7) dX11_round_47 (by decide) ?_
        exact ih _ _ _ _ _ h k0 k1
      · rw [if_neg c13] at h
        cases h
        exact k1 rfl
def fX11_round (N : Nat)  (S : PS) : Option (Int32 × PS) :=
  bV (fX11_lookAhead N 0 S) fun S2 =>
  bT (fX11_round_7 N  N 1 S2) fun q15 =>
  lt (q15.1 : Nat) fun t18 =>
  lt (q15.2.1 : Int32) fun x16 =>
  lt (q15.2.2 : PS) fun S17 =>
  (if t18 = 0 then
    some ((-1), S17)
  else 
    some (x16, S17))
set_option maxHeartbeats 4000000 in
set_option maxRecDepth 100000 in
theorem okX11_round (N : Nat)  (S : PS) (r : Int32) (T : PS) (h : fX11_round N  S = some (r, T)) : CT mX11_round 6 0 [.ref 0] S (qI r T) := by
  refine ct_of [some (.ref 0), none] rfl (fun _ => rfl) (fun _ => Nat.le_of_ble_eq_true rfl) ?_
  unfold fX11_round at h
  refine r_aload_n (x := 0) dX11_round_0 rfl ?_
  refine r_iconst (v := 0) dX11_round_1 rfl ?_
  obtain ⟨S2, h3, h⟩ := bV_e h
  refine r_cVV (y := mX11_lookAhead) (As := [.int 0]) (rest := []) dX11_round_2 qX11_217 kX11_lookAhead rfl ob0 vc11 rfl (okX11_lookAhead N 0 S S2 h3) (by decide) (Nat.zero_le _) rfl (Nat.le_of_ble_eq_true rfl) ?_
  refine r_iconst (v := 1) dX11_round_5 rfl ?_
  refine r_istore_n (L' := [some (.ref 0), some (.int 1)]) dX11_round_6 (Nat.le_of_ble_eq_true rfl) rfl rfl ?_
  obtain ⟨⟨t18, x16, S17⟩, h19, h⟩ := bT_e h
  dsimp only at h
  replace h := pl_s (pl_s (pl_s (h)))
  refine okX11_round_7 N  (qI r T) 0 (Nat.zero_le _) _ _ _ _ _ _ h19 (fun et18 => ?_) (fun et18 => ?_)
  · rw [if_pos et18] at h
    refine r_iconst (v := (-1)) dX11_round_50 rfl ?_
    cases h
    exact r_ireturn dX11_round_51 rfl (Nat.zero_le _) ⟨rfl, rfl⟩
  · rw [if_neg (by rw [et18]; decide)] at h
    refine r_iload_n (x := x16) dX11_round_42 rfl ?_
    cases h
    exact r_ireturn dX11_round_43 rfl (Nat.zero_le _) ⟨rfl, rfl⟩
def fX11_pause_14 (N : Nat) (v1 : Int32) : Nat → Int32 → Int32 → PS → Option (Nat × Int32 × Int32 × PS)
  | 0, _, _, _ => none
  | n + 1, v2, v3, S =>
    (if 200 < v3 then
      some (0, v2, v3, S)
    else
      bV (fX3_goOn N 1 S) fun S9 =>
      bI (fX11_has N (S9.1 5 5) v1 S9) fun x11 S12 =>
      (if x11 = 0 then
        lt (v3 + 1 : Int32) fun x15 =>
        fX11_pause_14 N v1 n v2 x15 S12
      else
        (if v2 = (-1) then
          lt (v3 + 1 : Int32) fun x17 =>
          fX11_pause_14 N v1 n v3 x17 S12
        else
          some (1, v2, v3, S12))))
set_option maxHeartbeats 4000000 in
set_option maxRecDepth 100000 in
theorem okX11_pause_14 (N : Nat) (v1 : Int32) (Q : OQ) (u : Nat) (hu : u ≤ 8) : ∀ (n : Nat) (v2 : Int32) (v3 : Int32) (S : PS) (tg : Nat) (y2 : Int32) (y3 : Int32) (T : PS), fX11_pause_14 N v1 n v2 v3 S = some (tg, y2, y3, T) → (tg = 0 → WP [] mX11_pause 7 8 Q 60 [some (.ref 0), some (.int v1), some (.int y2), some (.int y3)] [] T u) → (tg = 1 → WP [] mX11_pause 7 8 Q 48 [some (.ref 0), some (.int v1), some (.int y2), some (.int y3)] [] T u) → WP [] mX11_pause 7 8 Q 14 [some (.ref 0), some (.int v1), some (.int v2), some (.int v3)] [] S u := by
  intro n
  induction n with
  | zero => intro v2 v3 S tg y2 y3 T h; rw [fX11_pause_14] at h; cases h
  | succ n ih =>
    intro v2 v3 S tg y2 y3 T h k0 k1
    rw [fX11_pause_14] at h
    refine r_iload_n (x := v3) dX11_pause_14 rfl ?_
    refine r_sipush (v := 200) dX11_pause_15 rfl ?_
    refine r_icmp_gt (tgt := 60) dX11_pause_18 (by decide) (fun c7 => ?_) (fun c7 => ?_)
    · rw [if_pos c7] at h
      cases h
      exact k0 rfl
    · rw [if_neg c7] at h
      refine r_aload_n (x := 0) dX11_pause_21 rfl ?_
      refine r_getfield (o := 0) (v := .ref 5) dX11_pause_22 lX11_29 ck0 nC0 rfl ?_
      refine r_iconst (v := 1) dX11_pause_25 rfl ?_
      obtain ⟨S9, h10, h⟩ := bV_e h
      refine r_cVV (y := mX3_goOn) (As := [.int 1]) (rest := []) dX11_pause_26 qX11_191 kX3_goOn rfl ob5 vc3 rfl (okX3_goOn N 1 S S9 h10) (by decide) hu rfl (Nat.le_of_ble_eq_true rfl) ?_
      refine r_aload_n (x := 0) dX11_pause_29 rfl ?_
      refine r_getfield (o := 0) (v := .ref 5) dX11_pause_30 lX11_29 ck0 nC0 rfl ?_
      refine r_getfield (o := 5) (v := .int (S9.1 5 5)) dX11_pause_33 lX11_221 ck5 nC5 rfl ?_
      refine r_iload_n (x := v1) dX11_pause_36 rfl ?_
      obtain ⟨x11, S12, h13, h⟩ := bI_e h
      refine r_cSI (y := mX11_has) (As := [.int (S9.1 5 5), .int v1]) (rest := []) dX11_pause_37 qX11_332 kX11_has rfl (okX11_has N (S9.1 5 5) v1 S9 x11 S12 h13) (by decide) hu rfl (Nat.le_of_ble_eq_true rfl) ?_
      refine r_if_eq (tgt := 54) dX11_pause_40 (by decide) (fun c14 => ?_) (fun c14 => ?_)
      · rw [if_pos c14] at h
        obtain ⟨x15, hx15⟩ : ∃ y : Int32, y = (v3 + 1 : Int32) := ⟨_, rfl⟩
        replace h := lt_e hx15 h
        refine r_iinc (x := v3) (v := x15) (L' := [some (.ref 0), some (.int v1), some (.int v2), some (.int x15)]) dX11_pause_54 rfl (by rw [hx15]; rfl) (Nat.le_of_ble_eq_true rfl) rfl rfl ?_
        refine r_goto (tgt := 14) dX11_pause_57 (by decide) ?_
        exact ih _ _ _ _ _ _ _ h k0 k1
      · rw [if_neg c14] at h
        refine r_iload_n (x := v2) dX11_pause_43 rfl ?_
        refine r_iconst (v := (-1)) dX11_pause_44 rfl ?_
        refine r_icmp_eq (tgt := 52) dX11_pause_45 (by decide) (fun c16 => ?_) (fun c16 => ?_)
        · rw [if_pos c16] at h
          refine r_iload_n (x := v3) dX11_pause_52 rfl ?_
          refine r_istore_n (L' := [some (.ref 0), some (.int v1), some (.int v3), some (.int v3)]) dX11_pause_53 (Nat.le_of_ble_eq_true rfl) rfl rfl ?_
          obtain ⟨x17, hx17⟩ : ∃ y : Int32, y = (v3 + 1 : Int32) := ⟨_, rfl⟩
          replace h := lt_e hx17 h
          refine r_iinc (x := v3) (v := x17) (L' := [some (.ref 0), some (.int v1), some (.int v3), some (.int x17)]) dX11_pause_54 rfl (by rw [hx17]; rfl) (Nat.le_of_ble_eq_true rfl) rfl rfl ?_
          refine r_goto (tgt := 14) dX11_pause_57 (by decide) ?_
          exact ih _ _ _ _ _ _ _ h k0 k1
        · rw [if_neg c16] at h
          cases h
          exact k1 rfl
def fX11_pause (N : Nat) (p0 : Int32) (S : PS) : Option ((Int32 ⊕ String) × PS) :=
  bU (fX11_needCup N p0 S) fun S2 =>
  bV (fX11_lookAhead N 0 S2) fun S5 =>
  bT (fX11_pause_14 N p0 N (-1) 1 S5) fun q18 =>
  lt (q18.1 : Nat) fun t22 =>
  lt (q18.2.1 : Int32) fun x19 =>
  lt (q18.2.2.1 : Int32) fun x20 =>
  lt (q18.2.2.2 : PS) fun S21 =>
  (if t22 = 0 then
    some (.inl (-1), S21)
  else 
    some (.inl (x20 - x19), S21))
set_option maxHeartbeats 4000000 in
set_option maxRecDepth 100000 in
theorem okX11_pause (N : Nat) (p0 : Int32) (S : PS) (r : Int32 ⊕ String) (T : PS) (h : fX11_pause N p0 S = some (r, T)) : CT mX11_pause 7 8 [.ref 0, .int p0] S (qE r T) := by
  refine ct_of [some (.ref 0), some (.int p0), none, none] rfl (fun _ => rfl) (fun _ => Nat.le_of_ble_eq_true rfl) ?_
  unfold fX11_pause at h
  refine r_aload_n (x := 0) dX11_pause_0 rfl ?_
  refine r_iload_n (x := p0) dX11_pause_1 rfl ?_
  obtain ⟨x1, S2, h3, hx1, kx1⟩ := bU_e h
  refine r_cVU (y := mX11_needCup) (As := [.int p0]) (rest := []) dX11_pause_2 qX11_156 kX11_needCup rfl ob0 vc11 rfl (okX11_needCup N p0 S x1 S2 h3) (by decide) (by decide) rfl (Nat.le_of_ble_eq_true rfl) (fun ex1 => ?_) (fun Ex1 ex1 => ?_)
  · replace h := hx1 ex1
    refine r_iconst (v := (-1)) dX11_pause_5 rfl ?_
    refine r_istore_n (L' := [some (.ref 0), some (.int p0), some (.int (-1)), none]) dX11_pause_6 (Nat.le_of_ble_eq_true rfl) rfl rfl ?_
    refine r_aload_n (x := 0) dX11_pause_7 rfl ?_
    refine r_iconst (v := 0) dX11_pause_8 rfl ?_
    obtain ⟨S5, h6, h⟩ := bV_e h
    refine r_cVV (y := mX11_lookAhead) (As := [.int 0]) (rest := []) dX11_pause_9 qX11_217 kX11_lookAhead rfl ob0 vc11 rfl (okX11_lookAhead N 0 S2 S5 h6) (by decide) (by decide) rfl (Nat.le_of_ble_eq_true rfl) ?_
    refine r_iconst (v := 1) dX11_pause_12 rfl ?_
    refine r_istore_n (L' := [some (.ref 0), some (.int p0), some (.int (-1)), some (.int 1)]) dX11_pause_13 (Nat.le_of_ble_eq_true rfl) rfl rfl ?_
    obtain ⟨⟨t22, x19, x20, S21⟩, h23, h⟩ := bT_e h
    dsimp only at h
    replace h := pl_s (pl_s (pl_s (pl_s (h))))
    refine okX11_pause_14 N p0 (qE r T) 1 (by decide) _ _ _ _ _ _ _ _ h23 (fun et22 => ?_) (fun et22 => ?_)
    · rw [if_pos et22] at h
      refine r_iconst (v := (-1)) dX11_pause_60 rfl ?_
      cases h
      exact r_ireturn dX11_pause_61 rfl (by decide) ⟨rfl, rfl⟩
    · rw [if_neg (by rw [et22]; decide)] at h
      refine r_iload_n (x := x20) dX11_pause_48 rfl ?_
      refine r_iload_n (x := x19) dX11_pause_49 rfl ?_
      refine r_isub dX11_pause_50 ?_
      cases h
      exact r_ireturn dX11_pause_51 rfl (by decide) ⟨rfl, rfl⟩
  · cases kx1 Ex1 ex1
    exact ⟨rfl, rfl⟩
def fX11_toPour_14 (N : Nat) (v1 : Int32) (v2 : Int32) : Nat → Int32 → PS → Option (Nat × Int32 × PS)
  | 0, _, _ => none
  | n + 1, v3, S =>
    (if 50 < v3 then
      some (0, v3, S)
    else
      bV (fX11_lookAhead N 0 S) fun S9 =>
      bV (fX3_fillUp N v1 v3 S9) fun S12 =>
      bV (fX3_goOn N v2 S12) fun S15 =>
      bI (fX11_has N (S15.1 5 5) v1 S15) fun x17 S18 =>
      (if x17 = 0 then
        lt (v3 + 1 : Int32) fun x21 =>
        fX11_toPour_14 N v1 v2 n x21 S18
      else
        some (1, v3, S18)))
set_option maxHeartbeats 4000000 in
set_option maxRecDepth 100000 in
theorem okX11_toPour_14 (N : Nat) (v1 : Int32) (v2 : Int32) (Q : OQ) (u : Nat) (hu : u ≤ 8) : ∀ (n : Nat) (v3 : Int32) (S : PS) (tg : Nat) (y3 : Int32) (T : PS), fX11_toPour_14 N v1 v2 n v3 S = some (tg, y3, T) → (tg = 0 → WP [] mX11_toPour 7 8 Q 64 [some (.ref 0), some (.int v1), some (.int v2), some (.int y3)] [] T u) → (tg = 1 → WP [] mX11_toPour 7 8 Q 56 [some (.ref 0), some (.int v1), some (.int v2), some (.int y3)] [] T u) → WP [] mX11_toPour 7 8 Q 14 [some (.ref 0), some (.int v1), some (.int v2), some (.int v3)] [] S u := by
  intro n
  induction n with
  | zero => intro v3 S tg y3 T h; rw [fX11_toPour_14] at h; cases h
  | succ n ih =>
    intro v3 S tg y3 T h k0 k1
    rw [fX11_toPour_14] at h
    refine r_iload_n (x := v3) dX11_toPour_14 rfl ?_
    refine r_bipush (v := 50) dX11_toPour_15 rfl ?_
    refine r_icmp_gt (tgt := 64) dX11_toPour_17 (by decide) (fun c7 => ?_) (fun c7 => ?_)
    · rw [if_pos c7] at h
      cases h
      exact k0 rfl
    · rw [if_neg c7] at h
      refine r_aload_n (x := 0) dX11_toPour_20 rfl ?_
      refine r_iconst (v := 0) dX11_toPour_21 rfl ?_
      obtain ⟨S9, h10, h⟩ := bV_e h
      refine r_cVV (y := mX11_lookAhead) (As := [.int 0]) (rest := []) dX11_toPour_22 qX11_217 kX11_lookAhead rfl ob0 vc11 rfl (okX11_lookAhead N 0 S S9 h10) (by decide) hu rfl (Nat.le_of_ble_eq_true rfl) ?_
      refine r_aload_n (x := 0) dX11_toPour_25 rfl ?_
      refine r_getfield (o := 0) (v := .ref 5) dX11_toPour_26 lX11_29 ck0 nC0 rfl ?_
      refine r_iload_n (x := v1) dX11_toPour_29 rfl ?_
      refine r_iload_n (x := v3) dX11_toPour_30 rfl ?_
      obtain ⟨S12, h13, h⟩ := bV_e h
      refine r_cVV (y := mX3_fillUp) (As := [.int v1, .int v3]) (rest := []) dX11_toPour_31 qX11_205 kX3_fillUp rfl ob5 vc3 rfl (okX3_fillUp N v1 v3 S9 S12 h13) (by decide) hu rfl (Nat.le_of_ble_eq_true rfl) ?_
      refine r_aload_n (x := 0) dX11_toPour_34 rfl ?_
      refine r_getfield (o := 0) (v := .ref 5) dX11_toPour_35 lX11_29 ck0 nC0 rfl ?_
      refine r_iload_n (x := v2) dX11_toPour_38 rfl ?_
      obtain ⟨S15, h16, h⟩ := bV_e h
      refine r_cVV (y := mX3_goOn) (As := [.int v2]) (rest := []) dX11_toPour_39 qX11_191 kX3_goOn rfl ob5 vc3 rfl (okX3_goOn N v2 S12 S15 h16) (by decide) hu rfl (Nat.le_of_ble_eq_true rfl) ?_
      refine r_aload_n (x := 0) dX11_toPour_42 rfl ?_
      refine r_getfield (o := 0) (v := .ref 5) dX11_toPour_43 lX11_29 ck0 nC0 rfl ?_
      refine r_getfield (o := 5) (v := .int (S15.1 5 5)) dX11_toPour_46 lX11_221 ck5 nC5 rfl ?_
      refine r_iload_n (x := v1) dX11_toPour_49 rfl ?_
      obtain ⟨x17, S18, h19, h⟩ := bI_e h
      refine r_cSI (y := mX11_has) (As := [.int (S15.1 5 5), .int v1]) (rest := []) dX11_toPour_50 qX11_332 kX11_has rfl (okX11_has N (S15.1 5 5) v1 S15 x17 S18 h19) (by decide) hu rfl (Nat.le_of_ble_eq_true rfl) ?_
      refine r_if_eq (tgt := 58) dX11_toPour_53 (by decide) (fun c20 => ?_) (fun c20 => ?_)
      · rw [if_pos c20] at h
        obtain ⟨x21, hx21⟩ : ∃ y : Int32, y = (v3 + 1 : Int32) := ⟨_, rfl⟩
        replace h := lt_e hx21 h
        refine r_iinc (x := v3) (v := x21) (L' := [some (.ref 0), some (.int v1), some (.int v2), some (.int x21)]) dX11_toPour_58 rfl (by rw [hx21]; rfl) (Nat.le_of_ble_eq_true rfl) rfl rfl ?_
        refine r_goto (tgt := 14) dX11_toPour_61 (by decide) ?_
        exact ih _ _ _ _ _ h k0 k1
      · rw [if_neg c20] at h
        cases h
        exact k1 rfl
def fX11_toPour (N : Nat) (p0 : Int32) (p1 : Int32) (S : PS) : Option ((Int32 ⊕ String) × PS) :=
  bU (fX11_needCup N p0 S) fun S2 =>
  bU (fX11_needRange N p1 1 60 S2) fun S5 =>
  bT (fX11_toPour_14 N p0 p1 N 0 S5) fun q22 =>
  lt (q22.1 : Nat) fun t25 =>
  lt (q22.2.1 : Int32) fun x23 =>
  lt (q22.2.2 : PS) fun S24 =>
  (if t25 = 0 then
    some (.inl (-1), S24)
  else 
    some (.inl x23, S24))
set_option maxHeartbeats 4000000 in
set_option maxRecDepth 100000 in
theorem okX11_toPour (N : Nat) (p0 : Int32) (p1 : Int32) (S : PS) (r : Int32 ⊕ String) (T : PS) (h : fX11_toPour N p0 p1 S = some (r, T)) : CT mX11_toPour 7 8 [.ref 0, .int p0, .int p1] S (qE r T) := by
  refine ct_of [some (.ref 0), some (.int p0), some (.int p1), none] rfl (fun _ => rfl) (fun _ => Nat.le_of_ble_eq_true rfl) ?_
  unfold fX11_toPour at h
  refine r_aload_n (x := 0) dX11_toPour_0 rfl ?_
  refine r_iload_n (x := p0) dX11_toPour_1 rfl ?_
  obtain ⟨x1, S2, h3, hx1, kx1⟩ := bU_e h
  refine r_cVU (y := mX11_needCup) (As := [.int p0]) (rest := []) dX11_toPour_2 qX11_156 kX11_needCup rfl ob0 vc11 rfl (okX11_needCup N p0 S x1 S2 h3) (by decide) (by decide) rfl (Nat.le_of_ble_eq_true rfl) (fun ex1 => ?_) (fun Ex1 ex1 => ?_)
  · replace h := hx1 ex1
    refine r_iload_n (x := p1) dX11_toPour_5 rfl ?_
    refine r_iconst (v := 1) dX11_toPour_6 rfl ?_
    refine r_bipush (v := 60) dX11_toPour_7 rfl ?_
    obtain ⟨x4, S5, h6, hx4, kx4⟩ := bU_e h
    refine r_cSU (y := mX11_needRange) (As := [.int p1, .int 1, .int 60]) (rest := []) dX11_toPour_9 qX11_81 kX11_needRange rfl (okX11_needRange N p1 1 60 S2 x4 S5 h6) (by decide) (by decide) rfl (Nat.le_of_ble_eq_true rfl) (fun ex4 => ?_) (fun Ex4 ex4 => ?_)
    · replace h := hx4 ex4
      refine r_iconst (v := 0) dX11_toPour_12 rfl ?_
      refine r_istore_n (L' := [some (.ref 0), some (.int p0), some (.int p1), some (.int 0)]) dX11_toPour_13 (Nat.le_of_ble_eq_true rfl) rfl rfl ?_
      obtain ⟨⟨t25, x23, S24⟩, h26, h⟩ := bT_e h
      dsimp only at h
      replace h := pl_s (pl_s (pl_s (h)))
      refine okX11_toPour_14 N p0 p1 (qE r T) 2 (by decide) _ _ _ _ _ _ h26 (fun et25 => ?_) (fun et25 => ?_)
      · rw [if_pos et25] at h
        refine r_iconst (v := (-1)) dX11_toPour_64 rfl ?_
        cases h
        exact r_ireturn dX11_toPour_65 rfl (by decide) ⟨rfl, rfl⟩
      · rw [if_neg (by rw [et25]; decide)] at h
        refine r_iload_n (x := x23) dX11_toPour_56 rfl ?_
        cases h
        exact r_ireturn dX11_toPour_57 rfl (by decide) ⟨rfl, rfl⟩
    · cases kx4 Ex4 ex4
      exact ⟨rfl, rfl⟩
  · cases kx1 Ex1 ex1
    exact ⟨rfl, rfl⟩
def fX11_chorus_23 (N : Nat) (v1 : Int32) (v2 : Int32) : Nat → Int32 → Int32 → PS → Option (Int32 × Int32 × PS)
  | 0, _, _, _ => none
  | n + 1, v3, v4, S =>
    (if v2 ≤ v4 then
      some (v3, v4, S)
    else
      bV (fX3_goOn N 1 S) fun S12 =>
      (if ((S12.1 5 5) &&& v1) = v1 then
        lt (v3 + 1 : Int32) fun x16 =>
        lt (v4 + 1 : Int32) fun x17 =>
        fX11_chorus_23 N v1 v2 n x16 x17 S12
      else
        lt (v4 + 1 : Int32) fun x15 =>
        fX11_chorus_23 N v1 v2 n v3 x15 S12))
set_option maxHeartbeats 4000000 in
set_option maxRecDepth 100000 in
theorem okX11_chorus_23 (N : Nat) (v1 : Int32) (v2 : Int32) (Q : OQ) (u : Nat) (hu : u ≤ 8) : ∀ (n : Nat) (v3 : Int32) (v4 : Int32) (S : PS) (y3 : Int32) (y4 : Int32) (T : PS), fX11_chorus_23 N v1 v2 n v3 v4 S = some (y3, y4, T) → WP [] mX11_chorus 7 8 Q 59 [some (.ref 0), some (.int v1), some (.int v2), some (.int y3), some (.int y4)] [] T u → WP [] mX11_chorus 7 8 Q 23 [some (.ref 0), some (.int v1), some (.int v2), some (.int v3), some (.int v4)] [] S u := by
  intro n
  induction n with
  | zero => intro v3 v4 S y3 y4 T h; rw [fX11_chorus_23] at h; cases h
  | succ n ih =>
    intro v3 v4 S y3 y4 T h k0
    rw [fX11_chorus_23] at h
    refine r_iload (x := v4) dX11_chorus_23 rfl ?_
    refine r_iload_n (x := v2) dX11_chorus_25 rfl ?_
    refine r_icmp_ge (tgt := 59) dX11_chorus_26 (by decide) (fun c10 => ?_) (fun c10 => ?_)
    · rw [if_pos c10] at h
      cases h
      exact k0
    · rw [if_neg c10] at h
      refine r_aload_n (x := 0) dX11_chorus_29 rfl ?_
      refine r_getfield (o := 0) (v := .ref 5) dX11_chorus_30 lX11_29 ck0 nC0 rfl ?_
      refine r_iconst (v := 1) dX11_chorus_33 rfl ?_
      obtain ⟨S12, h13, h⟩ := bV_e h
      refine r_cVV (y := mX3_goOn) (As := [.int 1]) (rest := []) dX11_chorus_34 qX11_191 kX3_goOn rfl ob5 vc3 rfl (okX3_goOn N 1 S S12 h13) (by decide) hu rfl (Nat.le_of_ble_eq_true rfl) ?_
      refine r_aload_n (x := 0) dX11_chorus_37 rfl ?_
      refine r_getfield (o := 0) (v := .ref 5) dX11_chorus_38 lX11_29 ck0 nC0 rfl ?_
      refine r_getfield (o := 5) (v := .int (S12.1 5 5)) dX11_chorus_41 lX11_221 ck5 nC5 rfl ?_
      refine r_iload_n (x := v1) dX11_chorus_44 rfl ?_
      refine r_iand dX11_chorus_45 ?_
      refine r_iload_n (x := v1) dX11_chorus_46 rfl ?_
      refine r_icmp_ne (tgt := 53) dX11_chorus_47 (by decide) (fun c14 => ?_) (fun c14 => ?_)
      · rw [if_neg c14] at h
        obtain ⟨x15, hx15⟩ : ∃ y : Int32, y = (v4 + 1 : Int32) := ⟨_, rfl⟩
        replace h := lt_e hx15 h
        refine r_iinc (x := v4) (v := x15) (L' := [some (.ref 0), some (.int v1), some (.int v2), some (.int v3), some (.int x15)]) dX11_chorus_53 rfl (by rw [hx15]; rfl) (Nat.le_of_ble_eq_true rfl) rfl rfl ?_
        refine r_goto (tgt := 23) dX11_chorus_56 (by decide) ?_
        exact ih _ _ _ _ _ _ h k0
      · rw [if_pos c14] at h
        obtain ⟨x16, hx16⟩ : ∃ y : Int32, y = (v3 + 1 : Int32) := ⟨_, rfl⟩
        replace h := lt_e hx16 h
        refine r_iinc (x := v3) (v := x16) (L' := [some (.ref 0), some (.int v1), some (.int v2), some (.int x16), some (.int v4)]) dX11_chorus_50 rfl (by rw [hx16]; rfl) (Nat.le_of_ble_eq_true rfl) rfl rfl ?_
        obtain ⟨x17, hx17⟩ : ∃ y : Int32, y = (v4 + 1 : Int32) := ⟨_, rfl⟩
        replace h := lt_e hx17 h
        refine r_iinc (x := v4) (v := x17) (L' := [some (.ref 0), some (.int v1), some (.int v2), some (.int x16), some (.int x17)]) dX11_chorus_53 rfl (by rw [hx17]; rfl) (Nat.le_of_ble_eq_true rfl) rfl rfl ?_
        refine r_goto (tgt := 23) dX11_chorus_56 (by decide) ?_
        exact ih _ _ _ _ _ _ h k0
def fX11_chorus (N : Nat) (p0 : Int32) (p1 : Int32) (S : PS) : Option ((Int32 ⊕ String) × PS) :=
  bU (fX11_needCups N p0 S) fun S2 =>
  bU (fX11_needRange N p1 1 200 S2) fun S5 =>
  bV (fX11_lookAhead N 0 S5) fun S8 =>
  bT (fX11_chorus_23 N p0 p1 N 0 0 S8) fun q18 =>
  lt (q18.1 : Int32) fun x19 =>
  lt (q18.2.1 : Int32) fun x20 =>
  lt (q18.2.2 : PS) fun S21 =>
  some (.inl x19, S21)
set_option maxHeartbeats 4000000 in
set_option maxRecDepth 100000 in
theorem okX11_chorus (N : Nat) (p0 : Int32) (p1 : Int32) (S : PS) (r : Int32 ⊕ String) (T : PS) (h : fX11_chorus N p0 p1 S = some (r, T)) : CT mX11_chorus 7 8 [.ref 0, .int p0, .int p1] S (qE r T) := by
  refine ct_of [some (.ref 0), some (.int p0), some (.int p1), none, none] rfl (fun _ => rfl) (fun _ => Nat.le_of_ble_eq_true rfl) ?_
  unfold fX11_chorus at h
  refine r_aload_n (x := 0) dX11_chorus_0 rfl ?_
  refine r_iload_n (x := p0) dX11_chorus_1 rfl ?_
  obtain ⟨x1, S2, h3, hx1, kx1⟩ := bU_e h
  refine r_cVU (y := mX11_needCups) (As := [.int p0]) (rest := []) dX11_chorus_2 qX11_227 kX11_needCups rfl ob0 vc11 rfl (okX11_needCups N p0 S x1 S2 h3) (by decide) (by decide) rfl (Nat.le_of_ble_eq_true rfl) (fun ex1 => ?_) (fun Ex1 ex1 => ?_)
  · replace h := hx1 ex1
    refine r_iload_n (x := p1) dX11_chorus_5 rfl ?_
    refine r_iconst (v := 1) dX11_chorus_6 rfl ?_
    refine r_sipush (v := 200) dX11_chorus_7 rfl ?_
    obtain ⟨x4, S5, h6, hx4, kx4⟩ := bU_e h
    refine r_cSU (y := mX11_needRange) (As := [.int p1, .int 1, .int 200]) (rest := []) dX11_chorus_10 qX11_81 kX11_needRange rfl (okX11_needRange N p1 1 200 S2 x4 S5 h6) (by decide) (by decide) rfl (Nat.le_of_ble_eq_true rfl) (fun ex4 => ?_) (fun Ex4 ex4 => ?_)
    · replace h := hx4 ex4
      refine r_iconst (v := 0) dX11_chorus_13 rfl ?_
      refine r_istore_n (L' := [some (.ref 0), some (.int p0), some (.int p1), some (.int 0), none]) dX11_chorus_14 (Nat.le_of_ble_eq_true rfl) rfl rfl ?_
      refine r_aload_n (x := 0) dX11_chorus_15 rfl ?_
      refine r_iconst (v := 0) dX11_chorus_16 rfl ?_
      obtain ⟨S8, h9, h⟩ := bV_e h
      refine r_cVV (y := mX11_lookAhead) (As := [.int 0]) (rest := []) dX11_chorus_17 qX11_217 kX11_lookAhead rfl ob0 vc11 rfl (okX11_lookAhead N 0 S5 S8 h9) (by decide) (by decide) rfl (Nat.le_of_ble_eq_true rfl) ?_
      refine r_iconst (v := 0) dX11_chorus_20 rfl ?_
      refine r_istore (L' := [some (.ref 0), some (.int p0), some (.int p1), some (.int 0), some (.int 0)]) dX11_chorus_21 (Nat.le_of_ble_eq_true rfl) rfl rfl ?_
      obtain ⟨⟨x19, x20, S21⟩, h23, h⟩ := bT_e h
      dsimp only at h
      replace h := pl_s (pl_s (pl_s (h)))
      refine okX11_chorus_23 N p0 p1 (qE r T) 2 (by decide) _ _ _ _ _ _ _ h23 ?_
      refine r_iload_n (x := x19) dX11_chorus_59 rfl ?_
      cases h
      exact r_ireturn dX11_chorus_60 rfl (by decide) ⟨rfl, rfl⟩
    · cases kx4 Ex4 ex4
      exact ⟨rfl, rfl⟩
  · cases kx1 Ex1 ex1
    exact ⟨rfl, rfl⟩
def fX11_never (N : Nat) (p0 : Int32) (S : PS) : Option ((Int32 ⊕ String) × PS) :=
  bU (fX11_needRange N p0 1 200 S) fun S2 =>
  bV (fX11_lookAhead N p0 S2) fun S5 =>
  bI (fX3_neverTipped N  S5) fun x7 S8 =>
  some (.inl x7, S8)
set_option maxHeartbeats 4000000 in
set_option maxRecDepth 100000 in
theorem okX11_never (N : Nat) (p0 : Int32) (S : PS) (r : Int32 ⊕ String) (T : PS) (h : fX11_never N p0 S = some (r, T)) : CT mX11_never 7 8 [.ref 0, .int p0] S (qE r T) := by
  refine ct_of [some (.ref 0), some (.int p0)] rfl (fun _ => rfl) (fun _ => Nat.le_of_ble_eq_true rfl) ?_
  unfold fX11_never at h
  refine r_iload_n (x := p0) dX11_never_0 rfl ?_
  refine r_iconst (v := 1) dX11_never_1 rfl ?_
  refine r_sipush (v := 200) dX11_never_2 rfl ?_
  obtain ⟨x1, S2, h3, hx1, kx1⟩ := bU_e h
  refine r_cSU (y := mX11_needRange) (As := [.int p0, .int 1, .int 200]) (rest := []) dX11_never_5 qX11_81 kX11_needRange rfl (okX11_needRange N p0 1 200 S x1 S2 h3) (by decide) (by decide) rfl (Nat.le_of_ble_eq_true rfl) (fun ex1 => ?_) (fun Ex1 ex1 => ?_)
  · replace h := hx1 ex1
    refine r_aload_n (x := 0) dX11_never_8 rfl ?_
    refine r_iload_n (x := p0) dX11_never_9 rfl ?_
    obtain ⟨S5, h6, h⟩ := bV_e h
    refine r_cVV (y := mX11_lookAhead) (As := [.int p0]) (rest := []) dX11_never_10 qX11_217 kX11_lookAhead rfl ob0 vc11 rfl (okX11_lookAhead N p0 S2 S5 h6) (by decide) (by decide) rfl (Nat.le_of_ble_eq_true rfl) ?_
    refine r_aload_n (x := 0) dX11_never_13 rfl ?_
    refine r_getfield (o := 0) (v := .ref 5) dX11_never_14 lX11_29 ck0 nC0 rfl ?_
    obtain ⟨x7, S8, h9, h⟩ := bI_e h
    refine r_cVI (y := mX3_neverTipped) (As := []) (rest := []) dX11_never_17 qX11_309 kX3_neverTipped rfl ob5 vc3 rfl (okX3_neverTipped N  S5 x7 S8 h9) (by decide) (by decide) rfl (Nat.le_of_ble_eq_true rfl) ?_
    cases h
    exact r_ireturn dX11_never_20 rfl (by decide) ⟨rfl, rfl⟩
  · cases kx1 Ex1 ex1
    exact ⟨rfl, rfl⟩
def fX11_swell_34 (N : Nat) (v1 : Int32) (v2 : Int32) : Nat → Int32 → Int32 → PS → Option (Int32 × Int32 × PS)
  | 0, _, _, _ => none
  | n + 1, v3, v4, S =>
    (if v2 ≤ v4 then
      some (v3, v4, S)
    else
      bV (fX3_goOn N 1 S) fun S17 =>
      lt ((S17.2.2 5 4) : Nat) fun o19 =>
      gd (obj o19 2) <|
      gd (arr (sr o19 1) 1 9) <|
      gd (inr v1 9) <|
      lt ((if v3 < (S17.1 (sr o19 1) (ix v1)) then (S17.1 (sr o19 1) (ix v1)) else v3) : Int32) fun x23 =>
      lt (v4 + 1 : Int32) fun x24 =>
      fX11_swell_34 N v1 v2 n x23 x24 S17)
set_option maxHeartbeats 4000000 in
set_option maxRecDepth 100000 in
theorem okX11_swell_34 (N : Nat) (v1 : Int32) (v2 : Int32) (Q : OQ) (u : Nat) (hu : u ≤ 8) : ∀ (n : Nat) (v3 : Int32) (v4 : Int32) (S : PS) (y3 : Int32) (y4 : Int32) (T : PS), fX11_swell_34 N v1 v2 n v3 v4 S = some (y3, y4, T) → WP [] mX11_swell 7 8 Q 71 [some (.ref 0), some (.int v1), some (.int v2), some (.int y3), some (.int y4)] [] T u → WP [] mX11_swell 7 8 Q 34 [some (.ref 0), some (.int v1), some (.int v2), some (.int v3), some (.int v4)] [] S u := by
  intro n
  induction n with
  | zero => intro v3 v4 S y3 y4 T h; rw [fX11_swell_34] at h; cases h
  | succ n ih =>
    intro v3 v4 S y3 y4 T h k0
    rw [fX11_swell_34] at h
    refine r_iload (x := v4) dX11_swell_34 rfl ?_
    refine r_iload_n (x := v2) dX11_swell_36 rfl ?_
    refine r_icmp_ge (tgt := 71) dX11_swell_37 (by decide) (fun c15 => ?_) (fun c15 => ?_)
    · rw [if_pos c15] at h
      cases h
      exact k0
    · rw [if_neg c15] at h
      refine r_aload_n (x := 0) dX11_swell_40 rfl ?_
      refine r_getfield (o := 0) (v := .ref 5) dX11_swell_41 lX11_29 ck0 nC0 rfl ?_
      refine r_iconst (v := 1) dX11_swell_44 rfl ?_
      obtain ⟨S17, h18, h⟩ := bV_e h
      refine r_cVV (y := mX3_goOn) (As := [.int 1]) (rest := []) dX11_swell_45 qX11_191 kX3_goOn rfl ob5 vc3 rfl (okX3_goOn N 1 S S17 h18) (by decide) hu rfl (Nat.le_of_ble_eq_true rfl) ?_
      refine r_iload_n (x := v3) dX11_swell_48 rfl ?_
      refine r_aload_n (x := 0) dX11_swell_49 rfl ?_
      refine r_getfield (o := 0) (v := .ref 5) dX11_swell_50 lX11_29 ck0 nC0 rfl ?_
      refine r_getfield (o := 5) (v := .ref (S17.2.2 5 4)) dX11_swell_53 lX11_220 ck5 nC5 rfl ?_
      refine r_topr (fun o19 ho19 => ?_)
      replace h := lt_e ho19 h
      obtain ⟨g20, h⟩ := gd_e h
      refine r_getfield (o := o19) (v := .ref (sr o19 1)) dX11_swell_56 lX11_162 g20.1 g20.2 rfl ?_
      refine r_iload_n (x := v1) dX11_swell_59 rfl ?_
      obtain ⟨g21, h⟩ := gd_e h
      obtain ⟨g22, h⟩ := gd_e h
      refine r_iaload (a := (sr o19 1)) dX11_swell_60 g21.1 g21.2 (inr_IX g22) ?_
      refine r_mmax dX11_swell_61 qX11_345 (by decide) hu (Nat.le_of_ble_eq_true rfl) ?_
      refine r_topi (fun x23 hx23 => ?_)
      replace h := lt_e hx23 h
      refine r_istore_n (L' := [some (.ref 0), some (.int v1), some (.int v2), some (.int x23), some (.int v4)]) dX11_swell_64 (Nat.le_of_ble_eq_true rfl) rfl rfl ?_
      obtain ⟨x24, hx24⟩ : ∃ y : Int32, y = (v4 + 1 : Int32) := ⟨_, rfl⟩
      replace h := lt_e hx24 h
      refine r_iinc (x := v4) (v := x24) (L' := [some (.ref 0), some (.int v1), some (.int v2), some (.int x23), some (.int x24)]) dX11_swell_65 rfl (by rw [hx24]; rfl) (Nat.le_of_ble_eq_true rfl) rfl rfl ?_
      refine r_goto (tgt := 34) dX11_swell_68 (by decide) ?_
      exact ih _ _ _ _ _ _ h k0
def fX11_swell (N : Nat) (p0 : Int32) (p1 : Int32) (S : PS) : Option ((Int32 ⊕ String) × PS) :=
  bU (fX11_needCup N p0 S) fun S2 =>
  bU (fX11_needRange N p1 0 200 S2) fun S5 =>
  bV (fX11_lookAhead N 0 S5) fun S8 =>
  lt ((S8.2.2 5 4) : Nat) fun o10 =>
  gd (obj o10 2) <|
  gd (arr (sr o10 1) 1 9) <|
  gd (inr p0 9) <|
  lt ((S8.1 (sr o10 1) (ix p0)) : Int32) fun x14 =>
  bT (fX11_swell_34 N p0 p1 N x14 0 S8) fun q25 =>
  lt (q25.1 : Int32) fun x26 =>
  lt (q25.2.1 : Int32) fun x27 =>
  lt (q25.2.2 : PS) fun S28 =>
  some (.inl x26, S28)
set_option maxHeartbeats 4000000 in
set_option maxRecDepth 100000 in
theorem okX11_swell (N : Nat) (p0 : Int32) (p1 : Int32) (S : PS) (r : Int32 ⊕ String) (T : PS) (h : fX11_swell N p0 p1 S = some (r, T)) : CT mX11_swell 7 8 [.ref 0, .int p0, .int p1] S (qE r T) := by
  refine ct_of [some (.ref 0), some (.int p0), some (.int p1), none, none] rfl (fun _ => rfl) (fun _ => Nat.le_of_ble_eq_true rfl) ?_
  unfold fX11_swell at h
  refine r_aload_n (x := 0) dX11_swell_0 rfl ?_
  refine r_iload_n (x := p0) dX11_swell_1 rfl ?_
  obtain ⟨x1, S2, h3, hx1, kx1⟩ := bU_e h
  refine r_cVU (y := mX11_needCup) (As := [.int p0]) (rest := []) dX11_swell_2 qX11_156 kX11_needCup rfl ob0 vc11 rfl (okX11_needCup N p0 S x1 S2 h3) (by decide) (by decide) rfl (Nat.le_of_ble_eq_true rfl) (fun ex1 => ?_) (fun Ex1 ex1 => ?_)
  · replace h := hx1 ex1
    refine r_iload_n (x := p1) dX11_swell_5 rfl ?_
    refine r_iconst (v := 0) dX11_swell_6 rfl ?_
    refine r_sipush (v := 200) dX11_swell_7 rfl ?_
    obtain ⟨x4, S5, h6, hx4, kx4⟩ := bU_e h
    refine r_cSU (y := mX11_needRange) (As := [.int p1, .int 0, .int 200]) (rest := []) dX11_swell_10 qX11_81 kX11_needRange rfl (okX11_needRange N p1 0 200 S2 x4 S5 h6) (by decide) (by decide) rfl (Nat.le_of_ble_eq_true rfl) (fun ex4 => ?_) (fun Ex4 ex4 => ?_)
    · replace h := hx4 ex4
      refine r_aload_n (x := 0) dX11_swell_13 rfl ?_
      refine r_iconst (v := 0) dX11_swell_14 rfl ?_
      obtain ⟨S8, h9, h⟩ := bV_e h
      refine r_cVV (y := mX11_lookAhead) (As := [.int 0]) (rest := []) dX11_swell_15 qX11_217 kX11_lookAhead rfl ob0 vc11 rfl (okX11_lookAhead N 0 S5 S8 h9) (by decide) (by decide) rfl (Nat.le_of_ble_eq_true rfl) ?_
      refine r_aload_n (x := 0) dX11_swell_18 rfl ?_
      refine r_getfield (o := 0) (v := .ref 5) dX11_swell_19 lX11_29 ck0 nC0 rfl ?_
      refine r_getfield (o := 5) (v := .ref (S8.2.2 5 4)) dX11_swell_22 lX11_220 ck5 nC5 rfl ?_
      refine r_topr (fun o10 ho10 => ?_)
      replace h := lt_e ho10 h
      obtain ⟨g11, h⟩ := gd_e h
      refine r_getfield (o := o10) (v := .ref (sr o10 1)) dX11_swell_25 lX11_162 g11.1 g11.2 rfl ?_
      refine r_iload_n (x := p0) dX11_swell_28 rfl ?_
      obtain ⟨g12, h⟩ := gd_e h
      obtain ⟨g13, h⟩ := gd_e h
      refine r_iaload (a := (sr o10 1)) dX11_swell_29 g12.1 g12.2 (inr_IX g13) ?_
      refine r_topi (fun x14 hx14 => ?_)
      replace h := lt_e hx14 h
      refine r_istore_n (L' := [some (.ref 0), some (.int p0), some (.int p1), some (.int x14), none]) dX11_swell_30 (Nat.le_of_ble_eq_true rfl) rfl rfl ?_
      refine r_iconst (v := 0) dX11_swell_31 rfl ?_
      refine r_istore (L' := [some (.ref 0), some (.int p0), some (.int p1), some (.int x14), some (.int 0)]) dX11_swell_32 (Nat.le_of_ble_eq_true rfl) rfl rfl ?_
      obtain ⟨⟨x26, x27, S28⟩, h30, h⟩ := bT_e h
      dsimp only at h
      replace h := pl_s (pl_s (pl_s (h)))
      refine okX11_swell_34 N p0 p1 (qE r T) 2 (by decide) _ _ _ _ _ _ _ h30 ?_
      refine r_iload_n (x := x26) dX11_swell_71 rfl ?_
      cases h
      exact r_ireturn dX11_swell_72 rfl (by decide) ⟨rfl, rfl⟩
    · cases kx4 Ex4 ex4
      exact ⟨rfl, rfl⟩
  · cases kx1 Ex1 ex1
    exact ⟨rfl, rfl⟩
