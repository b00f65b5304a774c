def fX8_value_13 (N : Nat) (v0 : Nat) (v1 : Nat) (v2 : Int32) (v3 : Int32) : Nat → Int32 → Int32 → PS → Option (Int32 × Int32 × PS)
  | 0, _, _, _ => none
  | n + 1, v4, v5, S =>
    gd (obj v0 8) <|
    (if (S.1 v0 2) ≤ v5 then
      some (v4, v5, S)
    else
      gd (obj v0 8) <|
      gd (arr (sr v0 0) 1 700) <|
      gd (inr v5 700) <|
      lt ((S.1 (sr v0 0) (ix v5)) : Int32) fun x9 =>
      (if x9 ≤ (-7) then
        (if x9 = (-7) then
          (if v4 ≤ 0 then
            lt (v5 + 1 : Int32) fun x30 =>
            fX8_value_13 N v0 v1 v2 v3 n v4 x30 S
          else
            gd (obj v0 8) <|
            gd (obj v0 8) <|
            gd (arr (sr v0 1) 1 40) <|
            gd (inr (v4 - 1) 40) <|
            lt ((if (S.1 (sr v0 1) (ix (v4 - 1))) = 0 then 1 else 0) : Int32) fun x36 =>
            gd (arr (sr v0 1) 1 40) <|
            gd (inr (v4 - 1) 40) <|
            lt ((u2 S.1 (sr v0 1) (ix (v4 - 1)) x36, S.2) : PS) fun S39 =>
            lt (v5 + 1 : Int32) fun x40 =>
            fX8_value_13 N v0 v1 v2 v3 n v4 x40 S39)
        else
          (if v4 ≤ 1 then
            lt (v5 + 1 : Int32) fun x13 =>
            fX8_value_13 N v0 v1 v2 v3 n v4 x13 S
          else
            lt (v4 + (-1) : Int32) fun x14 =>
            gd (obj v0 8) <|
            gd (obj v0 8) <|
            gd (arr (sr v0 1) 1 40) <|
            gd (inr (x14 - 1) 40) <|
            gd (obj v0 8) <|
            gd (arr (sr v0 1) 1 40) <|
            gd (inr x14 40) <|
            bI (fX8_joined N x9 (S.1 (sr v0 1) (ix (x14 - 1))) (S.1 (sr v0 1) (ix x14)) S) fun x22 S23 =>
            gd (arr (sr v0 1) 1 40) <|
            gd (inr (x14 - 1) 40) <|
            lt ((u2 S23.1 (sr v0 1) (ix (x14 - 1)) x22, S23.2) : PS) fun S27 =>
            lt (v5 + 1 : Int32) fun x28 =>
            fX8_value_13 N v0 v1 v2 v3 n x14 x28 S27))
      else
        gd (obj v0 8) <|
        gd (arr (sr v0 1) 1 40) <|
        (if 40 ≤ v4 then
          lt (v5 + 1 : Int32) fun x44 =>
          fX8_value_13 N v0 v1 v2 v3 n v4 x44 S
        else
          gd (obj v0 8) <|
          (if x9 < 0 then
            bI (fX8_valueOf N x9 v1 v2 v3 S) fun x47 S48 =>
            gd (arr (sr v0 1) 1 40) <|
            gd (inr v4 40) <|
            lt ((u2 S48.1 (sr v0 1) (ix v4) x47, S48.2) : PS) fun S52 =>
            lt (v4 + 1 : Int32) fun x53 =>
            lt (v5 + 1 : Int32) fun x54 =>
            fX8_value_13 N v0 v1 v2 v3 n x53 x54 S52
          else
            gd (arr (sr v0 1) 1 40) <|
            gd (inr v4 40) <|
            lt ((u2 S.1 (sr v0 1) (ix v4) x9, S.2) : PS) fun S57 =>
            lt (v4 + 1 : Int32) fun x58 =>
            lt (v5 + 1 : Int32) fun x59 =>
            fX8_value_13 N v0 v1 v2 v3 n x58 x59 S57))))
set_option maxHeartbeats 4000000 in
set_option maxRecDepth 100000 in
theorem okX8_value_13 (N : Nat) (v0 : Nat) (v1 : Nat) (v2 : Int32) (v3 : Int32) (Q : OQ) (u : Nat) (hu : u ≤ 0) : ∀ (n : Nat) (v4 : Int32) (v5 : Int32) (S : PS) (y4 : Int32) (y5 : Int32) (T : PS), fX8_value_13 N v0 v1 v2 v3 n v4 v5 S = some (y4, y5, T) → WP [] mX8_value 1 0 Q 165 [some (.ref v0), some (.ref v1), some (.int v2), some (.int v3), some (.int y4), some (.int y5), none] [] T u → WP [] mX8_value 1 0 Q 13 [some (.ref v0), some (.ref v1), some (.int v2), some (.int v3), some (.int v4), some (.int v5), none] [] S u := by
  intro n
  induction n with
  | zero => intro v4 v5 S y4 y5 T h; rw [fX8_value_13] at h; cases h
  | succ n ih =>
    intro v4 v5 S y4 y5 T h k0
    rw [fX8_value_13] at h
    refine r_iload (x := v5) dX8_value_13 rfl ?_
    refine r_aload_n (x := v0) dX8_value_15 rfl ?_
    obtain ⟨g4, h⟩ := gd_e h
    refine r_getfield (o := v0) (v := .int (S.1 v0 2)) dX8_value_16 lX8_18 g4.1 g4.2 rfl ?_
    refine r_icmp_ge (tgt := 165) dX8_value_19 (by decide) (fun c5 => ?_) (fun c5 => ?_)
    · rw [if_pos c5] at h
      cases h
      exact k0
    · rw [if_neg c5] at h
      refine r_aload_n (x := v0) dX8_value_22 rfl ?_
      obtain ⟨g6, h⟩ := gd_e h
      refine r_getfield (o := v0) (v := .ref (sr v0 0)) dX8_value_23 lX8_9 g6.1 g6.2 rfl ?_
      refine r_iload (x := v5) dX8_value_26 rfl ?_
      obtain ⟨g7, h⟩ := gd_e h
      obtain ⟨g8, h⟩ := gd_e h
      refine r_iaload (a := (sr v0 0)) dX8_value_28 g7.1 g7.2 (inr_IX g8) ?_
      refine r_topi (fun x9 hx9 => ?_)
      replace h := lt_e hx9 h
      refine r_istore (L' := [some (.ref v0), some (.ref v1), some (.int v2), some (.int v3), some (.int v4), some (.int v5), some (.int x9)]) dX8_value_29 (Nat.le_of_ble_eq_true rfl) rfl rfl ?_
      refine r_iload (x := x9) dX8_value_31 rfl ?_
      refine r_bipush (v := (-7)) dX8_value_33 rfl ?_
      refine r_icmp_le (tgt := 79) dX8_value_35 (by decide) (fun c10 => ?_) (fun c10 => ?_)
      · rw [if_pos c10] at h
        refine r_iload (x := x9) dX8_value_79 rfl ?_
        refine r_bipush (v := (-7)) dX8_value_81 rfl ?_
        refine r_icmp_ne (tgt := 120) dX8_value_83 (by decide) (fun c11 => ?_) (fun c11 => ?_)
        · rw [if_neg c11] at h
          refine r_iload (x := v4) dX8_value_120 rfl ?_
          refine r_iconst (v := 1) dX8_value_122 rfl ?_
          refine r_icmp_le (tgt := 159) dX8_value_123 (by decide) (fun c12 => ?_) (fun c12 => ?_)
          · rw [if_pos c12] at h
            obtain ⟨x13, hx13⟩ : ∃ y : Int32, y = (v5 + 1 : Int32) := ⟨_, rfl⟩
            replace h := lt_e hx13 h
            refine r_iinc (x := v5) (v := x13) (L' := [some (.ref v0), some (.ref v1), some (.int v2), some (.int v3), some (.int v4), some (.int x13), some (.int x9)]) dX8_value_159 rfl (by rw [hx13]; rfl) (Nat.le_of_ble_eq_true rfl) rfl rfl ?_
            refine r_goto (tgt := 13) dX8_value_162 (by decide) ?_
            refine r_drop [true, true, true, true, true, true, false] rfl ?_
            exact ih _ _ _ _ _ _ h k0
          · rw [if_neg c12] at h
            obtain ⟨x14, hx14⟩ : ∃ y : Int32, y = (v4 + (-1) : Int32) := ⟨_, rfl⟩
            replace h := lt_e hx14 h
            refine r_iinc (x := v4) (v := x14) (L' := [some (.ref v0), some (.ref v1), some (.int v2), some (.int v3), some (.int x14), some (.int v5), some (.int x9)]) dX8_value_126 rfl (by rw [hx14]; rfl) (Nat.le_of_ble_eq_true rfl) rfl rfl ?_
            refine r_aload_n (x := v0) dX8_value_129 rfl ?_
            obtain ⟨g15, h⟩ := gd_e h
            refine r_getfield (o := v0) (v := .ref (sr v0 1)) dX8_value_130 lX8_15 g15.1 g15.2 rfl ?_
            refine r_iload (x := x14) dX8_value_133 rfl ?_
            refine r_iconst (v := 1) dX8_value_135 rfl ?_
            refine r_isub dX8_value_136 ?_
            refine r_iload (x := x9) dX8_value_137 rfl ?_
            refine r_aload_n (x := v0) dX8_value_139 rfl ?_
            obtain ⟨g16, h⟩ := gd_e h
            refine r_getfield (o := v0) (v := .ref (sr v0 1)) dX8_value_140 lX8_15 g16.1 g16.2 rfl ?_
            refine r_iload (x := x14) dX8_value_143 rfl ?_
            refine r_iconst (v := 1) dX8_value_145 rfl ?_
            refine r_isub dX8_value_146 ?_
            obtain ⟨g17, h⟩ := gd_e h
            obtain ⟨g18, h⟩ := gd_e h
            refine r_iaload (a := (sr v0 1)) dX8_value_147 g17.1 g17.2 (inr_IX g18) ?_
            refine r_aload_n (x := v0) dX8_value_148 rfl ?_
            obtain ⟨g19, h⟩ := gd_e h
            refine r_getfield (o := v0) (v := .ref (sr v0 1)) dX8_value_149 lX8_15 g19.1 g19.2 rfl ?_
            refine r_iload (x := x14) dX8_value_152 rfl ?_
            obtain ⟨g20, h⟩ := gd_e h
            obtain ⟨g21, h⟩ := gd_e h
            refine r_iaload (a := (sr v0 1)) dX8_value_154 g20.1 g20.2 (inr_IX g21) ?_
            obtain ⟨x22, S23, h24, h⟩ := bI_e h
            refine r_cSI (y := mX8_joined) (As := [.int x9, .int (S.1 (sr v0 1) (ix (x14 - 1))), .int (S.1 (sr v0 1) (ix x14))]) (rest := [.int (x14 - 1), .ref (sr v0 1)]) dX8_value_155 qX8_30 kX8_joined rfl (okX8_joined N x9 (S.1 (sr v0 1) (ix (x14 - 1))) (S.1 (sr v0 1) (ix x14)) S x22 S23 h24) (by decide) hu rfl (Nat.le_of_ble_eq_true rfl) ?_
            obtain ⟨g25, h⟩ := gd_e h
            obtain ⟨g26, h⟩ := gd_e h
            refine r_iastore (a := (sr v0 1)) dX8_value_158 g25.1 g25.2 (inr_IX g26) ?_
            refine r_topS (fun S27 hS27 => ?_)
            replace h := lt_e hS27 h
            obtain ⟨x28, hx28⟩ : ∃ y : Int32, y = (v5 + 1 : Int32) := ⟨_, rfl⟩
            replace h := lt_e hx28 h
            refine r_iinc (x := v5) (v := x28) (L' := [some (.ref v0), some (.ref v1), some (.int v2), some (.int v3), some (.int x14), some (.int x28), some (.int x9)]) dX8_value_159 rfl (by rw [hx28]; rfl) (Nat.le_of_ble_eq_true rfl) rfl rfl ?_
            refine r_goto (tgt := 13) dX8_value_162 (by decide) ?_
            refine r_drop [true, true, true, true, true, true, false] rfl ?_
            exact ih _ _ _ _ _ _ h k0
        · rw [if_pos c11] at h
          refine r_iload (x := v4) dX8_value_86 rfl ?_
          refine r_if_le (tgt := 159) dX8_value_88 (by decide) (fun c29 => ?_) (fun c29 => ?_)
          · rw [if_pos c29] at h
            obtain ⟨x30, hx30⟩ : ∃ y : Int32, y = (v5 + 1 : Int32) := ⟨_, rfl⟩
            replace h := lt_e hx30 h
            refine r_iinc (x := v5) (v := x30) (L' := [some (.ref v0), some (.ref v1), some (.int v2), some (.int v3), some (.int v4), some (.int x30), some (.int x9)]) dX8_value_159 rfl (by rw [hx30]; rfl) (Nat.le_of_ble_eq_true rfl) rfl rfl ?_
            refine r_goto (tgt := 13) dX8_value_162 (by decide) ?_
            refine r_drop [true, true, true, true, true, true, false] rfl ?_
            exact ih _ _ _ _ _ _ h k0
          · rw [if_neg c29] at h
            refine r_aload_n (x := v0) dX8_value_91 rfl ?_
            obtain ⟨g31, h⟩ := gd_e h
            refine r_getfield (o := v0) (v := .ref (sr v0 1)) dX8_value_92 lX8_15 g31.1 g31.2 rfl ?_
            refine r_iload (x := v4) dX8_value_95 rfl ?_
            refine r_iconst (v := 1) dX8_value_97 rfl ?_
            refine r_isub dX8_value_98 ?_
            refine r_aload_n (x := v0) dX8_value_99 rfl ?_
            obtain ⟨g32, h⟩ := gd_e h
            refine r_getfield (o := v0) (v := .ref (sr v0 1)) dX8_value_100 lX8_15 g32.1 g32.2 rfl ?_
            refine r_iload (x := v4) dX8_value_103 rfl ?_
            refine r_iconst (v := 1) dX8_value_105 rfl ?_
            refine r_isub dX8_value_106 ?_
            obtain ⟨g33, h⟩ := gd_e h
            obtain ⟨g34, h⟩ := gd_e h
            refine r_iaload (a := (sr v0 1)) dX8_value_107 g33.1 g33.2 (inr_IX g34) ?_
            obtain ⟨x36, hx36⟩ : ∃ y : Int32, y = ((if (S.1 (sr v0 1) (ix (v4 - 1))) = 0 then 1 else 0) : Int32) := ⟨_, rfl⟩
            replace h := lt_e hx36 h
            have keyx36 : WP [] mX8_value 1 0 Q 116 [some (.ref v0), some (.ref v1), some (.int v2), some (.int v3), some (.int v4), some (.int v5), some (.int x9)] (.int x36 :: [.int (v4 - 1), .ref (sr v0 1)]) S u := by
              obtain ⟨g37, h⟩ := gd_e h
              obtain ⟨g38, h⟩ := gd_e h
              refine r_iastore (a := (sr v0 1)) dX8_value_116 g37.1 g37.2 (inr_IX g38) ?_
              refine r_topS (fun S39 hS39 => ?_)
              replace h := lt_e hS39 h
              refine r_goto (tgt := 159) dX8_value_117 (by decide) ?_
              obtain ⟨x40, hx40⟩ : ∃ y : Int32, y = (v5 + 1 : Int32) := ⟨_, rfl⟩
              replace h := lt_e hx40 h
              refine r_iinc (x := v5) (v := x40) (L' := [some (.ref v0), some (.ref v1), some (.int v2), some (.int v3), some (.int v4), some (.int x40), some (.int x9)]) dX8_value_159 rfl (by rw [hx40]; rfl) (Nat.le_of_ble_eq_true rfl) rfl rfl ?_
              refine r_goto (tgt := 13) dX8_value_162 (by decide) ?_
              refine r_drop [true, true, true, true, true, true, false] rfl ?_
              exact ih _ _ _ _ _ _ h k0
            refine r_if_ne (tgt := 115) dX8_value_108 (by decide) (fun c35 => ?_) (fun c35 => ?_)
            · refine r_iconst (v := 0) dX8_value_115 rfl ?_
              exact r_tope (by rw [hx36, if_neg c35]) keyx36
            · refine r_iconst (v := 1) dX8_value_111 rfl ?_
              refine r_goto (tgt := 116) dX8_value_112 (by decide) ?_
              exact r_tope (by rw [hx36, if_pos c35]) keyx36
      · rw [if_neg c10] at h
        refine r_iload (x := v4) dX8_value_38 rfl ?_
        refine r_aload_n (x := v0) dX8_value_40 rfl ?_
        obtain ⟨g41, h⟩ := gd_e h
        refine r_getfield (o := v0) (v := .ref (sr v0 1)) dX8_value_41 lX8_15 g41.1 g41.2 rfl ?_
        obtain ⟨g42, h⟩ := gd_e h
        refine r_alen (v := 40) dX8_value_44 g42.1 (by decide) g42.2 rfl ?_
        refine r_icmp_ge (tgt := 159) dX8_value_45 (by decide) (fun c43 => ?_) (fun c43 => ?_)
        · rw [if_pos c43] at h
          obtain ⟨x44, hx44⟩ : ∃ y : Int32, y = (v5 + 1 : Int32) := ⟨_, rfl⟩
          replace h := lt_e hx44 h
          refine r_iinc (x := v5) (v := x44) (L' := [some (.ref v0), some (.ref v1), some (.int v2), some (.int v3), some (.int v4), some (.int x44), some (.int x9)]) dX8_value_159 rfl (by rw [hx44]; rfl) (Nat.le_of_ble_eq_true rfl) rfl rfl ?_
          refine r_goto (tgt := 13) dX8_value_162 (by decide) ?_
          refine r_drop [true, true, true, true, true, true, false] rfl ?_
          exact ih _ _ _ _ _ _ h k0
        · rw [if_neg c43] at h
          refine r_aload_n (x := v0) dX8_value_48 rfl ?_
          obtain ⟨g45, h⟩ := gd_e h
          refine r_getfield (o := v0) (v := .ref (sr v0 1)) dX8_value_49 lX8_15 g45.1 g45.2 rfl ?_
          refine r_iload (x := v4) dX8_value_52 rfl ?_
          refine r_iload (x := x9) dX8_value_54 rfl ?_
          refine r_if_lt (tgt := 64) dX8_value_56 (by decide) (fun c46 => ?_) (fun c46 => ?_)
          · rw [if_pos c46] at h
            refine r_iload (x := x9) dX8_value_64 rfl ?_
            refine r_aload_n (x := v1) dX8_value_66 rfl ?_
            refine r_iload_n (x := v2) dX8_value_67 rfl ?_
            refine r_iload_n (x := v3) dX8_value_68 rfl ?_
            obtain ⟨x47, S48, h49, h⟩ := bI_e h
            refine r_cSI (y := mX8_valueOf) (As := [.int x9, .ref v1, .int v2, .int v3]) (rest := [.int v4, .ref (sr v0 1)]) dX8_value_69 qX8_26 kX8_valueOf rfl (okX8_valueOf N x9 v1 v2 v3 S x47 S48 h49) (by decide) hu rfl (Nat.le_of_ble_eq_true rfl) ?_
            obtain ⟨g50, h⟩ := gd_e h
            obtain ⟨g51, h⟩ := gd_e h
            refine r_iastore (a := (sr v0 1)) dX8_value_72 g50.1 g50.2 (inr_IX g51) ?_
            refine r_topS (fun S52 hS52 => ?_)
            replace h := lt_e hS52 h
            obtain ⟨x53, hx53⟩ : ∃ y : Int32, y = (v4 + 1 : Int32) := ⟨_, rfl⟩
            replace h := lt_e hx53 h
            refine r_iinc (x := v4) (v := x53) (L' := [some (.ref v0), some (.ref v1), some (.int v2), some (.int v3), some (.int x53), some (.int v5), some (.int x9)]) dX8_value_73 rfl (by rw [hx53]; rfl) (Nat.le_of_ble_eq_true rfl) rfl rfl ?_
            refine r_goto (tgt := 159) dX8_value_76 (by decide) ?_
            obtain ⟨x54, hx54⟩ : ∃ y : Int32, y = (v5 + 1 : Int32) := ⟨_, rfl⟩
            replace h := lt_e hx54 h
            refine r_iinc (x := v5) (v := x54) (L' := [some (.ref v0), some (.ref v1), some (.int v2), some (.int v3), some (.int x53), some (.int x54), some (.int x9)]) dX8_value_159 rfl (by rw [hx54]; rfl) (Nat.le_of_ble_eq_true rfl) rfl rfl ?_
            refine r_goto (tgt := 13) dX8_value_162 (by decide) ?_
            refine r_drop [true, true, true, true, true, true, false] rfl ?_
            exact ih _ _ _ _ _ _ h k0
          · rw [if_neg c46] at h
            refine r_iload (x := x9) dX8_value_59 rfl ?_
            refine r_goto (tgt := 72) dX8_value_61 (by decide) ?_
            obtain ⟨g55, h⟩ := gd_e h
            obtain ⟨g56, h⟩ := gd_e h
            refine r_iastore (a := (sr v0 1)) dX8_value_72 g55.1 g55.2 (inr_IX g56) ?_
            refine r_topS (fun S57 hS57 => ?_)
            replace h := lt_e hS57 h
            obtain ⟨x58, hx58⟩ : ∃ y : Int32, y = (v4 + 1 : Int32) := ⟨_, rfl⟩
            replace h := lt_e hx58 h
            refine r_iinc (x := v4) (v := x58) (L' := [some (.ref v0), some (.ref v1), some (.int v2), some (.int v3), some (.int x58), some (.int v5), some (.int x9)]) dX8_value_73 rfl (by rw [hx58]; rfl) (Nat.le_of_ble_eq_true rfl) rfl rfl ?_
            refine r_goto (tgt := 159) dX8_value_76 (by decide) ?_
            obtain ⟨x59, hx59⟩ : ∃ y : Int32, y = (v5 + 1 : Int32) := ⟨_, rfl⟩
            replace h := lt_e hx59 h
            refine r_iinc (x := v5) (v := x59) (L' := [some (.ref v0), some (.ref v1), some (.int v2), some (.int v3), some (.int x58), some (.int x59), some (.int x9)]) dX8_value_159 rfl (by rw [hx59]; rfl) (Nat.le_of_ble_eq_true rfl) rfl rfl ?_
            refine r_goto (tgt := 13) dX8_value_162 (by decide) ?_
            refine r_drop [true, true, true, true, true, true, false] rfl ?_
            exact ih _ _ _ _ _ _ h k0
def fX8_value (N : Nat) (p : Nat) (p0 : Nat) (p1 : Int32) (p2 : Int32) (S : PS) : Option (Int32 × PS) :=
  gd (obj p 8) <|
  gd (arr (sr p 1) 1 40) <|
  lt ((u2 S.1 (sr p 1) 0 0, S.2) : PS) fun S3 =>
  bT (fX8_value_13 N p p0 p1 p2 N 0 0 S3) fun q60 =>
  lt (q60.1 : Int32) fun x61 =>
  lt (q60.2.1 : Int32) fun x62 =>
  lt (q60.2.2 : PS) fun S63 =>
  gd (obj p 8) <|
  gd (arr (sr p 1) 1 40) <|
  some ((S63.1 (sr p 1) 0), S63)
set_option maxHeartbeats 4000000 in
set_option maxRecDepth 100000 in
theorem okX8_value (N : Nat) (p : Nat) (p0 : Nat) (p1 : Int32) (p2 : Int32) (S : PS) (r : Int32) (T : PS) (h : fX8_value N p p0 p1 p2 S = some (r, T)) : CT mX8_value 1 0 [.ref p, .ref p0, .int p1, .int p2] S (qI r T) := by
  refine ct_of [some (.ref p), some (.ref p0), some (.int p1), some (.int p2), none, none, none] rfl (fun _ => rfl) (fun _ => Nat.le_of_ble_eq_true rfl) ?_
  unfold fX8_value at h
  refine r_iconst (v := 0) dX8_value_0 rfl ?_
  refine r_istore (L' := [some (.ref p), some (.ref p0), some (.int p1), some (.int p2), some (.int 0), none, none]) dX8_value_1 (Nat.le_of_ble_eq_true rfl) rfl rfl ?_
  refine r_aload_n (x := p) dX8_value_3 rfl ?_
  obtain ⟨g1, h⟩ := gd_e h
  refine r_getfield (o := p) (v := .ref (sr p 1)) dX8_value_4 lX8_15 g1.1 g1.2 rfl ?_
  refine r_iconst (v := 0) dX8_value_7 rfl ?_
  refine r_iconst (v := 0) dX8_value_8 rfl ?_
  obtain ⟨g2, h⟩ := gd_e h
  refine r_iastore (a := (sr p 1)) (k9 := 0) dX8_value_9 g2.1 g2.2 ⟨by decide, by decide⟩ ?_
  refine r_topS (fun S3 hS3 => ?_)
  replace h := lt_e hS3 h
  refine r_iconst (v := 0) dX8_value_10 rfl ?_
  refine r_istore (L' := [some (.ref p), some (.ref p0), some (.int p1), some (.int p2), some (.int 0), some (.int 0), none]) dX8_value_11 (Nat.le_of_ble_eq_true rfl) rfl rfl ?_
  obtain ⟨⟨x61, x62, S63⟩, h65, h⟩ := bT_e h
  dsimp only at h
  replace h := pl_s (pl_s (pl_s (h)))
  refine okX8_value_13 N p p0 p1 p2 (qI r T) 0 (Nat.zero_le _) _ _ _ _ _ _ _ h65 ?_
  refine r_aload_n (x := p) dX8_value_165 rfl ?_
  obtain ⟨g66, h⟩ := gd_e h
  refine r_getfield (o := p) (v := .ref (sr p 1)) dX8_value_166 lX8_15 g66.1 g66.2 rfl ?_
  refine r_iconst (v := 0) dX8_value_169 rfl ?_
  obtain ⟨g67, h⟩ := gd_e h
  refine r_iaload (a := (sr p 1)) (k9 := 0) dX8_value_170 g67.1 g67.2 ⟨by decide, by decide⟩ ?_
  cases h
  exact r_ireturn dX8_value_171 rfl (Nat.zero_le _) ⟨rfl, rfl⟩
def fX9_keepFound (N : Nat) (p0 : Int32) (p1 : Int32) (S : PS) : Option PS :=
  (if (S.1 7 2) = 0 then
    lt ((if p1 = (-1) then 9 else p1) : Int32) fun x7 =>
    lt ((u2 S.1 7 3 ((p0 * 10) + x7), S.2) : PS) fun S8 =>
    lt ((u2 S8.1 7 2 ((S8.1 7 2) + 1), S8.2) : PS) fun S9 =>
    bV (fX9_keepSets N  S9) fun S11 =>
    some S11
  else
    lt ((u2 S.1 7 2 ((S.1 7 2) + 1), S.2) : PS) fun S2 =>
    bV (fX9_keepSets N  S2) fun S4 =>
    some S4)
set_option maxHeartbeats 4000000 in
set_option maxRecDepth 100000 in
theorem okX9_keepFound (N : Nat) (p0 : Int32) (p1 : Int32) (S : PS) (T : PS) (h : fX9_keepFound N p0 p1 S = some T) : CT mX9_keepFound 1 0 [.ref 7, .int p0, .int p1] S (qV T) := by
  refine ct_of [some (.ref 7), some (.int p0), some (.int p1)] rfl (fun _ => rfl) (fun _ => Nat.le_of_ble_eq_true rfl) ?_
  unfold fX9_keepFound at h
  refine r_aload_n (x := 7) dX9_keepFound_0 rfl ?_
  refine r_getfield (o := 7) (v := .int (S.1 7 2)) dX9_keepFound_1 lX9_19 ck7 nC7 rfl ?_
  refine r_if_ne (tgt := 27) dX9_keepFound_4 (by decide) (fun c1 => ?_) (fun c1 => ?_)
  · rw [if_neg c1] at h
    refine r_aload_n (x := 7) dX9_keepFound_27 rfl ?_
    refine r_dup_ref dX9_keepFound_28 ?_
    refine r_getfield (o := 7) (v := .int (S.1 7 2)) dX9_keepFound_29 lX9_19 ck7 nC7 rfl ?_
    refine r_iconst (v := 1) dX9_keepFound_32 rfl ?_
    refine r_iadd dX9_keepFound_33 ?_
    refine r_putI dX9_keepFound_34 lX9_19 ck7 nC7 ?_
    refine r_topS (fun S2 hS2 => ?_)
    replace h := lt_e hS2 h
    refine r_aload_n (x := 7) dX9_keepFound_37 rfl ?_
    obtain ⟨S4, h5, h⟩ := bV_e h
    refine r_cVV (y := mX9_keepSets) (As := []) (rest := []) dX9_keepFound_38 qX9_74 kX9_keepSets rfl ob7 vc9 rfl (okX9_keepSets N  S2 S4 h5) (by decide) (Nat.zero_le _) rfl (Nat.le_of_ble_eq_true rfl) ?_
    cases h
    exact r_return dX9_keepFound_41 rfl (Nat.zero_le _) ⟨rfl, rfl⟩
  · rw [if_pos c1] at h
    refine r_aload_n (x := 7) dX9_keepFound_7 rfl ?_
    refine r_iload_n (x := p0) dX9_keepFound_8 rfl ?_
    refine r_bipush (v := 10) dX9_keepFound_9 rfl ?_
    refine r_imul dX9_keepFound_11 ?_
    refine r_iload_n (x := p1) dX9_keepFound_12 rfl ?_
    refine r_iconst (v := (-1)) dX9_keepFound_13 rfl ?_
    obtain ⟨x7, hx7⟩ : ∃ y : Int32, y = ((if p1 = (-1) then 9 else p1) : Int32) := ⟨_, rfl⟩
    replace h := lt_e hx7 h
    have keyx7 : WP [] mX9_keepFound 1 0 (qV T) 23 [some (.ref 7), some (.int p0), some (.int p1)] (.int x7 :: [.int (p0 * 10), .ref 7]) S 0 := by
      refine r_iadd dX9_keepFound_23 ?_
      refine r_putI dX9_keepFound_24 lX9_23 ck7 nC7 ?_
      refine r_topS (fun S8 hS8 => ?_)
      replace h := lt_e hS8 h
      refine r_aload_n (x := 7) dX9_keepFound_27 rfl ?_
      refine r_dup_ref dX9_keepFound_28 ?_
      refine r_getfield (o := 7) (v := .int (S8.1 7 2)) dX9_keepFound_29 lX9_19 ck7 nC7 rfl ?_
      refine r_iconst (v := 1) dX9_keepFound_32 rfl ?_
      refine r_iadd dX9_keepFound_33 ?_
      refine r_putI dX9_keepFound_34 lX9_19 ck7 nC7 ?_
      refine r_topS (fun S9 hS9 => ?_)
      replace h := lt_e hS9 h
      refine r_aload_n (x := 7) dX9_keepFound_37 rfl ?_
      obtain ⟨S11, h12, h⟩ := bV_e h
      refine r_cVV (y := mX9_keepSets) (As := []) (rest := []) dX9_keepFound_38 qX9_74 kX9_keepSets rfl ob7 vc9 rfl (okX9_keepSets N  S9 S11 h12) (by decide) (Nat.zero_le _) rfl (Nat.le_of_ble_eq_true rfl) ?_
      cases h
      exact r_return dX9_keepFound_41 rfl (Nat.zero_le _) ⟨rfl, rfl⟩
    refine r_icmp_ne (tgt := 22) dX9_keepFound_14 (by decide) (fun c6 => ?_) (fun c6 => ?_)
    · refine r_iload_n (x := p1) dX9_keepFound_22 rfl ?_
      exact r_tope (by rw [hx7, if_neg c6]) keyx7
    · refine r_bipush (v := 9) dX9_keepFound_17 rfl ?_
      refine r_goto (tgt := 23) dX9_keepFound_19 (by decide) ?_
      exact r_tope (by rw [hx7, if_pos c6]) keyx7
def fX9_unlikeIn_4 (N : Nat) (v1 : Int32) : Nat → Int32 → Int32 → PS → Option (Int32 × Int32 × PS)
  | 0, _, _, _ => none
  | n + 1, v2, v3, S =>
    (if 8 ≤ v3 then
      some (v2, v3, S)
    else
      lt ((((v1 - 1) * 8) + v3) : Int32) fun x2 =>
      (if x2 < 0 then
        lt (v3 + 1 : Int32) fun x4 =>
        fX9_unlikeIn_4 N v1 n v2 x4 S
      else
        (if 320 ≤ x2 then
          lt (v3 + 1 : Int32) fun x6 =>
          fX9_unlikeIn_4 N v1 n v2 x6 S
        else
          gd (inr x2 320) <|
          bI (fJ13_bitCount_95d88 N (S.2.1 33 (ix x2)) S) fun x8 S9 =>
          lt ((v2 + x8) : Int32) fun x11 =>
          lt (v3 + 1 : Int32) fun x12 =>
          fX9_unlikeIn_4 N v1 n x11 x12 S9)))
set_option maxHeartbeats 4000000 in
set_option maxRecDepth 100000 in
theorem okX9_unlikeIn_4 (N : Nat) (v1 : Int32) (Q : OQ) (u : Nat) (hu : u ≤ 0) : ∀ (n : Nat) (v2 : Int32) (v3 : Int32) (S : PS) (y2 : Int32) (y3 : Int32) (T : PS), fX9_unlikeIn_4 N v1 n v2 v3 S = some (y2, y3, T) → WP [] mX9_unlikeIn 1 0 Q 54 [some (.ref 7), some (.int v1), some (.int y2), some (.int y3), none] [] T u → WP [] mX9_unlikeIn 1 0 Q 4 [some (.ref 7), some (.int v1), some (.int v2), some (.int v3), none] [] S u := by
  intro n
  induction n with
  | zero => intro v2 v3 S y2 y3 T h; rw [fX9_unlikeIn_4] at h; cases h
  | succ n ih =>
    intro v2 v3 S y2 y3 T h k0
    rw [fX9_unlikeIn_4] at h
    refine r_iload_n (x := v3) dX9_unlikeIn_4 rfl ?_
    refine r_bipush (v := 8) dX9_unlikeIn_5 rfl ?_
    refine r_icmp_ge (tgt := 54) dX9_unlikeIn_7 (by decide) (fun c1 => ?_) (fun c1 => ?_)
    · rw [if_pos c1] at h
      cases h
      exact k0
    · rw [if_neg c1] at h
      refine r_iload_n (x := v1) dX9_unlikeIn_10 rfl ?_
      refine r_iconst (v := 1) dX9_unlikeIn_11 rfl ?_
      refine r_isub dX9_unlikeIn_12 ?_
      refine r_bipush (v := 8) dX9_unlikeIn_13 rfl ?_
      refine r_imul dX9_unlikeIn_15 ?_
      refine r_iload_n (x := v3) dX9_unlikeIn_16 rfl ?_
      refine r_iadd dX9_unlikeIn_17 ?_
      refine r_topi (fun x2 hx2 => ?_)
      replace h := lt_e hx2 h
      refine r_istore (L' := [some (.ref 7), some (.int v1), some (.int v2), some (.int v3), some (.int x2)]) dX9_unlikeIn_18 (Nat.le_of_ble_eq_true rfl) rfl rfl ?_
      refine r_iload (x := x2) dX9_unlikeIn_20 rfl ?_
      refine r_if_lt (tgt := 48) dX9_unlikeIn_22 (by decide) (fun c3 => ?_) (fun c3 => ?_)
      · rw [if_pos c3] at h
        obtain ⟨x4, hx4⟩ : ∃ y : Int32, y = (v3 + 1 : Int32) := ⟨_, rfl⟩
        replace h := lt_e hx4 h
        refine r_iinc (x := v3) (v := x4) (L' := [some (.ref 7), some (.int v1), some (.int v2), some (.int x4), some (.int x2)]) dX9_unlikeIn_48 rfl (by rw [hx4]; rfl) (Nat.le_of_ble_eq_true rfl) rfl rfl ?_
        refine r_goto (tgt := 4) dX9_unlikeIn_51 (by decide) ?_
        refine r_drop [true, true, true, true, false] rfl ?_
        exact ih _ _ _ _ _ _ h k0
      · rw [if_neg c3] at h
        refine r_iload (x := x2) dX9_unlikeIn_25 rfl ?_
        refine r_aload_n (x := 7) dX9_unlikeIn_27 rfl ?_
        refine r_getfield (o := 7) (v := .ref 33) dX9_unlikeIn_28 lX9_15 ck7 nC7 rfl ?_
        refine r_alen (v := 320) dX9_unlikeIn_31 ck33 (by decide) nC33 rfl ?_
        refine r_icmp_ge (tgt := 48) dX9_unlikeIn_32 (by decide) (fun c5 => ?_) (fun c5 => ?_)
        · rw [if_pos c5] at h
          obtain ⟨x6, hx6⟩ : ∃ y : Int32, y = (v3 + 1 : Int32) := ⟨_, rfl⟩
          replace h := lt_e hx6 h
          refine r_iinc (x := v3) (v := x6) (L' := [some (.ref 7), some (.int v1), some (.int v2), some (.int x6), some (.int x2)]) dX9_unlikeIn_48 rfl (by rw [hx6]; rfl) (Nat.le_of_ble_eq_true rfl) rfl rfl ?_
          refine r_goto (tgt := 4) dX9_unlikeIn_51 (by decide) ?_
          refine r_drop [true, true, true, true, false] rfl ?_
          exact ih _ _ _ _ _ _ h k0
        · rw [if_neg c5] at h
          refine r_iload_n (x := v2) dX9_unlikeIn_35 rfl ?_
          refine r_aload_n (x := 7) dX9_unlikeIn_36 rfl ?_
          refine r_getfield (o := 7) (v := .ref 33) dX9_unlikeIn_37 lX9_15 ck7 nC7 rfl ?_
          refine r_iload (x := x2) dX9_unlikeIn_40 rfl ?_
          obtain ⟨g7, h⟩ := gd_e h
          refine r_laload (a := 33) dX9_unlikeIn_42 ck33 nC33 (inr_IX g7) ?_
          obtain ⟨x8, S9, h10, h⟩ := bI_e h
          refine r_cSI (y := mJ13_bitCount_95d88) (As := [.long (S.2.1 33 (ix x2))]) (rest := [.int v2]) dX9_unlikeIn_43 qX9_88 kJ13_bitCount_95d88 rfl (okJ13_bitCount_95d88 N (S.2.1 33 (ix x2)) S x8 S9 h10) (by decide) hu rfl (Nat.le_of_ble_eq_true rfl) ?_
          refine r_iadd dX9_unlikeIn_46 ?_
          refine r_topi (fun x11 hx11 => ?_)
          replace h := lt_e hx11 h
          refine r_istore_n (L' := [some (.ref 7), some (.int v1), some (.int x11), some (.int v3), some (.int x2)]) dX9_unlikeIn_47 (Nat.le_of_ble_eq_true rfl) rfl rfl ?_
          obtain ⟨x12, hx12⟩ : ∃ y : Int32, y = (v3 + 1 : Int32) := ⟨_, rfl⟩
          replace h := lt_e hx12 h
          refine r_iinc (x := v3) (v := x12) (L' := [some (.ref 7), some (.int v1), some (.int x11), some (.int x12), some (.int x2)]) dX9_unlikeIn_48 rfl (by rw [hx12]; rfl) (Nat.le_of_ble_eq_true rfl) rfl rfl ?_
          refine r_goto (tgt := 4) dX9_unlikeIn_51 (by decide) ?_
          refine r_drop [true, true, true, true, false] rfl ?_
          exact ih _ _ _ _ _ _ h k0
def fX9_unlikeIn (N : Nat) (p0 : Int32) (S : PS) : Option (Int32 × PS) :=
  bT (fX9_unlikeIn_4 N p0 N 0 0 S) fun q13 =>
  lt (q13.1 : Int32) fun x14 =>
  lt (q13.2.1 : Int32) fun x15 =>
  lt (q13.2.2 : PS) fun S16 =>
  some (x14, S16)
set_option maxHeartbeats 4000000 in
set_option maxRecDepth 100000 in
theorem okX9_unlikeIn (N : Nat) (p0 : Int32) (S : PS) (r : Int32) (T : PS) (h : fX9_unlikeIn N p0 S = some (r, T)) : CT mX9_unlikeIn 1 0 [.ref 7, .int p0] S (qI r T) := by
  refine ct_of [some (.ref 7), some (.int p0), none, none, none] rfl (fun _ => rfl) (fun _ => Nat.le_of_ble_eq_true rfl) ?_
  unfold fX9_unlikeIn at h
  refine r_iconst (v := 0) dX9_unlikeIn_0 rfl ?_
  refine r_istore_n (L' := [some (.ref 7), some (.int p0), some (.int 0), none, none]) dX9_unlikeIn_1 (Nat.le_of_ble_eq_true rfl) rfl rfl ?_
  refine r_iconst (v := 0) dX9_unlikeIn_2 rfl ?_
  refine r_istore_n (L' := [some (.ref 7), some (.int p0), some (.int 0), some (.int 0), none]) dX9_unlikeIn_3 (Nat.le_of_ble_eq_true rfl) rfl rfl ?_
  obtain ⟨⟨x14, x15, S16⟩, h18, h⟩ := bT_e h
  dsimp only at h
  replace h := pl_s (pl_s (pl_s (h)))
  refine okX9_unlikeIn_4 N p0 (qI r T) 0 (Nat.zero_le _) _ _ _ _ _ _ _ h18 ?_
  refine r_iload_n (x := x14) dX9_unlikeIn_54 rfl ?_
  cases h
  exact r_ireturn dX9_unlikeIn_55 rfl (Nat.zero_le _) ⟨rfl, rfl⟩
def fX10_take_8 (N : Nat)  : Nat → PS → Option (PS)
  | 0, _ => none
  | n + 1, S =>
    (if (S.1 2 2) ≤ (S.1 2 3) then
      some S
    else
      gd (inr (S.1 2 3) 700) <|
      bI (fX10_isBlank N (S.1 26 (ix (S.1 2 3))) S) fun x4 S5 =>
      (if x4 = 0 then
        some S5
      else
        lt ((u2 S5.1 2 3 ((S5.1 2 3) + 1), S5.2) : PS) fun S8 =>
        fX10_take_8 N  n  S8))
set_option maxHeartbeats 4000000 in
set_option maxRecDepth 100000 in
theorem okX10_take_8 (N : Nat)  (Q : OQ) (u : Nat) (hu : u ≤ 0) : ∀ (n : Nat)  (S : PS)  (T : PS), fX10_take_8 N  n  S = some T → WP [] mX10_take 1 0 Q 47 [some (.ref 2)] [] T u → WP [] mX10_take 1 0 Q 8 [some (.ref 2)] [] S u := by
  intro n
  induction n with
  | zero => intro S T h; rw [fX10_take_8] at h; cases h
  | succ n ih =>
    intro S T h k0
    rw [fX10_take_8] at h
    refine r_aload_n (x := 2) dX10_take_8 rfl ?_
    refine r_getfield (o := 2) (v := .int (S.1 2 3)) dX10_take_9 lX10_22 ck2 nC2 rfl ?_
    refine r_aload_n (x := 2) dX10_take_12 rfl ?_
    refine r_getfield (o := 2) (v := .int (S.1 2 2)) dX10_take_13 lX10_19 ck2 nC2 rfl ?_
    refine r_icmp_ge (tgt := 47) dX10_take_16 (by decide) (fun c2 => ?_) (fun c2 => ?_)
    · rw [if_pos c2] at h
      cases h
      exact k0
    · rw [if_neg c2] at h
      refine r_aload_n (x := 2) dX10_take_19 rfl ?_
      refine r_getfield (o := 2) (v := .ref 26) dX10_take_20 lX10_9 ck2 nC2 rfl ?_
      refine r_aload_n (x := 2) dX10_take_23 rfl ?_
      refine r_getfield (o := 2) (v := .int (S.1 2 3)) dX10_take_24 lX10_22 ck2 nC2 rfl ?_
      obtain ⟨g3, h⟩ := gd_e h
      refine r_baload (a := 26) dX10_take_27 ck26 nC26 (inr_IX g3) ?_
      obtain ⟨x4, S5, h6, h⟩ := bI_e h
      refine r_cSI (y := mX10_isBlank) (As := [.int (S.1 26 (ix (S.1 2 3)))]) (rest := []) dX10_take_28 qX10_46 kX10_isBlank rfl (okX10_isBlank N (S.1 26 (ix (S.1 2 3))) S x4 S5 h6) (by decide) hu rfl (Nat.le_of_ble_eq_true rfl) ?_
      refine r_if_eq (tgt := 47) dX10_take_31 (by decide) (fun c7 => ?_) (fun c7 => ?_)
      · rw [if_pos c7] at h
        cases h
        exact k0
      · rw [if_neg c7] at h
        refine r_aload_n (x := 2) dX10_take_34 rfl ?_
        refine r_dup_ref dX10_take_35 ?_
        refine r_getfield (o := 2) (v := .int (S5.1 2 3)) dX10_take_36 lX10_22 ck2 nC2 rfl ?_
        refine r_iconst (v := 1) dX10_take_39 rfl ?_
        refine r_iadd dX10_take_40 ?_
        refine r_putI dX10_take_41 lX10_22 ck2 nC2 ?_
        refine r_topS (fun S8 hS8 => ?_)
        replace h := lt_e hS8 h
        refine r_goto (tgt := 8) dX10_take_44 (by decide) ?_
        exact ih _ _ h k0
def fX10_take_158 (N : Nat)  : Nat → PS → Option (PS)
  | 0, _ => none
  | n + 1, S =>
    (if (S.1 2 2) ≤ (S.1 2 4) then
      some S
    else
      gd (inr (S.1 2 4) 700) <|
      bI (fX10_isDigit N (S.1 26 (ix (S.1 2 4))) S) fun x31 S32 =>
      (if x31 = 0 then
        some S32
      else
        (if 4 ≤ ((S32.1 2 4) - (S32.1 2 3)) then
          lt ((u2 S32.1 2 6 (S32.1 2 6), S32.2) : PS) fun S36 =>
          lt ((u2 S36.1 2 4 ((S36.1 2 4) + 1), S36.2) : PS) fun S37 =>
          fX10_take_158 N  n  S37
        else
          gd (inr (S32.1 2 4) 700) <|
          lt ((u2 S32.1 2 6 ((((S32.1 2 6) * 10) + (S32.1 26 (ix (S32.1 2 4)))) - 48), S32.2) : PS) fun S39 =>
          lt ((u2 S39.1 2 4 ((S39.1 2 4) + 1), S39.2) : PS) fun S40 =>
          fX10_take_158 N  n  S40)))
set_option maxHeartbeats 4000000 in
set_option maxRecDepth 100000 in
theorem okX10_take_158 (N : Nat)  (Q : OQ) (u : Nat) (hu : u ≤ 0) : ∀ (n : Nat)  (S : PS)  (T : PS), fX10_take_158 N  n  S = some T → WP [] mX10_take 1 0 Q 256 [some (.ref 2)] [] T u → WP [] mX10_take 1 0 Q 158 [some (.ref 2)] [] S u := by
  intro n
  induction n with
  | zero => intro S T h; rw [fX10_take_158] at h; cases h
  | succ n ih =>
    intro S T h k0
    rw [fX10_take_158] at h
    refine r_aload_n (x := 2) dX10_take_158 rfl ?_
    refine r_getfield (o := 2) (v := .int (S.1 2 4)) dX10_take_159 lX10_25 ck2 nC2 rfl ?_
    refine r_aload_n (x := 2) dX10_take_162 rfl ?_
    refine r_getfield (o := 2) (v := .int (S.1 2 2)) dX10_take_163 lX10_19 ck2 nC2 rfl ?_
    refine r_icmp_ge (tgt := 256) dX10_take_166 (by decide) (fun c29 => ?_) (fun c29 => ?_)
    · rw [if_pos c29] at h
      cases h
      exact k0
    · rw [if_neg c29] at h
      refine r_aload_n (x := 2) dX10_take_169 rfl ?_
      refine r_getfield (o := 2) (v := .ref 26) dX10_take_170 lX10_9 ck2 nC2 rfl ?_
      refine r_aload_n (x := 2) dX10_take_173 rfl ?_
      refine r_getfield (o := 2) (v := .int (S.1 2 4)) dX10_take_174 lX10_25 ck2 nC2 rfl ?_
      obtain ⟨g30, h⟩ := gd_e h
      refine r_baload (a := 26) dX10_take_177 ck26 nC26 (inr_IX g30) ?_
      obtain ⟨x31, S32, h33, h⟩ := bI_e h
      refine r_cSI (y := mX10_isDigit) (As := [.int (S.1 26 (ix (S.1 2 4)))]) (rest := []) dX10_take_178 qX10_53 kX10_isDigit rfl (okX10_isDigit N (S.1 26 (ix (S.1 2 4))) S x31 S32 h33) (by decide) hu rfl (Nat.le_of_ble_eq_true rfl) ?_
      refine r_if_eq (tgt := 256) dX10_take_181 (by decide) (fun c34 => ?_) (fun c34 => ?_)
      · rw [if_pos c34] at h
        cases h
        exact k0
      · rw [if_neg c34] at h
        refine r_aload_n (x := 2) dX10_take_184 rfl ?_
        refine r_aload_n (x := 2) dX10_take_185 rfl ?_
        refine r_getfield (o := 2) (v := .int (S32.1 2 4)) dX10_take_186 lX10_25 ck2 nC2 rfl ?_
        refine r_aload_n (x := 2) dX10_take_189 rfl ?_
        refine r_getfield (o := 2) (v := .int (S32.1 2 3)) dX10_take_190 lX10_22 ck2 nC2 rfl ?_
        refine r_isub dX10_take_193 ?_
        refine r_iconst (v := 4) dX10_take_194 rfl ?_
        refine r_icmp_ge (tgt := 221) dX10_take_195 (by decide) (fun c35 => ?_) (fun c35 => ?_)
        · rw [if_pos c35] at h
          refine r_aload_n (x := 2) dX10_take_221 rfl ?_
          refine r_getfield (o := 2) (v := .int (S32.1 2 6)) dX10_take_222 lX10_31 ck2 nC2 rfl ?_
          refine r_putI dX10_take_225 lX10_31 ck2 nC2 ?_
          refine r_topS (fun S36 hS36 => ?_)
          replace h := lt_e hS36 h
          refine r_aload_n (x := 2) dX10_take_228 rfl ?_
          refine r_dup_ref dX10_take_229 ?_
          refine r_getfield (o := 2) (v := .int (S36.1 2 4)) dX10_take_230 lX10_25 ck2 nC2 rfl ?_
          refine r_iconst (v := 1) dX10_take_233 rfl ?_
          refine r_iadd dX10_take_234 ?_
          refine r_putI dX10_take_235 lX10_25 ck2 nC2 ?_
          refine r_topS (fun S37 hS37 => ?_)
          replace h := lt_e hS37 h
          refine r_goto (tgt := 158) dX10_take_238 (by decide) ?_
          exact ih _ _ h k0
        · rw [if_neg c35] at h
          refine r_aload_n (x := 2) dX10_take_198 rfl ?_
          refine r_getfield (o := 2) (v := .int (S32.1 2 6)) dX10_take_199 lX10_31 ck2 nC2 rfl ?_
          refine r_bipush (v := 10) dX10_take_202 rfl ?_
          refine r_imul dX10_take_204 ?_
          refine r_aload_n (x := 2) dX10_take_205 rfl ?_
          refine r_getfield (o := 2) (v := .ref 26) dX10_take_206 lX10_9 ck2 nC2 rfl ?_
          refine r_aload_n (x := 2) dX10_take_209 rfl ?_
          refine r_getfield (o := 2) (v := .int (S32.1 2 4)) dX10_take_210 lX10_25 ck2 nC2 rfl ?_
          obtain ⟨g38, h⟩ := gd_e h
          refine r_baload (a := 26) dX10_take_213 ck26 nC26 (inr_IX g38) ?_
          refine r_iadd dX10_take_214 ?_
          refine r_bipush (v := 48) dX10_take_215 rfl ?_
          refine r_isub dX10_take_217 ?_
          refine r_goto (tgt := 225) dX10_take_218 (by decide) ?_
          refine r_putI dX10_take_225 lX10_31 ck2 nC2 ?_
          refine r_topS (fun S39 hS39 => ?_)
          replace h := lt_e hS39 h
          refine r_aload_n (x := 2) dX10_take_228 rfl ?_
          refine r_dup_ref dX10_take_229 ?_
          refine r_getfield (o := 2) (v := .int (S39.1 2 4)) dX10_take_230 lX10_25 ck2 nC2 rfl ?_
          refine r_iconst (v := 1) dX10_take_233 rfl ?_
          refine r_iadd dX10_take_234 ?_
          refine r_putI dX10_take_235 lX10_25 ck2 nC2 ?_
          refine r_topS (fun S40 hS40 => ?_)
          replace h := lt_e hS40 h
          refine r_goto (tgt := 158) dX10_take_238 (by decide) ?_
          exact ih _ _ h k0
def fX10_take_94 (N : Nat)  : Nat → PS → Option (PS)
  | 0, _ => none
  | n + 1, S =>
    (if (S.1 2 2) ≤ (S.1 2 4) then
      some S
    else
      gd (inr (S.1 2 4) 700) <|
      bI (fX10_isLetter N (S.1 26 (ix (S.1 2 4))) S) fun x48 S49 =>
      (if x48 = 0 then
        some S49
      else
        lt ((u2 S49.1 2 4 ((S49.1 2 4) + 1), S49.2) : PS) fun S52 =>
        fX10_take_94 N  n  S52))
set_option maxHeartbeats 4000000 in
set_option maxRecDepth 100000 in
theorem okX10_take_94 (N : Nat)  (Q : OQ) (u : Nat) (hu : u ≤ 0) : ∀ (n : Nat)  (S : PS)  (T : PS), fX10_take_94 N  n  S = some T → WP [] mX10_take 1 0 Q 256 [some (.ref 2)] [] T u → WP [] mX10_take 1 0 Q 94 [some (.ref 2)] [] S u := by
  intro n
  induction n with
  | zero => intro S T h; rw [fX10_take_94] at h; cases h
  | succ n ih =>
    intro S T h k0
    rw [fX10_take_94] at h
    refine r_aload_n (x := 2) dX10_take_94 rfl ?_
    refine r_getfield (o := 2) (v := .int (S.1 2 4)) dX10_take_95 lX10_25 ck2 nC2 rfl ?_
    refine r_aload_n (x := 2) dX10_take_98 rfl ?_
    refine r_getfield (o := 2) (v := .int (S.1 2 2)) dX10_take_99 lX10_19 ck2 nC2 rfl ?_
    refine r_icmp_ge (tgt := 256) dX10_take_102 (by decide) (fun c46 => ?_) (fun c46 => ?_)
    · rw [if_pos c46] at h
      cases h
      exact k0
    · rw [if_neg c46] at h
      refine r_aload_n (x := 2) dX10_take_105 rfl ?_
      refine r_getfield (o := 2) (v := .ref 26) dX10_take_106 lX10_9 ck2 nC2 rfl ?_
      refine r_aload_n (x := 2) dX10_take_109 rfl ?_
      refine r_getfield (o := 2) (v := .int (S.1 2 4)) dX10_take_110 lX10_25 ck2 nC2 rfl ?_
      obtain ⟨g47, h⟩ := gd_e h
      refine r_baload (a := 26) dX10_take_113 ck26 nC26 (inr_IX g47) ?_
      obtain ⟨x48, S49, h50, h⟩ := bI_e h
      refine r_cSI (y := mX10_isLetter) (As := [.int (S.1 26 (ix (S.1 2 4)))]) (rest := []) dX10_take_114 qX10_50 kX10_isLetter rfl (okX10_isLetter N (S.1 26 (ix (S.1 2 4))) S x48 S49 h50) (by decide) hu rfl (Nat.le_of_ble_eq_true rfl) ?_
      refine r_if_eq (tgt := 256) dX10_take_117 (by decide) (fun c51 => ?_) (fun c51 => ?_)
      · rw [if_pos c51] at h
        cases h
        exact k0
      · rw [if_neg c51] at h
        refine r_aload_n (x := 2) dX10_take_120 rfl ?_
        refine r_dup_ref dX10_take_121 ?_
        refine r_getfield (o := 2) (v := .int (S49.1 2 4)) dX10_take_122 lX10_25 ck2 nC2 rfl ?_
        refine r_iconst (v := 1) dX10_take_125 rfl ?_
        refine r_iadd dX10_take_126 ?_
        refine r_putI dX10_take_127 lX10_25 ck2 nC2 ?_
        refine r_topS (fun S52 hS52 => ?_)
        replace h := lt_e hS52 h
        refine r_goto (tgt := 94) dX10_take_130 (by decide) ?_
        exact ih _ _ h k0
def fX10_take (N : Nat)  (S : PS) : Option PS :=
  lt ((u2 S.1 2 3 (S.1 2 4), S.2) : PS) fun S1 =>
  bT (fX10_take_8 N  N  S1) fun S10 =>
  lt ((u2 S10.1 2 4 (S10.1 2 3), S10.2) : PS) fun S13 =>
  (if (S13.1 2 3) < (S13.1 2 2) then
    gd (inr (S13.1 2 3) 700) <|
    bI (fX10_isLetter N (S13.1 26 (ix (S13.1 2 3))) S13) fun x16 S17 =>
    (if x16 = 0 then
      gd (inr (S17.1 2 3) 700) <|
      bI (fX10_isDigit N (S17.1 26 (ix (S17.1 2 3))) S17) fun x21 S22 =>
      (if x21 = 0 then
        lt ((u2 S22.1 2 5 3, S22.2) : PS) fun S25 =>
        lt ((u2 S25.1 2 4 ((S25.1 2 4) + 1), S25.2) : PS) fun S26 =>
        some S26
      else
        lt ((u2 S22.1 2 5 2, S22.2) : PS) fun S27 =>
        lt ((u2 S27.1 2 6 0, S27.2) : PS) fun S28 =>
        bT (fX10_take_158 N  N  S28) fun S42 =>
        some S42)
    else
      lt ((u2 S17.1 2 5 1, S17.2) : PS) fun S45 =>
      bT (fX10_take_94 N  N  S45) fun S54 =>
      some S54)
  else
    lt ((u2 S13.1 2 5 0, S13.2) : PS) fun S57 =>
    some S57)
set_option maxHeartbeats 4000000 in
set_option maxRecDepth 100000 in
theorem okX10_take (N : Nat)  (S : PS) (T : PS) (h : fX10_take N  S = some T) : CT mX10_take 1 0 [.ref 2] S (qV T) := by
  refine ct_of [some (.ref 2)] rfl (fun _ => rfl) (fun _ => Nat.le_of_ble_eq_true rfl) ?_
  unfold fX10_take at h
  refine r_aload_n (x := 2) dX10_take_0 rfl ?_
  refine r_aload_n (x := 2) dX10_take_1 rfl ?_
  refine r_getfield (o := 2) (v := .int (S.1 2 4)) dX10_take_2 lX10_25 ck2 nC2 rfl ?_
  refine r_putI dX10_take_5 lX10_22 ck2 nC2 ?_
  refine r_topS (fun S1 hS1 => ?_)
  replace h := lt_e hS1 h
  obtain ⟨S10, h12, h⟩ := bT_e h
  refine okX10_take_8 N  (qV T) 0 (Nat.zero_le _) _ _ _ h12 ?_
  refine r_aload_n (x := 2) dX10_take_47 rfl ?_
  refine r_aload_n (x := 2) dX10_take_48 rfl ?_
  refine r_getfield (o := 2) (v := .int (S10.1 2 3)) dX10_take_49 lX10_22 ck2 nC2 rfl ?_
  refine r_putI dX10_take_52 lX10_25 ck2 nC2 ?_
  refine r_topS (fun S13 hS13 => ?_)
  replace h := lt_e hS13 h
  refine r_aload_n (x := 2) dX10_take_55 rfl ?_
  refine r_getfield (o := 2) (v := .int (S13.1 2 3)) dX10_take_56 lX10_22 ck2 nC2 rfl ?_
  refine r_aload_n (x := 2) dX10_take_59 rfl ?_
  refine r_getfield (o := 2) (v := .int (S13.1 2 2)) dX10_take_60 lX10_19 ck2 nC2 rfl ?_
  refine r_icmp_lt (tgt := 74) dX10_take_63 (by decide) (fun c14 => ?_) (fun c14 => ?_)
  · rw [if_pos c14] at h
    refine r_aload_n (x := 2) dX10_take_74 rfl ?_
    refine r_getfield (o := 2) (v := .ref 26) dX10_take_75 lX10_9 ck2 nC2 rfl ?_
    refine r_aload_n (x := 2) dX10_take_78 rfl ?_
    refine r_getfield (o := 2) (v := .int (S13.1 2 3)) dX10_take_79 lX10_22 ck2 nC2 rfl ?_
    obtain ⟨g15, h⟩ := gd_e h
    refine r_baload (a := 26) dX10_take_82 ck26 nC26 (inr_IX g15) ?_
    obtain ⟨x16, S17, h18, h⟩ := bI_e h
    refine r_cSI (y := mX10_isLetter) (As := [.int (S13.1 26 (ix (S13.1 2 3)))]) (rest := []) dX10_take_83 qX10_50 kX10_isLetter rfl (okX10_isLetter N (S13.1 26 (ix (S13.1 2 3))) S13 x16 S17 h18) (by decide) (Nat.zero_le _) rfl (Nat.le_of_ble_eq_true rfl) ?_
    refine r_if_eq (tgt := 133) dX10_take_86 (by decide) (fun c19 => ?_) (fun c19 => ?_)
    · rw [if_pos c19] at h
      refine r_aload_n (x := 2) dX10_take_133 rfl ?_
      refine r_getfield (o := 2) (v := .ref 26) dX10_take_134 lX10_9 ck2 nC2 rfl ?_
      refine r_aload_n (x := 2) dX10_take_137 rfl ?_
      refine r_getfield (o := 2) (v := .int (S17.1 2 3)) dX10_take_138 lX10_22 ck2 nC2 rfl ?_
      obtain ⟨g20, h⟩ := gd_e h
      refine r_baload (a := 26) dX10_take_141 ck26 nC26 (inr_IX g20) ?_
      obtain ⟨x21, S22, h23, h⟩ := bI_e h
      refine r_cSI (y := mX10_isDigit) (As := [.int (S17.1 26 (ix (S17.1 2 3)))]) (rest := []) dX10_take_142 qX10_53 kX10_isDigit rfl (okX10_isDigit N (S17.1 26 (ix (S17.1 2 3))) S17 x21 S22 h23) (by decide) (Nat.zero_le _) rfl (Nat.le_of_ble_eq_true rfl) ?_
      refine r_if_eq (tgt := 241) dX10_take_145 (by decide) (fun c24 => ?_) (fun c24 => ?_)
      · rw [if_pos c24] at h
        refine r_aload_n (x := 2) dX10_take_241 rfl ?_
        refine r_iconst (v := 3) dX10_take_242 rfl ?_
        refine r_putI dX10_take_243 lX10_28 ck2 nC2 ?_
        refine r_topS (fun S25 hS25 => ?_)
        replace h := lt_e hS25 h
        refine r_aload_n (x := 2) dX10_take_246 rfl ?_
        refine r_dup_ref dX10_take_247 ?_
        refine r_getfield (o := 2) (v := .int (S25.1 2 4)) dX10_take_248 lX10_25 ck2 nC2 rfl ?_
        refine r_iconst (v := 1) dX10_take_251 rfl ?_
        refine r_iadd dX10_take_252 ?_
        refine r_putI dX10_take_253 lX10_25 ck2 nC2 ?_
        refine r_topS (fun S26 hS26 => ?_)
        replace h := lt_e hS26 h
        cases h
        exact r_return dX10_take_256 rfl (Nat.zero_le _) ⟨rfl, rfl⟩
      · rw [if_neg c24] at h
        refine r_aload_n (x := 2) dX10_take_148 rfl ?_
        refine r_iconst (v := 2) dX10_take_149 rfl ?_
        refine r_putI dX10_take_150 lX10_28 ck2 nC2 ?_
        refine r_topS (fun S27 hS27 => ?_)
        replace h := lt_e hS27 h
        refine r_aload_n (x := 2) dX10_take_153 rfl ?_
        refine r_iconst (v := 0) dX10_take_154 rfl ?_
        refine r_putI dX10_take_155 lX10_31 ck2 nC2 ?_
        refine r_topS (fun S28 hS28 => ?_)
        replace h := lt_e hS28 h
        obtain ⟨S42, h44, h⟩ := bT_e h
        refine okX10_take_158 N  (qV T) 0 (Nat.zero_le _) _ _ _ h44 ?_
        cases h
        exact r_return dX10_take_256 rfl (Nat.zero_le _) ⟨rfl, rfl⟩
    · rw [if_neg c19] at h
      refine r_aload_n (x := 2) dX10_take_89 rfl ?_
      refine r_iconst (v := 1) dX10_take_90 rfl ?_
      refine r_putI dX10_take_91 lX10_28 ck2 nC2 ?_
      refine r_topS (fun S45 hS45 => ?_)
      replace h := lt_e hS45 h
      obtain ⟨S54, h56, h⟩ := bT_e h
      refine okX10_take_94 N  (qV T) 0 (Nat.zero_le _) _ _ _ h56 ?_
      cases h
      exact r_return dX10_take_256 rfl (Nat.zero_le _) ⟨rfl, rfl⟩
  · rw [if_neg c14] at h
    refine r_aload_n (x := 2) dX10_take_66 rfl ?_
    refine r_iconst (v := 0) dX10_take_67 rfl ?_
    refine r_putI dX10_take_68 lX10_28 ck2 nC2 ?_
    refine r_topS (fun S57 hS57 => ?_)
    replace h := lt_e hS57 h
    refine r_goto (tgt := 256) dX10_take_71 (by decide) ?_
    cases h
    exact r_return dX10_take_256 rfl (Nat.zero_le _) ⟨rfl, rfl⟩
def fX11_undo (N : Nat)  (S : PS) : Option (Int32 × PS) :=
  (if (S.1 8 1) = 0 then
    some ((-1), S)
  else
    bV (fX0_takeBack N 8 18 S) fun S3 =>
    some ((S3.1 8 1), S3))
set_option maxHeartbeats 4000000 in
set_option maxRecDepth 100000 in
theorem okX11_undo (N : Nat)  (S : PS) (r : Int32) (T : PS) (h : fX11_undo N  S = some (r, T)) : CT mX11_undo 5 0 [.ref 0] S (qI r T) := by
  refine ct_of [some (.ref 0)] rfl (fun _ => rfl) (fun _ => Nat.le_of_ble_eq_true rfl) ?_
  unfold fX11_undo at h
  refine r_aload_n (x := 0) dX11_undo_0 rfl ?_
  refine r_getfield (o := 0) (v := .ref 3) dX11_undo_1 lX11_19 ck0 nC0 rfl ?_
  refine r_getfield (o := 3) (v := .ref 8) dX11_undo_4 lX11_139 ck3 nC3 rfl ?_
  refine r_getfield (o := 8) (v := .int (S.1 8 1)) dX11_undo_7 lX11_143 ck8 nC8 rfl ?_
  refine r_if_ne (tgt := 15) dX11_undo_10 (by decide) (fun c1 => ?_) (fun c1 => ?_)
  · rw [if_neg c1] at h
    refine r_aload_n (x := 0) dX11_undo_15 rfl ?_
    refine r_getfield (o := 0) (v := .ref 3) dX11_undo_16 lX11_19 ck0 nC0 rfl ?_
    refine r_getfield (o := 3) (v := .ref 8) dX11_undo_19 lX11_139 ck3 nC3 rfl ?_
    refine r_aload_n (x := 0) dX11_undo_22 rfl ?_
    refine r_getfield (o := 0) (v := .ref 3) dX11_undo_23 lX11_19 ck0 nC0 rfl ?_
    refine r_getfield (o := 3) (v := .ref 18) dX11_undo_26 lX11_116 ck3 nC3 rfl ?_
    obtain ⟨S3, h4, h⟩ := bV_e h
    refine r_cVV (y := mX0_takeBack) (As := [.ref 18]) (rest := []) dX11_undo_29 qX11_214 kX0_takeBack rfl ob8 vc0 rfl (okX0_takeBack N 8 18 S S3 h4) (by decide) (Nat.zero_le _) rfl (Nat.le_of_ble_eq_true rfl) ?_
    refine r_aload_n (x := 0) dX11_undo_32 rfl ?_
    refine r_getfield (o := 0) (v := .ref 3) dX11_undo_33 lX11_19 ck0 nC0 rfl ?_
    refine r_getfield (o := 3) (v := .ref 8) dX11_undo_36 lX11_139 ck3 nC3 rfl ?_
    refine r_getfield (o := 8) (v := .int (S3.1 8 1)) dX11_undo_39 lX11_143 ck8 nC8 rfl ?_
    cases h
    exact r_ireturn dX11_undo_42 rfl (Nat.zero_le _) ⟨rfl, rfl⟩
  · rw [if_pos c1] at h
    refine r_iconst (v := (-1)) dX11_undo_13 rfl ?_
    cases h
    exact r_ireturn dX11_undo_14 rfl (Nat.zero_le _) ⟨rfl, rfl⟩
def fX11_drawAct (N : Nat)  (S : PS) : Option PS :=
  bI (fX11_draw N 6 S) fun x1 S2 =>
  (if 2 < x1 then
    some S2
  else
    lt ((S2.2.2 5 3) : Nat) fun o5 =>
    gd (obj o5 1) <|
    (if (S2.1 o5 4) = 0 then
      some S2
    else
      lt ((S2.2.2 5 3) : Nat) fun o8 =>
      gd (obj o8 1) <|
      bI (fX11_draw N (S2.1 o8 4) S2) fun x10 S11 =>
      (if x1 = 0 then
        lt ((S11.2.2 5 4) : Nat) fun o35 =>
        lt ((S11.2.2 5 4) : Nat) fun o36 =>
        gd (obj o36 2) <|
        bI (fX2_isPlugged N o36 x10 S11) fun x37 S38 =>
        lt ((if x37 = 0 then 1 else 0) : Int32) fun x42 =>
        gd (obj o35 2) <|
        bV (fX2_setPlugged N o35 x10 x42 S38) fun S44 =>
        some S44
      else
        (if x1 = 1 then
          lt ((S11.2.2 5 4) : Nat) fun o27 =>
          bI (fX11_draw N 30 S11) fun x28 S29 =>
          gd (obj o27 2) <|
          bV (fX2_setHolds N o27 x10 (x28 + 1) S29) fun S32 =>
          some S32
        else
          lt ((S11.2.2 5 3) : Nat) fun o15 =>
          gd (obj o15 1) <|
          bI (fX11_draw N (S11.1 o15 4) S11) fun x17 S18 =>
          lt ((S18.2.2 5 4) : Nat) fun o20 =>
          lt ((if x17 ≤ x10 then (-1) else x17) : Int32) fun x22 =>
          gd (obj o20 2) <|
          bV (fX2_setInto N o20 x10 x22 S18) fun S24 =>
          some S24))))
set_option maxHeartbeats 4000000 in
set_option maxRecDepth 100000 in
theorem okX11_drawAct (N : Nat)  (S : PS) (T : PS) (h : fX11_drawAct N  S = some T) : CT mX11_drawAct 2 0 [.ref 0] S (qV T) := by
  refine ct_of [some (.ref 0), none, none, none] rfl (fun _ => rfl) (fun _ => Nat.le_of_ble_eq_true rfl) ?_
  unfold fX11_drawAct at h
  refine r_aload_n (x := 0) dX11_drawAct_0 rfl ?_
  refine r_bipush (v := 6) dX11_drawAct_1 rfl ?_
  obtain ⟨x1, S2, h3, h⟩ := bI_e h
  refine r_cVI (y := mX11_draw) (As := [.int 6]) (rest := []) dX11_drawAct_3 qX11_366 kX11_draw rfl ob0 vc11 rfl (okX11_draw N 6 S x1 S2 h3) (by decide) (Nat.zero_le _) rfl (Nat.le_of_ble_eq_true rfl) ?_
  refine r_istore_n (L' := [some (.ref 0), some (.int x1), none, none]) dX11_drawAct_6 (Nat.le_of_ble_eq_true rfl) rfl rfl ?_
  refine r_iload_n (x := x1) dX11_drawAct_7 rfl ?_
  refine r_iconst (v := 2) dX11_drawAct_8 rfl ?_
  refine r_icmp_gt (tgt := 25) dX11_drawAct_9 (by decide) (fun c4 => ?_) (fun c4 => ?_)
  · rw [if_pos c4] at h
    cases h
    exact r_return dX11_drawAct_25 rfl (Nat.zero_le _) ⟨rfl, rfl⟩
  · rw [if_neg c4] at h
    refine r_aload_n (x := 0) dX11_drawAct_12 rfl ?_
    refine r_getfield (o := 0) (v := .ref 5) dX11_drawAct_13 lX11_29 ck0 nC0 rfl ?_
    refine r_getfield (o := 5) (v := .ref (S2.2.2 5 3)) dX11_drawAct_16 lX11_92 ck5 nC5 rfl ?_
    refine r_topr (fun o5 ho5 => ?_)
    replace h := lt_e ho5 h
    obtain ⟨g6, h⟩ := gd_e h
    refine r_getfield (o := o5) (v := .int (S2.1 o5 4)) dX11_drawAct_19 lX11_113 g6.1 g6.2 rfl ?_
    refine r_if_ne (tgt := 26) dX11_drawAct_22 (by decide) (fun c7 => ?_) (fun c7 => ?_)
    · rw [if_neg c7] at h
      refine r_aload_n (x := 0) dX11_drawAct_26 rfl ?_
      refine r_aload_n (x := 0) dX11_drawAct_27 rfl ?_
      refine r_getfield (o := 0) (v := .ref 5) dX11_drawAct_28 lX11_29 ck0 nC0 rfl ?_
      refine r_getfield (o := 5) (v := .ref (S2.2.2 5 3)) dX11_drawAct_31 lX11_92 ck5 nC5 rfl ?_
      refine r_topr (fun o8 ho8 => ?_)
      replace h := lt_e ho8 h
      obtain ⟨g9, h⟩ := gd_e h
      refine r_getfield (o := o8) (v := .int (S2.1 o8 4)) dX11_drawAct_34 lX11_113 g9.1 g9.2 rfl ?_
      obtain ⟨x10, S11, h12, h⟩ := bI_e h
      refine r_cVI (y := mX11_draw) (As := [.int (S2.1 o8 4)]) (rest := []) dX11_drawAct_37 qX11_366 kX11_draw rfl ob0 vc11 rfl (okX11_draw N (S2.1 o8 4) S2 x10 S11 h12) (by decide) (Nat.zero_le _) rfl (Nat.le_of_ble_eq_true rfl) ?_
      refine r_istore_n (L' := [some (.ref 0), some (.int x1), some (.int x10), none]) dX11_drawAct_40 (Nat.le_of_ble_eq_true rfl) rfl rfl ?_
      refine r_iload_n (x := x1) dX11_drawAct_41 rfl ?_
      refine r_if_ne (tgt := 78) dX11_drawAct_42 (by decide) (fun c13 => ?_) (fun c13 => ?_)
      · rw [if_neg c13] at h
        refine r_iload_n (x := x1) dX11_drawAct_78 rfl ?_
        refine r_iconst (v := 1) dX11_drawAct_79 rfl ?_
        refine r_icmp_ne (tgt := 105) dX11_drawAct_80 (by decide) (fun c14 => ?_) (fun c14 => ?_)
        · rw [if_neg c14] at h
          refine r_aload_n (x := 0) dX11_drawAct_105 rfl ?_
          refine r_aload_n (x := 0) dX11_drawAct_106 rfl ?_
          refine r_getfield (o := 0) (v := .ref 5) dX11_drawAct_107 lX11_29 ck0 nC0 rfl ?_
          refine r_getfield (o := 5) (v := .ref (S11.2.2 5 3)) dX11_drawAct_110 lX11_92 ck5 nC5 rfl ?_
          refine r_topr (fun o15 ho15 => ?_)
          replace h := lt_e ho15 h
          obtain ⟨g16, h⟩ := gd_e h
          refine r_getfield (o := o15) (v := .int (S11.1 o15 4)) dX11_drawAct_113 lX11_113 g16.1 g16.2 rfl ?_
          obtain ⟨x17, S18, h19, h⟩ := bI_e h
          refine r_cVI (y := mX11_draw) (As := [.int (S11.1 o15 4)]) (rest := []) dX11_drawAct_116 qX11_366 kX11_draw rfl ob0 vc11 rfl (okX11_draw N (S11.1 o15 4) S11 x17 S18 h19) (by decide) (Nat.zero_le _) rfl (Nat.le_of_ble_eq_true rfl) ?_
          refine r_istore_n (L' := [some (.ref 0), some (.int x1), some (.int x10), some (.int x17)]) dX11_drawAct_119 (Nat.le_of_ble_eq_true rfl) rfl rfl ?_
          refine r_aload_n (x := 0) dX11_drawAct_120 rfl ?_
          refine r_getfield (o := 0) (v := .ref 5) dX11_drawAct_121 lX11_29 ck0 nC0 rfl ?_
          refine r_getfield (o := 5) (v := .ref (S18.2.2 5 4)) dX11_drawAct_124 lX11_220 ck5 nC5 rfl ?_
          refine r_topr (fun o20 ho20 => ?_)
          replace h := lt_e ho20 h
          refine r_iload_n (x := x10) dX11_drawAct_127 rfl ?_
          refine r_iload_n (x := x17) dX11_drawAct_128 rfl ?_
          refine r_iload_n (x := x10) dX11_drawAct_129 rfl ?_
          obtain ⟨x22, hx22⟩ : ∃ y : Int32, y = ((if x17 ≤ x10 then (-1) else x17) : Int32) := ⟨_, rfl⟩
          replace h := lt_e hx22 h
          have keyx22 : WP [] mX11_drawAct 2 0 (qV T) 138 [some (.ref 0), some (.int x1), some (.int x10), some (.int x17)] (.int x22 :: [.int x10, .ref o20]) S18 0 := by
            obtain ⟨g26, h⟩ := gd_e h
            obtain ⟨S24, h25, h⟩ := bV_e h
            refine r_cVV (y := mX2_setInto) (As := [.int x10, .int x22]) (rest := []) dX11_drawAct_138 qX11_198 kX2_setInto rfl g26 vc2 rfl (okX2_setInto N o20 x10 x22 S18 S24 h25) (by decide) (Nat.zero_le _) rfl (Nat.le_of_ble_eq_true rfl) ?_
            cases h
            exact r_return dX11_drawAct_141 rfl (Nat.zero_le _) ⟨rfl, rfl⟩
          refine r_icmp_le (tgt := 137) dX11_drawAct_130 (by decide) (fun c21 => ?_) (fun c21 => ?_)
          · refine r_iconst (v := (-1)) dX11_drawAct_137 rfl ?_
            exact r_tope (by rw [hx22, if_pos c21]) keyx22
          · refine r_iload_n (x := x17) dX11_drawAct_133 rfl ?_
            refine r_goto (tgt := 138) dX11_drawAct_134 (by decide) ?_
            exact r_tope (by rw [hx22, if_neg c21]) keyx22
        · rw [if_pos c14] at h
          refine r_aload_n (x := 0) dX11_drawAct_83 rfl ?_
          refine r_getfield (o := 0) (v := .ref 5) dX11_drawAct_84 lX11_29 ck0 nC0 rfl ?_
          refine r_getfield (o := 5) (v := .ref (S11.2.2 5 4)) dX11_drawAct_87 lX11_220 ck5 nC5 rfl ?_
          refine r_topr (fun o27 ho27 => ?_)
          replace h := lt_e ho27 h
          refine r_iload_n (x := x10) dX11_drawAct_90 rfl ?_
          refine r_aload_n (x := 0) dX11_drawAct_91 rfl ?_
          refine r_bipush (v := 30) dX11_drawAct_92 rfl ?_
          obtain ⟨x28, S29, h30, h⟩ := bI_e h
          refine r_cVI (y := mX11_draw) (As := [.int 30]) (rest := [.int x10, .ref o27]) dX11_drawAct_94 qX11_366 kX11_draw rfl ob0 vc11 rfl (okX11_draw N 30 S11 x28 S29 h30) (by decide) (Nat.zero_le _) rfl (Nat.le_of_ble_eq_true rfl) ?_
          refine r_iconst (v := 1) dX11_drawAct_97 rfl ?_
          refine r_iadd dX11_drawAct_98 ?_
          obtain ⟨g34, h⟩ := gd_e h
          obtain ⟨S32, h33, h⟩ := bV_e h
          refine r_cVV (y := mX2_setHolds) (As := [.int x10, .int (x28 + 1)]) (rest := []) dX11_drawAct_99 qX11_211 kX2_setHolds rfl g34 vc2 rfl (okX2_setHolds N o27 x10 (x28 + 1) S29 S32 h33) (by decide) (Nat.zero_le _) rfl (Nat.le_of_ble_eq_true rfl) ?_
          refine r_goto (tgt := 141) dX11_drawAct_102 (by decide) ?_
          cases h
          exact r_return dX11_drawAct_141 rfl (Nat.zero_le _) ⟨rfl, rfl⟩
      · rw [if_pos c13] at h
        refine r_aload_n (x := 0) dX11_drawAct_45 rfl ?_
        refine r_getfield (o := 0) (v := .ref 5) dX11_drawAct_46 lX11_29 ck0 nC0 rfl ?_
        refine r_getfield (o := 5) (v := .ref (S11.2.2 5 4)) dX11_drawAct_49 lX11_220 ck5 nC5 rfl ?_
        refine r_topr (fun o35 ho35 => ?_)
        replace h := lt_e ho35 h
        refine r_iload_n (x := x10) dX11_drawAct_52 rfl ?_
        refine r_aload_n (x := 0) dX11_drawAct_53 rfl ?_
        refine r_getfield (o := 0) (v := .ref 5) dX11_drawAct_54 lX11_29 ck0 nC0 rfl ?_
        refine r_getfield (o := 5) (v := .ref (S11.2.2 5 4)) dX11_drawAct_57 lX11_220 ck5 nC5 rfl ?_
        refine r_topr (fun o36 ho36 => ?_)
        replace h := lt_e ho36 h
        refine r_iload_n (x := x10) dX11_drawAct_60 rfl ?_
        obtain ⟨g40, h⟩ := gd_e h
        obtain ⟨x37, S38, h39, h⟩ := bI_e h
        refine r_cVI (y := mX2_isPlugged) (As := [.int x10]) (rest := [.int x10, .ref o35]) dX11_drawAct_61 qX11_175 kX2_isPlugged rfl g40 vc2 rfl (okX2_isPlugged N o36 x10 S11 x37 S38 h39) (by decide) (Nat.zero_le _) rfl (Nat.le_of_ble_eq_true rfl) ?_
        obtain ⟨x42, hx42⟩ : ∃ y : Int32, y = ((if x37 = 0 then 1 else 0) : Int32) := ⟨_, rfl⟩
        replace h := lt_e hx42 h
        have keyx42 : WP [] mX11_drawAct 2 0 (qV T) 72 [some (.ref 0), some (.int x1), some (.int x10), none] (.int x42 :: [.int x10, .ref o35]) S38 0 := by
          obtain ⟨g46, h⟩ := gd_e h
          obtain ⟨S44, h45, h⟩ := bV_e h
          refine r_cVV (y := mX2_setPlugged) (As := [.int x10, .int x42]) (rest := []) dX11_drawAct_72 qX11_201 kX2_setPlugged rfl g46 vc2 rfl (okX2_setPlugged N o35 x10 x42 S38 S44 h45) (by decide) (Nat.zero_le _) rfl (Nat.le_of_ble_eq_true rfl) ?_
          refine r_goto (tgt := 141) dX11_drawAct_75 (by decide) ?_
          cases h
          exact r_return dX11_drawAct_141 rfl (Nat.zero_le _) ⟨rfl, rfl⟩
        refine r_if_ne (tgt := 71) dX11_drawAct_64 (by decide) (fun c41 => ?_) (fun c41 => ?_)
        · refine r_iconst (v := 0) dX11_drawAct_71 rfl ?_
          exact r_tope (by rw [hx42, if_neg c41]) keyx42
        · refine r_iconst (v := 1) dX11_drawAct_67 rfl ?_
          refine r_goto (tgt := 72) dX11_drawAct_68 (by decide) ?_
          exact r_tope (by rw [hx42, if_pos c41]) keyx42
    · rw [if_pos c7] at h
      cases h
      exact r_return dX11_drawAct_25 rfl (Nat.zero_le _) ⟨rfl, rfl⟩
def fX11_leastOf_2 (N : Nat) (v0 : Int32) : Nat → Int32 → PS → Option (Nat × Int32 × PS)
  | 0, _, _ => none
  | n + 1, v1, S =>
    (if 9 ≤ v1 then
      some (0, v1, S)
    else
      bI (fX11_has N v0 v1 S) fun x2 S3 =>
      (if x2 = 0 then
        lt (v1 + 1 : Int32) fun x6 =>
        fX11_leastOf_2 N v0 n x6 S3
      else
        some (1, v1, S3)))
set_option maxHeartbeats 4000000 in
set_option maxRecDepth 100000 in
theorem okX11_leastOf_2 (N : Nat) (v0 : Int32) (Q : OQ) (u : Nat) (hu : u ≤ 0) : ∀ (n : Nat) (v1 : Int32) (S : PS) (tg : Nat) (y1 : Int32) (T : PS), fX11_leastOf_2 N v0 n v1 S = some (tg, y1, T) → (tg = 0 → WP [] mX11_leastOf 1 0 Q 24 [some (.int v0), some (.int y1)] [] T u) → (tg = 1 → WP [] mX11_leastOf 1 0 Q 16 [some (.int v0), some (.int y1)] [] T u) → WP [] mX11_leastOf 1 0 Q 2 [some (.int v0), some (.int v1)] [] S u := by
  intro n
  induction n with
  | zero => intro v1 S tg y1 T h; rw [fX11_leastOf_2] at h; cases h
  | succ n ih =>
    intro v1 S tg y1 T h k0 k1
    rw [fX11_leastOf_2] at h
    refine r_iload_n (x := v1) dX11_leastOf_2 rfl ?_
    refine r_bipush (v := 9) dX11_leastOf_3 rfl ?_
    refine r_icmp_ge (tgt := 24) dX11_leastOf_5 (by decide) (fun c1 => ?_) (fun c1 => ?_)
    · rw [if_pos c1] at h
      cases h
      exact k0 rfl
    · rw [if_neg c1] at h
      refine r_iload_n (x := v0) dX11_leastOf_8 rfl ?_
      refine r_iload_n (x := v1) dX11_leastOf_9 rfl ?_
      obtain ⟨x2, S3, h4, h⟩ := bI_e h
      refine r_cSI (y := mX11_has) (As := [.int v0, .int v1]) (rest := []) dX11_leastOf_10 qX11_331 kX11_has rfl (okX11_has N v0 v1 S x2 S3 h4) (by decide) hu rfl (Nat.le_of_ble_eq_true rfl) ?_
      refine r_if_eq (tgt := 18) dX11_leastOf_13 (by decide) (fun c5 => ?_) (fun c5 => ?_)
      · rw [if_pos c5] at h
        obtain ⟨x6, hx6⟩ : ∃ y : Int32, y = (v1 + 1 : Int32) := ⟨_, rfl⟩
        replace h := lt_e hx6 h
        refine r_iinc (x := v1) (v := x6) (L' := [some (.int v0), some (.int x6)]) dX11_leastOf_18 rfl (by rw [hx6]; rfl) (Nat.le_of_ble_eq_true rfl) rfl rfl ?_
        refine r_goto (tgt := 2) dX11_leastOf_21 (by decide) ?_
        exact ih _ _ _ _ _ h k0 k1
      · rw [if_neg c5] at h
        cases h
        exact k1 rfl
def fX11_leastOf (N : Nat) (p0 : Int32) (S : PS) : Option (Int32 × PS) :=
  bT (fX11_leastOf_2 N p0 N 0 S) fun q7 =>
  lt (q7.1 : Nat) fun t10 =>
  lt (q7.2.1 : Int32) fun x8 =>
  lt (q7.2.2 : PS) fun S9 =>
  (if t10 = 0 then
    some ((-1), S9)
  else 
    some (x8, S9))
set_option maxHeartbeats 4000000 in
set_option maxRecDepth 100000 in
theorem okX11_leastOf (N : Nat) (p0 : Int32) (S : PS) (r : Int32) (T : PS) (h : fX11_leastOf N p0 S = some (r, T)) : CT mX11_leastOf 1 0 [.int p0] S (qI r T) := by
  refine ct_of [some (.int p0), none] rfl (fun _ => rfl) (fun _ => Nat.le_of_ble_eq_true rfl) ?_
  unfold fX11_leastOf at h
  refine r_iconst (v := 0) dX11_leastOf_0 rfl ?_
  refine r_istore_n (L' := [some (.int p0), some (.int 0)]) dX11_leastOf_1 (Nat.le_of_ble_eq_true rfl) rfl rfl ?_
  obtain ⟨⟨t10, x8, S9⟩, h11, h⟩ := bT_e h
  dsimp only at h
  replace h := pl_s (pl_s (pl_s (h)))
  refine okX11_leastOf_2 N p0 (qI r T) 0 (Nat.zero_le _) _ _ _ _ _ _ h11 (fun et10 => ?_) (fun et10 => ?_)
  · rw [if_pos et10] at h
    refine r_iconst (v := (-1)) dX11_leastOf_24 rfl ?_
    cases h
    exact r_ireturn dX11_leastOf_25 rfl (Nat.zero_le _) ⟨rfl, rfl⟩
  · rw [if_neg (by rw [et10]; decide)] at h
    refine r_iload_n (x := x8) dX11_leastOf_16 rfl ?_
    cases h
    exact r_ireturn dX11_leastOf_17 rfl (Nat.zero_le _) ⟨rfl, rfl⟩
def fX1_clear (N : Nat) (p : Nat) (S : PS) : Option PS :=
  gd (obj p 1) <|
  bV (fJ7_fill_53178 N (sr p 0) 0 S) fun S3 =>
  gd (obj p 1) <|
  gd (obj (sr p 1) 2) <|
  bV (fX2_clear N (sr p 1) S3) fun S7 =>
  gd (obj p 1) <|
  gd (obj (sr p 2) 8) <|
  bV (fX8_clear N (sr p 2) S7) fun S12 =>
  gd (obj p 1) <|
  gd (obj (sr p 3) 8) <|
  bV (fX8_clear N (sr p 3) S12) fun S17 =>
  gd (obj p 1) <|
  lt ((u2 S17.1 p 4 0, S17.2) : PS) fun S21 =>
  some S21
set_option maxHeartbeats 4000000 in
set_option maxRecDepth 100000 in
theorem okX1_clear (N : Nat) (p : Nat) (S : PS) (T : PS) (h : fX1_clear N p S = some T) : CT mX1_clear 2 0 [.ref p] S (qV T) := by
  refine ct_of [some (.ref p)] rfl (fun _ => rfl) (fun _ => Nat.le_of_ble_eq_true rfl) ?_
  unfold fX1_clear at h
  refine r_aload_n (x := p) dX1_clear_0 rfl ?_
  obtain ⟨g1, h⟩ := gd_e h
  refine r_getfield (o := p) (v := .ref (sr p 0)) dX1_clear_1 lX1_9 g1.1 g1.2 rfl ?_
  refine r_iconst (v := 0) dX1_clear_4 rfl ?_
  obtain ⟨S3, h4, h⟩ := bV_e h
  refine r_cSV (y := mJ7_fill_53178) (As := [.ref (sr p 0), .int 0]) (rest := []) dX1_clear_5 qX1_36 kJ7_fill_53178 rfl (okJ7_fill_53178 N (sr p 0) 0 S S3 h4) (by decide) (Nat.zero_le _) rfl (Nat.le_of_ble_eq_true rfl) ?_
  refine r_aload_n (x := p) dX1_clear_8 rfl ?_
  obtain ⟨g5, h⟩ := gd_e h
  refine r_getfield (o := p) (v := .ref (sr p 1)) dX1_clear_9 lX1_18 g5.1 g5.2 rfl ?_
  obtain ⟨g9, h⟩ := gd_e h
  obtain ⟨S7, h8, h⟩ := bV_e h
  refine r_cVV (y := mX2_clear) (As := []) (rest := []) dX1_clear_12 qX1_42 kX2_clear rfl g9 vc2 rfl (okX2_clear N (sr p 1) S3 S7 h8) (by decide) (Nat.zero_le _) rfl (Nat.le_of_ble_eq_true rfl) ?_
  refine r_aload_n (x := p) dX1_clear_15 rfl ?_
  obtain ⟨g10, h⟩ := gd_e h
  refine r_getfield (o := p) (v := .ref (sr p 2)) dX1_clear_16 lX1_25 g10.1 g10.2 rfl ?_
  obtain ⟨g14, h⟩ := gd_e h
  obtain ⟨S12, h13, h⟩ := bV_e h
  refine r_cVV (y := mX8_clear) (As := []) (rest := []) dX1_clear_19 qX1_45 kX8_clear rfl g14 vc8 rfl (okX8_clear N (sr p 2) S7 S12 h13) (by decide) (Nat.zero_le _) rfl (Nat.le_of_ble_eq_true rfl) ?_
  refine r_aload_n (x := p) dX1_clear_22 rfl ?_
  obtain ⟨g15, h⟩ := gd_e h
  refine r_getfield (o := p) (v := .ref (sr p 3)) dX1_clear_23 lX1_29 g15.1 g15.2 rfl ?_
  obtain ⟨g19, h⟩ := gd_e h
  obtain ⟨S17, h18, h⟩ := bV_e h
  refine r_cVV (y := mX8_clear) (As := []) (rest := []) dX1_clear_26 qX1_45 kX8_clear rfl g19 vc8 rfl (okX8_clear N (sr p 3) S12 S17 h18) (by decide) (Nat.zero_le _) rfl (Nat.le_of_ble_eq_true rfl) ?_
  refine r_aload_n (x := p) dX1_clear_29 rfl ?_
  refine r_iconst (v := 0) dX1_clear_30 rfl ?_
  obtain ⟨g20, h⟩ := gd_e h
  refine r_putI dX1_clear_31 lX1_32 g20.1 g20.2 ?_
  refine r_topS (fun S21 hS21 => ?_)
  replace h := lt_e hS21 h
  cases h
  exact r_return dX1_clear_34 rfl (Nat.zero_le _) ⟨rfl, rfl⟩
def fX1_leak (N : Nat) (p : Nat) (p0 : Nat) (p1 : Int32) (S : PS) : Option (Int32 × PS) :=
  gd (obj p 1) <|
  gd (obj (sr p 2) 8) <|
  (if (S.1 (sr p 2) 3) = 0 then
    some (0, S)
  else
    gd (obj p0 2) <|
    gd (arr (sr p0 1) 1 9) <|
    gd (inr p1 9) <|
    gd (obj p 1) <|
    gd (obj p 1) <|
    gd (arr (sr p 0) 1 9) <|
    gd (inr p1 9) <|
    gd (obj (sr p 2) 8) <|
    bI (fX8_value N (sr p 2) p0 p1 (S.1 (sr p 0) (ix p1)) S) fun x11 S12 =>
    lt ((if x11 < (S.1 (sr p0 1) (ix p1)) then x11 else (S.1 (sr p0 1) (ix p1))) : Int32) fun x15 =>
    lt ((if (0 : Int32) < x15 then x15 else 0) : Int32) fun x16 =>
    some (x16, S12))
set_option maxHeartbeats 4000000 in
set_option maxRecDepth 100000 in
theorem okX1_leak (N : Nat) (p : Nat) (p0 : Nat) (p1 : Int32) (S : PS) (r : Int32) (T : PS) (h : fX1_leak N p p0 p1 S = some (r, T)) : CT mX1_leak 2 0 [.ref p, .ref p0, .int p1] S (qI r T) := by
  refine ct_of [some (.ref p), some (.ref p0), some (.int p1)] rfl (fun _ => rfl) (fun _ => Nat.le_of_ble_eq_true rfl) ?_
  unfold fX1_leak at h
  refine r_aload_n (x := p) dX1_leak_0 rfl ?_
  obtain ⟨g1, h⟩ := gd_e h
  refine r_getfield (o := p) (v := .ref (sr p 2)) dX1_leak_1 lX1_25 g1.1 g1.2 rfl ?_
  obtain ⟨g2, h⟩ := gd_e h
  refine r_getfield (o := (sr p 2)) (v := .int (S.1 (sr p 2) 3)) dX1_leak_4 lX1_51 g2.1 g2.2 rfl ?_
  refine r_if_ne (tgt := 12) dX1_leak_7 (by decide) (fun c3 => ?_) (fun c3 => ?_)
  · rw [if_neg c3] at h
    refine r_iconst (v := 0) dX1_leak_12 rfl ?_
    refine r_aload_n (x := p0) dX1_leak_13 rfl ?_
    obtain ⟨g4, h⟩ := gd_e h
    refine r_getfield (o := p0) (v := .ref (sr p0 1)) dX1_leak_14 lX1_49 g4.1 g4.2 rfl ?_
    refine r_iload_n (x := p1) dX1_leak_17 rfl ?_
    obtain ⟨g5, h⟩ := gd_e h
    obtain ⟨g6, h⟩ := gd_e h
    refine r_iaload (a := (sr p0 1)) dX1_leak_18 g5.1 g5.2 (inr_IX g6) ?_
    refine r_aload_n (x := p) dX1_leak_19 rfl ?_
    obtain ⟨g7, h⟩ := gd_e h
    refine r_getfield (o := p) (v := .ref (sr p 2)) dX1_leak_20 lX1_25 g7.1 g7.2 rfl ?_
    refine r_aload_n (x := p0) dX1_leak_23 rfl ?_
    refine r_iload_n (x := p1) dX1_leak_24 rfl ?_
    refine r_aload_n (x := p) dX1_leak_25 rfl ?_
    obtain ⟨g8, h⟩ := gd_e h
    refine r_getfield (o := p) (v := .ref (sr p 0)) dX1_leak_26 lX1_9 g8.1 g8.2 rfl ?_
    refine r_iload_n (x := p1) dX1_leak_29 rfl ?_
    obtain ⟨g9, h⟩ := gd_e h
    obtain ⟨g10, h⟩ := gd_e h
    refine r_iaload (a := (sr p 0)) dX1_leak_30 g9.1 g9.2 (inr_IX g10) ?_
    obtain ⟨g14, h⟩ := gd_e h
    obtain ⟨x11, S12, h13, h⟩ := bI_e h
    refine r_cVI (y := mX8_value) (As := [.ref p0, .int p1, .int (S.1 (sr p 0) (ix p1))]) (rest := [.int (S.1 (sr p0 1) (ix p1)), .int 0]) dX1_leak_31 qX1_55 kX8_value rfl g14 vc8 rfl (okX8_value N (sr p 2) p0 p1 (S.1 (sr p 0) (ix p1)) S x11 S12 h13) (by decide) (Nat.zero_le _) rfl (Nat.le_of_ble_eq_true rfl) ?_
    refine r_mmin dX1_leak_34 qX1_59 (by decide) (Nat.zero_le _) (Nat.le_of_ble_eq_true rfl) ?_
    refine r_topi (fun x15 hx15 => ?_)
    replace h := lt_e hx15 h
    refine r_mmax dX1_leak_37 qX1_65 (by decide) (Nat.zero_le _) (Nat.le_of_ble_eq_true rfl) ?_
    refine r_topi (fun x16 hx16 => ?_)
    replace h := lt_e hx16 h
    cases h
    exact r_ireturn dX1_leak_40 rfl (Nat.zero_le _) ⟨rfl, rfl⟩
  · rw [if_pos c3] at h
    refine r_iconst (v := 0) dX1_leak_10 rfl ?_
    cases h
    exact r_ireturn dX1_leak_11 rfl (Nat.zero_le _) ⟨rfl, rfl⟩
def fX3_springRuns (N : Nat) (p0 : Int32) (p1 : Int32) (S : PS) : Option (Int32 × PS) :=
  (if p1 = 1 then
    some (0, S)
  else
    lt ((S.2.2 5 4) : Nat) fun o2 =>
    gd (obj o2 2) <|
    bI (fX2_isPlugged N o2 p0 S) fun x3 S4 =>
    (if x3 = 0 then
      (if p1 = 2 then
        some (1, S4)
      else
        lt ((S4.2.2 5 3) : Nat) fun o9 =>
        gd (obj o9 1) <|
        gd (obj (sr o9 3) 8) <|
        (if (S4.1 (sr o9 3) 3) = 0 then
          some (1, S4)
        else
          lt ((S4.2.2 5 3) : Nat) fun o13 =>
          gd (obj o13 1) <|
          lt ((S4.2.2 5 4) : Nat) fun o15 =>
          lt ((S4.2.2 5 3) : Nat) fun o16 =>
          gd (obj o16 1) <|
          gd (arr (sr o16 0) 1 9) <|
          gd (inr p0 9) <|
          gd (obj (sr o13 3) 8) <|
          bI (fX8_value N (sr o13 3) o15 p0 (S4.1 (sr o16 0) (ix p0)) S4) fun x20 S21 =>
          lt ((if 0 < x20 then 0 else 1) : Int32) fun x25 =>
          gd (b01 x25) <|
          some (x25, S21)))
    else
      some (0, S4)))
set_option maxHeartbeats 4000000 in
set_option maxRecDepth 100000 in
theorem okX3_springRuns (N : Nat) (p0 : Int32) (p1 : Int32) (S : PS) (r : Int32) (T : PS) (h : fX3_springRuns N p0 p1 S = some (r, T)) : CT mX3_springRuns 2 0 [.ref 5, .int p0, .int p1] S (qI r T) := by
  refine ct_of [some (.ref 5), some (.int p0), some (.int p1)] rfl (fun _ => rfl) (fun _ => Nat.le_of_ble_eq_true rfl) ?_
  unfold fX3_springRuns at h
  refine r_iload_n (x := p1) dX3_springRuns_0 rfl ?_
  refine r_iconst (v := 1) dX3_springRuns_1 rfl ?_
  refine r_icmp_eq (tgt := 16) dX3_springRuns_2 (by decide) (fun c1 => ?_) (fun c1 => ?_)
  · rw [if_pos c1] at h
    refine r_iconst (v := 0) dX3_springRuns_16 rfl ?_
    cases h
    exact r_zreturn dX3_springRuns_17 rfl rfl (Nat.zero_le _) ⟨rfl, rfl⟩
  · rw [if_neg c1] at h
    refine r_aload_n (x := 5) dX3_springRuns_5 rfl ?_
    refine r_getfield (o := 5) (v := .ref (S.2.2 5 4)) dX3_springRuns_6 lX3_32 ck5 nC5 rfl ?_
    refine r_topr (fun o2 ho2 => ?_)
    replace h := lt_e ho2 h
    refine r_iload_n (x := p0) dX3_springRuns_9 rfl ?_
    obtain ⟨g6, h⟩ := gd_e h
    obtain ⟨x3, S4, h5, h⟩ := bI_e h
    refine r_cVI (y := mX2_isPlugged) (As := [.int p0]) (rest := []) dX3_springRuns_10 qX3_81 kX2_isPlugged rfl g6 vc2 rfl (okX2_isPlugged N o2 p0 S x3 S4 h5) (by decide) (Nat.zero_le _) rfl (Nat.le_of_ble_eq_true rfl) ?_
    refine r_if_eq (tgt := 18) dX3_springRuns_13 (by decide) (fun c7 => ?_) (fun c7 => ?_)
    · rw [if_pos c7] at h
      refine r_iload_n (x := p1) dX3_springRuns_18 rfl ?_
      refine r_iconst (v := 2) dX3_springRuns_19 rfl ?_
      refine r_icmp_eq (tgt := 36) dX3_springRuns_20 (by decide) (fun c8 => ?_) (fun c8 => ?_)
      · rw [if_pos c8] at h
        refine r_iconst (v := 1) dX3_springRuns_36 rfl ?_
        cases h
        exact r_zreturn dX3_springRuns_37 rfl rfl (Nat.zero_le _) ⟨rfl, rfl⟩
      · rw [if_neg c8] at h
        refine r_aload_n (x := 5) dX3_springRuns_23 rfl ?_
        refine r_getfield (o := 5) (v := .ref (S4.2.2 5 3)) dX3_springRuns_24 lX3_28 ck5 nC5 rfl ?_
        refine r_topr (fun o9 ho9 => ?_)
        replace h := lt_e ho9 h
        obtain ⟨g10, h⟩ := gd_e h
        refine r_getfield (o := o9) (v := .ref (sr o9 3)) dX3_springRuns_27 lX3_85 g10.1 g10.2 rfl ?_
        obtain ⟨g11, h⟩ := gd_e h
        refine r_getfield (o := (sr o9 3)) (v := .int (S4.1 (sr o9 3) 3)) dX3_springRuns_30 lX3_89 g11.1 g11.2 rfl ?_
        refine r_if_ne (tgt := 38) dX3_springRuns_33 (by decide) (fun c12 => ?_) (fun c12 => ?_)
        · rw [if_neg c12] at h
          refine r_aload_n (x := 5) dX3_springRuns_38 rfl ?_
          refine r_getfield (o := 5) (v := .ref (S4.2.2 5 3)) dX3_springRuns_39 lX3_28 ck5 nC5 rfl ?_
          refine r_topr (fun o13 ho13 => ?_)
          replace h := lt_e ho13 h
          obtain ⟨g14, h⟩ := gd_e h
          refine r_getfield (o := o13) (v := .ref (sr o13 3)) dX3_springRuns_42 lX3_85 g14.1 g14.2 rfl ?_
          refine r_aload_n (x := 5) dX3_springRuns_45 rfl ?_
          refine r_getfield (o := 5) (v := .ref (S4.2.2 5 4)) dX3_springRuns_46 lX3_32 ck5 nC5 rfl ?_
          refine r_topr (fun o15 ho15 => ?_)
          replace h := lt_e ho15 h
          refine r_iload_n (x := p0) dX3_springRuns_49 rfl ?_
          refine r_aload_n (x := 5) dX3_springRuns_50 rfl ?_
          refine r_getfield (o := 5) (v := .ref (S4.2.2 5 3)) dX3_springRuns_51 lX3_28 ck5 nC5 rfl ?_
          refine r_topr (fun o16 ho16 => ?_)
          replace h := lt_e ho16 h
          obtain ⟨g17, h⟩ := gd_e h
          refine r_getfield (o := o16) (v := .ref (sr o16 0)) dX3_springRuns_54 lX3_65 g17.1 g17.2 rfl ?_
          refine r_iload_n (x := p0) dX3_springRuns_57 rfl ?_
          obtain ⟨g18, h⟩ := gd_e h
          obtain ⟨g19, h⟩ := gd_e h
          refine r_iaload (a := (sr o16 0)) dX3_springRuns_58 g18.1 g18.2 (inr_IX g19) ?_
          obtain ⟨g23, h⟩ := gd_e h
          obtain ⟨x20, S21, h22, h⟩ := bI_e h
          refine r_cVI (y := mX8_value) (As := [.ref o15, .int p0, .int (S4.1 (sr o16 0) (ix p0))]) (rest := []) dX3_springRuns_59 qX3_95 kX8_value rfl g23 vc8 rfl (okX8_value N (sr o13 3) o15 p0 (S4.1 (sr o16 0) (ix p0)) S4 x20 S21 h22) (by decide) (Nat.zero_le _) rfl (Nat.le_of_ble_eq_true rfl) ?_
          obtain ⟨x25, hx25⟩ : ∃ y : Int32, y = ((if 0 < x20 then 0 else 1) : Int32) := ⟨_, rfl⟩
          replace h := lt_e hx25 h
          have keyx25 : WP [] mX3_springRuns 2 0 (qI r T) 70 [some (.ref 5), some (.int p0), some (.int p1)] (.int x25 :: []) S21 0 := by
            obtain ⟨g26, h⟩ := gd_e h
            cases h
            exact r_zreturn dX3_springRuns_70 rfl (nar01 g26) (Nat.zero_le _) ⟨rfl, rfl⟩
          refine r_if_gt (tgt := 69) dX3_springRuns_62 (by decide) (fun c24 => ?_) (fun c24 => ?_)
          · refine r_iconst (v := 0) dX3_springRuns_69 rfl ?_
            exact r_tope (by rw [hx25, if_pos c24]) keyx25
          · refine r_iconst (v := 1) dX3_springRuns_65 rfl ?_
            refine r_goto (tgt := 70) dX3_springRuns_66 (by decide) ?_
            exact r_tope (by rw [hx25, if_neg c24]) keyx25
        · rw [if_pos c12] at h
          refine r_iconst (v := 1) dX3_springRuns_36 rfl ?_
          cases h
          exact r_zreturn dX3_springRuns_37 rfl rfl (Nat.zero_le _) ⟨rfl, rfl⟩
    · rw [if_neg c7] at h
      refine r_iconst (v := 0) dX3_springRuns_16 rfl ?_
      cases h
      exact r_zreturn dX3_springRuns_17 rfl rfl (Nat.zero_le _) ⟨rfl, rfl⟩
def fX3_tip (N : Nat) (p0 : Int32) (p1 : Int32) (S : PS) : Option PS :=
  lt ((S.2.2 5 4) : Nat) fun o1 =>
  gd (obj o1 2) <|
  gd (arr (sr o1 1) 1 9) <|
  gd (inr p0 9) <|
  lt (((S.1 (sr o1 1) (ix p0)) + p1) : Int32) fun x5 =>
  lt ((S.2.2 5 4) : Nat) fun o6 =>
  gd (obj o6 2) <|
  gd (arr (sr o6 0) 1 9) <|
  gd (inr p0 9) <|
  lt ((if (1 : Int32) < (S.1 (sr o6 0) (ix p0)) then (S.1 (sr o6 0) (ix p0)) else 1) : Int32) fun x10 =>
  gd (¬ x10 = 0) <|
  lt ((x5 / x10) : Int32) fun x12 =>
  lt ((S.2.2 5 4) : Nat) fun o13 =>
  gd (obj o13 2) <|
  gd (arr (sr o13 1) 1 9) <|
  gd (inr p0 9) <|
  lt ((u2 S.1 (sr o13 1) (ix p0) (x5 - (x12 * x10)), S.2) : PS) fun S17 =>
  (if x12 ≤ 0 then
    some S17
  else
    bI (fX11_bitOf N p0 S17) fun x19 S20 =>
    lt ((u2 S20.1 5 5 ((S17.1 5 5) ||| x19), S20.2) : PS) fun S22 =>
    gd (inr p0 9) <|
    gd (inr p0 9) <|
    lt ((u2 S22.1 28 (ix p0) ((S22.1 28 (ix p0)) + x12), S22.2) : PS) fun S25 =>
    lt ((S25.2.2 5 4) : Nat) fun o26 =>
    gd (obj o26 2) <|
    lt ((S25.2.2 5 4) : Nat) fun o28 =>
    gd (obj o28 2) <|
    gd (arr (sr o28 4) 1 9) <|
    gd (inr p0 9) <|
    lt ((if ((S25.1 (sr o28 4) (ix p0)) + x12) < 1000000000 then ((S25.1 (sr o28 4) (ix p0)) + x12) else 1000000000) : Int32) fun x32 =>
    gd (arr (sr o26 4) 1 9) <|
    gd (inr p0 9) <|
    lt ((u2 S25.1 (sr o26 4) (ix p0) x32, S25.2) : PS) fun S35 =>
    bV (fX3_letGo N p0 x12 S35) fun S37 =>
    some S37)
set_option maxHeartbeats 4000000 in
set_option maxRecDepth 100000 in
theorem okX3_tip (N : Nat) (p0 : Int32) (p1 : Int32) (S : PS) (T : PS) (h : fX3_tip N p0 p1 S = some T) : CT mX3_tip 2 0 [.ref 5, .int p0, .int p1] S (qV T) := by
  refine ct_of [some (.ref 5), some (.int p0), some (.int p1), none, none, none] rfl (fun _ => rfl) (fun _ => Nat.le_of_ble_eq_true rfl) ?_
  unfold fX3_tip at h
  refine r_aload_n (x := 5) dX3_tip_0 rfl ?_
  refine r_getfield (o := 5) (v := .ref (S.2.2 5 4)) dX3_tip_1 lX3_32 ck5 nC5 rfl ?_
  refine r_topr (fun o1 ho1 => ?_)
  replace h := lt_e ho1 h
  obtain ⟨g2, h⟩ := gd_e h
  refine r_getfield (o := o1) (v := .ref (sr o1 1)) dX3_tip_4 lX3_76 g2.1 g2.2 rfl ?_
  refine r_iload_n (x := p0) dX3_tip_7 rfl ?_
  obtain ⟨g3, h⟩ := gd_e h
  obtain ⟨g4, h⟩ := gd_e h
  refine r_iaload (a := (sr o1 1)) dX3_tip_8 g3.1 g3.2 (inr_IX g4) ?_
  refine r_iload_n (x := p1) dX3_tip_9 rfl ?_
  refine r_iadd dX3_tip_10 ?_
  refine r_topi (fun x5 hx5 => ?_)
  replace h := lt_e hx5 h
  refine r_istore_n (L' := [some (.ref 5), some (.int p0), some (.int p1), some (.int x5), none, none]) dX3_tip_11 (Nat.le_of_ble_eq_true rfl) rfl rfl ?_
  refine r_iconst (v := 1) dX3_tip_12 rfl ?_
  refine r_aload_n (x := 5) dX3_tip_13 rfl ?_
  refine r_getfield (o := 5) (v := .ref (S.2.2 5 4)) dX3_tip_14 lX3_32 ck5 nC5 rfl ?_
  refine r_topr (fun o6 ho6 => ?_)
  replace h := lt_e ho6 h
  obtain ⟨g7, h⟩ := gd_e h
  refine r_getfield (o := o6) (v := .ref (sr o6 0)) dX3_tip_17 lX3_99 g7.1 g7.2 rfl ?_
  refine r_iload_n (x := p0) dX3_tip_20 rfl ?_
  obtain ⟨g8, h⟩ := gd_e h
  obtain ⟨g9, h⟩ := gd_e h
  refine r_iaload (a := (sr o6 0)) dX3_tip_21 g8.1 g8.2 (inr_IX g9) ?_
  refine r_mmax dX3_tip_22 qX3_102 (by decide) (Nat.zero_le _) (Nat.le_of_ble_eq_true rfl) ?_
  refine r_topi (fun x10 hx10 => ?_)
  replace h := lt_e hx10 h
  refine r_istore (L' := [some (.ref 5), some (.int p0), some (.int p1), some (.int x5), some (.int x10), none]) dX3_tip_25 (Nat.le_of_ble_eq_true rfl) rfl rfl ?_
  refine r_iload_n (x := x5) dX3_tip_27 rfl ?_
  refine r_iload (x := x10) dX3_tip_28 rfl ?_
  obtain ⟨g11, h⟩ := gd_e h
  refine r_idiv dX3_tip_30 g11 ?_
  refine r_topi (fun x12 hx12 => ?_)
  replace h := lt_e hx12 h
  refine r_istore (L' := [some (.ref 5), some (.int p0), some (.int p1), some (.int x5), some (.int x10), some (.int x12)]) dX3_tip_31 (Nat.le_of_ble_eq_true rfl) rfl rfl ?_
  refine r_aload_n (x := 5) dX3_tip_33 rfl ?_
  refine r_getfield (o := 5) (v := .ref (S.2.2 5 4)) dX3_tip_34 lX3_32 ck5 nC5 rfl ?_
  refine r_topr (fun o13 ho13 => ?_)
  replace h := lt_e ho13 h
  obtain ⟨g14, h⟩ := gd_e h
  refine r_getfield (o := o13) (v := .ref (sr o13 1)) dX3_tip_37 lX3_76 g14.1 g14.2 rfl ?_
  refine r_iload_n (x := p0) dX3_tip_40 rfl ?_
  refine r_iload_n (x := x5) dX3_tip_41 rfl ?_
  refine r_iload (x := x12) dX3_tip_42 rfl ?_
  refine r_iload (x := x10) dX3_tip_44 rfl ?_
  refine r_imul dX3_tip_46 ?_
  refine r_isub dX3_tip_47 ?_
  obtain ⟨g15, h⟩ := gd_e h
  obtain ⟨g16, h⟩ := gd_e h
  refine r_iastore (a := (sr o13 1)) dX3_tip_48 g15.1 g15.2 (inr_IX g16) ?_
  refine r_topS (fun S17 hS17 => ?_)
  replace h := lt_e hS17 h
  refine r_iload (x := x12) dX3_tip_49 rfl ?_
  refine r_if_le (tgt := 111) dX3_tip_51 (by decide) (fun c18 => ?_) (fun c18 => ?_)
  · rw [if_pos c18] at h
    cases h
    exact r_return dX3_tip_111 rfl (Nat.zero_le _) ⟨rfl, rfl⟩
  · rw [if_neg c18] at h
    refine r_aload_n (x := 5) dX3_tip_54 rfl ?_
    refine r_dup_ref dX3_tip_55 ?_
    refine r_getfield (o := 5) (v := .int (S17.1 5 5)) dX3_tip_56 lX3_35 ck5 nC5 rfl ?_
    refine r_iload_n (x := p0) dX3_tip_59 rfl ?_
    obtain ⟨x19, S20, h21, h⟩ := bI_e h
    refine r_cNI (y := mX11_bitOf) (As := [.int p0]) (rest := [.int (S17.1 5 5), .ref 5]) (host := "DripCups") dX3_tip_60 (by decide) kX11_bitOf rfl (okX11_bitOf N p0 S17 x19 S20 h21) (by decide) (Nat.zero_le _) rfl (Nat.le_of_ble_eq_true rfl) ?_
    refine r_ior dX3_tip_63 ?_
    refine r_putI dX3_tip_64 lX3_35 ck5 nC5 ?_
    refine r_topS (fun S22 hS22 => ?_)
    replace h := lt_e hS22 h
    refine r_aload_n (x := 5) dX3_tip_67 rfl ?_
    refine r_getfield (o := 5) (v := .ref 28) dX3_tip_68 lX3_22 ck5 nC5 rfl ?_
    refine r_iload_n (x := p0) dX3_tip_71 rfl ?_
    refine r_dup2 dX3_tip_72 ?_
    obtain ⟨g23, h⟩ := gd_e h
    refine r_iaload (a := 28) dX3_tip_73 ck28 nC28 (inr_IX g23) ?_
    refine r_iload (x := x12) dX3_tip_74 rfl ?_
    refine r_iadd dX3_tip_76 ?_
    obtain ⟨g24, h⟩ := gd_e h
    refine r_iastore (a := 28) dX3_tip_77 ck28 nC28 (inr_IX g24) ?_
    refine r_topS (fun S25 hS25 => ?_)
    replace h := lt_e hS25 h
    refine r_aload_n (x := 5) dX3_tip_78 rfl ?_
    refine r_getfield (o := 5) (v := .ref (S25.2.2 5 4)) dX3_tip_79 lX3_32 ck5 nC5 rfl ?_
    refine r_topr (fun o26 ho26 => ?_)
    replace h := lt_e ho26 h
    obtain ⟨g27, h⟩ := gd_e h
    refine r_getfield (o := o26) (v := .ref (sr o26 4)) dX3_tip_82 lX3_112 g27.1 g27.2 rfl ?_
    refine r_iload_n (x := p0) dX3_tip_85 rfl ?_
    refine r_ldc (v := 1000000000) dX3_tip_86 kX3_115 ?_
    refine r_aload_n (x := 5) dX3_tip_88 rfl ?_
    refine r_getfield (o := 5) (v := .ref (S25.2.2 5 4)) dX3_tip_89 lX3_32 ck5 nC5 rfl ?_
    refine r_topr (fun o28 ho28 => ?_)
    replace h := lt_e ho28 h
    obtain ⟨g29, h⟩ := gd_e h
    refine r_getfield (o := o28) (v := .ref (sr o28 4)) dX3_tip_92 lX3_112 g29.1 g29.2 rfl ?_
    refine r_iload_n (x := p0) dX3_tip_95 rfl ?_
    obtain ⟨g30, h⟩ := gd_e h
    obtain ⟨g31, h⟩ := gd_e h
    refine r_iaload (a := (sr o28 4)) dX3_tip_96 g30.1 g30.2 (inr_IX g31) ?_
    refine r_iload (x := x12) dX3_tip_97 rfl ?_
    refine r_iadd dX3_tip_99 ?_
    refine r_mmin dX3_tip_100 qX3_116 (by decide) (Nat.zero_le _) (Nat.le_of_ble_eq_true rfl) ?_
    refine r_topi (fun x32 hx32 => ?_)
    replace h := lt_e hx32 h
    obtain ⟨g33, h⟩ := gd_e h
    obtain ⟨g34, h⟩ := gd_e h
    refine r_iastore (a := (sr o26 4)) dX3_tip_103 g33.1 g33.2 (inr_IX g34) ?_
    refine r_topS (fun S35 hS35 => ?_)
    replace h := lt_e hS35 h
    refine r_aload_n (x := 5) dX3_tip_104 rfl ?_
    refine r_iload_n (x := p0) dX3_tip_105 rfl ?_
    refine r_iload (x := x12) dX3_tip_106 rfl ?_
    obtain ⟨S37, h38, h⟩ := bV_e h
    refine r_cVV (y := mX3_letGo) (As := [.int p0, .int x12]) (rest := []) dX3_tip_108 qX3_119 kX3_letGo rfl ob5 vc3 rfl (okX3_letGo N p0 x12 S35 S37 h38) (by decide) (Nat.zero_le _) rfl (Nat.le_of_ble_eq_true rfl) ?_
    cases h
    exact r_return dX3_tip_111 rfl (Nat.zero_le _) ⟨rfl, rfl⟩
def fX7_readSign (N : Nat) (p0 : Int32) (S : PS) : Option PS :=
  (if (S.1 1 3) = 0 then
    bI (fX10_isSign N p0 S) fun x2 S3 =>
    (if x2 = 0 then
      bI (fX7_fail N 1 S3) fun x6 S7 =>
      some S7
    else
      bV (fX10_take N  S3) fun S10 =>
      some S10)
  else
    some S)
set_option maxHeartbeats 4000000 in
set_option maxRecDepth 100000 in
theorem okX7_readSign (N : Nat) (p0 : Int32) (S : PS) (T : PS) (h : fX7_readSign N p0 S = some T) : CT mX7_readSign 2 0 [.ref 1, .int p0] S (qV T) := by
  refine ct_of [some (.ref 1), some (.int p0)] rfl (fun _ => rfl) (fun _ => Nat.le_of_ble_eq_true rfl) ?_
  unfold fX7_readSign at h
  refine r_aload_n (x := 1) dX7_readSign_0 rfl ?_
  refine r_getfield (o := 1) (v := .int (S.1 1 3)) dX7_readSign_1 lX7_32 ck1 nC1 rfl ?_
  refine r_if_eq (tgt := 8) dX7_readSign_4 (by decide) (fun c1 => ?_) (fun c1 => ?_)
  · rw [if_pos c1] at h
    refine r_aload_n (x := 1) dX7_readSign_8 rfl ?_
    refine r_getfield (o := 1) (v := .ref 2) dX7_readSign_9 lX7_12 ck1 nC1 rfl ?_
    refine r_iload_n (x := p0) dX7_readSign_12 rfl ?_
    obtain ⟨x2, S3, h4, h⟩ := bI_e h
    refine r_cVI (y := mX10_isSign) (As := [.int p0]) (rest := []) dX7_readSign_13 qX7_79 kX10_isSign rfl ob2 vc10 rfl (okX10_isSign N p0 S x2 S3 h4) (by decide) (Nat.zero_le _) rfl (Nat.le_of_ble_eq_true rfl) ?_
    refine r_if_eq (tgt := 29) dX7_readSign_16 (by decide) (fun c5 => ?_) (fun c5 => ?_)
    · rw [if_pos c5] at h
      refine r_aload_n (x := 1) dX7_readSign_29 rfl ?_
      refine r_iconst (v := 1) dX7_readSign_30 rfl ?_
      obtain ⟨x6, S7, h8, h⟩ := bI_e h
      refine r_cVI (y := mX7_fail) (As := [.int 1]) (rest := []) dX7_readSign_31 qX7_72 kX7_fail rfl ob1 vc7 rfl (okX7_fail N 1 S3 x6 S7 h8) (by decide) (Nat.zero_le _) rfl (Nat.le_of_ble_eq_true rfl) ?_
      refine r_pop_int dX7_readSign_34 ?_
      cases h
      exact r_return dX7_readSign_35 rfl (Nat.zero_le _) ⟨rfl, rfl⟩
    · rw [if_neg c5] at h
      refine r_aload_n (x := 1) dX7_readSign_19 rfl ?_
      refine r_getfield (o := 1) (v := .ref 2) dX7_readSign_20 lX7_12 ck1 nC1 rfl ?_
      obtain ⟨S10, h11, h⟩ := bV_e h
      refine r_cVV (y := mX10_take) (As := []) (rest := []) dX7_readSign_23 qX7_83 kX10_take rfl ob2 vc10 rfl (okX10_take N  S3 S10 h11) (by decide) (Nat.zero_le _) rfl (Nat.le_of_ble_eq_true rfl) ?_
      refine r_goto (tgt := 35) dX7_readSign_26 (by decide) ?_
      cases h
      exact r_return dX7_readSign_35 rfl (Nat.zero_le _) ⟨rfl, rfl⟩
  · rw [if_neg c1] at h
    cases h
    exact r_return dX7_readSign_7 rfl (Nat.zero_le _) ⟨rfl, rfl⟩
def fX7_readNumber (N : Nat) (p0 : Int32) (p1 : Int32) (S : PS) : Option (Int32 × PS) :=
  (if (S.1 1 3) = 0 then
    (if (S.1 2 5) = 2 then
      lt ((S.1 2 6) : Int32) fun x3 =>
      bI (fX10_isTooLong N  S) fun x4 S5 =>
      (if x4 = 0 then
        (if x3 < p0 then
          bI (fX7_fail N 2 S5) fun x12 S13 =>
          some (x12, S13)
        else
          (if x3 ≤ p1 then
            bV (fX10_take N  S5) fun S17 =>
            some (x3, S17)
          else
            bI (fX7_fail N 2 S5) fun x19 S20 =>
            some (x19, S20)))
      else
        bI (fX7_fail N 2 S5) fun x8 S9 =>
        some (x8, S9))
    else
      bI (fX7_fail N 1 S) fun x22 S23 =>
      some (x22, S23))
  else
    some ((-1), S))
set_option maxHeartbeats 4000000 in
set_option maxRecDepth 100000 in
theorem okX7_readNumber (N : Nat) (p0 : Int32) (p1 : Int32) (S : PS) (r : Int32) (T : PS) (h : fX7_readNumber N p0 p1 S = some (r, T)) : CT mX7_readNumber 2 0 [.ref 1, .int p0, .int p1] S (qI r T) := by
  refine ct_of [some (.ref 1), some (.int p0), some (.int p1), none] rfl (fun _ => rfl) (fun _ => Nat.le_of_ble_eq_true rfl) ?_
  unfold fX7_readNumber at h
  refine r_aload_n (x := 1) dX7_readNumber_0 rfl ?_
  refine r_getfield (o := 1) (v := .int (S.1 1 3)) dX7_readNumber_1 lX7_32 ck1 nC1 rfl ?_
  refine r_if_eq (tgt := 9) dX7_readNumber_4 (by decide) (fun c1 => ?_) (fun c1 => ?_)
  · rw [if_pos c1] at h
    refine r_aload_n (x := 1) dX7_readNumber_9 rfl ?_
    refine r_getfield (o := 1) (v := .ref 2) dX7_readNumber_10 lX7_12 ck1 nC1 rfl ?_
    refine r_getfield (o := 2) (v := .int (S.1 2 5)) dX7_readNumber_13 lX7_46 ck2 nC2 rfl ?_
    refine r_iconst (v := 2) dX7_readNumber_16 rfl ?_
    refine r_icmp_eq (tgt := 26) dX7_readNumber_17 (by decide) (fun c2 => ?_) (fun c2 => ?_)
    · rw [if_pos c2] at h
      refine r_aload_n (x := 1) dX7_readNumber_26 rfl ?_
      refine r_getfield (o := 1) (v := .ref 2) dX7_readNumber_27 lX7_12 ck1 nC1 rfl ?_
      refine r_getfield (o := 2) (v := .int (S.1 2 6)) dX7_readNumber_30 lX7_101 ck2 nC2 rfl ?_
      refine r_topi (fun x3 hx3 => ?_)
      replace h := lt_e hx3 h
      refine r_istore_n (L' := [some (.ref 1), some (.int p0), some (.int p1), some (.int x3)]) dX7_readNumber_33 (Nat.le_of_ble_eq_true rfl) rfl rfl ?_
      refine r_aload_n (x := 1) dX7_readNumber_34 rfl ?_
      refine r_getfield (o := 1) (v := .ref 2) dX7_readNumber_35 lX7_12 ck1 nC1 rfl ?_
      obtain ⟨x4, S5, h6, h⟩ := bI_e h
      refine r_cVI (y := mX10_isTooLong) (As := []) (rest := []) dX7_readNumber_38 qX7_104 kX10_isTooLong rfl ob2 vc10 rfl (okX10_isTooLong N  S x4 S5 h6) (by decide) (Nat.zero_le _) rfl (Nat.le_of_ble_eq_true rfl) ?_
      refine r_if_ne (tgt := 54) dX7_readNumber_41 (by decide) (fun c7 => ?_) (fun c7 => ?_)
      · rw [if_neg c7] at h
        refine r_aload_n (x := 1) dX7_readNumber_54 rfl ?_
        refine r_iconst (v := 2) dX7_readNumber_55 rfl ?_
        obtain ⟨x8, S9, h10, h⟩ := bI_e h
        refine r_cVI (y := mX7_fail) (As := [.int 2]) (rest := []) dX7_readNumber_56 qX7_72 kX7_fail rfl ob1 vc7 rfl (okX7_fail N 2 S5 x8 S9 h10) (by decide) (Nat.zero_le _) rfl (Nat.le_of_ble_eq_true rfl) ?_
        cases h
        exact r_ireturn dX7_readNumber_59 rfl (Nat.zero_le _) ⟨rfl, rfl⟩
      · rw [if_pos c7] at h
        refine r_iload_n (x := x3) dX7_readNumber_44 rfl ?_
        refine r_iload_n (x := p0) dX7_readNumber_45 rfl ?_
        refine r_icmp_lt (tgt := 54) dX7_readNumber_46 (by decide) (fun c11 => ?_) (fun c11 => ?_)
        · rw [if_pos c11] at h
          refine r_aload_n (x := 1) dX7_readNumber_54 rfl ?_
          refine r_iconst (v := 2) dX7_readNumber_55 rfl ?_
          obtain ⟨x12, S13, h14, h⟩ := bI_e h
          refine r_cVI (y := mX7_fail) (As := [.int 2]) (rest := []) dX7_readNumber_56 qX7_72 kX7_fail rfl ob1 vc7 rfl (okX7_fail N 2 S5 x12 S13 h14) (by decide) (Nat.zero_le _) rfl (Nat.le_of_ble_eq_true rfl) ?_
          cases h
          exact r_ireturn dX7_readNumber_59 rfl (Nat.zero_le _) ⟨rfl, rfl⟩
        · rw [if_neg c11] at h
          refine r_iload_n (x := x3) dX7_readNumber_49 rfl ?_
          refine r_iload_n (x := p1) dX7_readNumber_50 rfl ?_
          refine r_icmp_le (tgt := 60) dX7_readNumber_51 (by decide) (fun c15 => ?_) (fun c15 => ?_)
          · rw [if_pos c15] at h
            refine r_aload_n (x := 1) dX7_readNumber_60 rfl ?_
            refine r_getfield (o := 1) (v := .ref 2) dX7_readNumber_61 lX7_12 ck1 nC1 rfl ?_
            obtain ⟨S17, h18, h⟩ := bV_e h
            refine r_cVV (y := mX10_take) (As := []) (rest := []) dX7_readNumber_64 qX7_83 kX10_take rfl ob2 vc10 rfl (okX10_take N  S5 S17 h18) (by decide) (Nat.zero_le _) rfl (Nat.le_of_ble_eq_true rfl) ?_
            refine r_iload_n (x := x3) dX7_readNumber_67 rfl ?_
            cases h
            exact r_ireturn dX7_readNumber_68 rfl (Nat.zero_le _) ⟨rfl, rfl⟩
          · rw [if_neg c15] at h
            refine r_aload_n (x := 1) dX7_readNumber_54 rfl ?_
            refine r_iconst (v := 2) dX7_readNumber_55 rfl ?_
            obtain ⟨x19, S20, h21, h⟩ := bI_e h
            refine r_cVI (y := mX7_fail) (As := [.int 2]) (rest := []) dX7_readNumber_56 qX7_72 kX7_fail rfl ob1 vc7 rfl (okX7_fail N 2 S5 x19 S20 h21) (by decide) (Nat.zero_le _) rfl (Nat.le_of_ble_eq_true rfl) ?_
            cases h
            exact r_ireturn dX7_readNumber_59 rfl (Nat.zero_le _) ⟨rfl, rfl⟩
    · rw [if_neg c2] at h
      refine r_aload_n (x := 1) dX7_readNumber_20 rfl ?_
      refine r_iconst (v := 1) dX7_readNumber_21 rfl ?_
      obtain ⟨x22, S23, h24, h⟩ := bI_e h
      refine r_cVI (y := mX7_fail) (As := [.int 1]) (rest := []) dX7_readNumber_22 qX7_72 kX7_fail rfl ob1 vc7 rfl (okX7_fail N 1 S x22 S23 h24) (by decide) (Nat.zero_le _) rfl (Nat.le_of_ble_eq_true rfl) ?_
      cases h
      exact r_ireturn dX7_readNumber_25 rfl (Nat.zero_le _) ⟨rfl, rfl⟩
  · rw [if_neg c1] at h
    refine r_iconst (v := (-1)) dX7_readNumber_7 rfl ?_
    cases h
    exact r_ireturn dX7_readNumber_8 rfl (Nat.zero_le _) ⟨rfl, rfl⟩
def fX7_readInto (N : Nat) (p0 : Int32) (p1 : Int32) (S : PS) : Option (Int32 × PS) :=
  bI (fX7_lookAtCup N  S) fun x1 S2 =>
  (if x1 = (-1) then
    some ((-1), S2)
  else
    (if x1 ≤ p0 then
      bI (fX7_fail N 4 S2) fun x6 S7 =>
      some (x6, S7)
    else
      (if x1 = p1 then
        bI (fX7_fail N 4 S2) fun x13 S14 =>
        some (x13, S14)
      else
        bV (fX10_take N  S2) fun S11 =>
        some (x1, S11))))
set_option maxHeartbeats 4000000 in
set_option maxRecDepth 100000 in
theorem okX7_readInto (N : Nat) (p0 : Int32) (p1 : Int32) (S : PS) (r : Int32) (T : PS) (h : fX7_readInto N p0 p1 S = some (r, T)) : CT mX7_readInto 2 0 [.ref 1, .int p0, .int p1] S (qI r T) := by
  refine ct_of [some (.ref 1), some (.int p0), some (.int p1), none] rfl (fun _ => rfl) (fun _ => Nat.le_of_ble_eq_true rfl) ?_
  unfold fX7_readInto at h
  refine r_aload_n (x := 1) dX7_readInto_0 rfl ?_
  obtain ⟨x1, S2, h3, h⟩ := bI_e h
  refine r_cVI (y := mX7_lookAtCup) (As := []) (rest := []) dX7_readInto_1 qX7_108 kX7_lookAtCup rfl ob1 vc7 rfl (okX7_lookAtCup N  S x1 S2 h3) (by decide) (Nat.zero_le _) rfl (Nat.le_of_ble_eq_true rfl) ?_
  refine r_istore_n (L' := [some (.ref 1), some (.int p0), some (.int p1), some (.int x1)]) dX7_readInto_4 (Nat.le_of_ble_eq_true rfl) rfl rfl ?_
  refine r_iload_n (x := x1) dX7_readInto_5 rfl ?_
  refine r_iconst (v := (-1)) dX7_readInto_6 rfl ?_
  refine r_icmp_ne (tgt := 12) dX7_readInto_7 (by decide) (fun c4 => ?_) (fun c4 => ?_)
  · rw [if_neg c4] at h
    refine r_iload_n (x := x1) dX7_readInto_12 rfl ?_
    refine r_iload_n (x := p0) dX7_readInto_13 rfl ?_
    refine r_icmp_le (tgt := 22) dX7_readInto_14 (by decide) (fun c5 => ?_) (fun c5 => ?_)
    · rw [if_pos c5] at h
      refine r_aload_n (x := 1) dX7_readInto_22 rfl ?_
      refine r_iconst (v := 4) dX7_readInto_23 rfl ?_
      obtain ⟨x6, S7, h8, h⟩ := bI_e h
      refine r_cVI (y := mX7_fail) (As := [.int 4]) (rest := []) dX7_readInto_24 qX7_72 kX7_fail rfl ob1 vc7 rfl (okX7_fail N 4 S2 x6 S7 h8) (by decide) (Nat.zero_le _) rfl (Nat.le_of_ble_eq_true rfl) ?_
      cases h
      exact r_ireturn dX7_readInto_27 rfl (Nat.zero_le _) ⟨rfl, rfl⟩
    · rw [if_neg c5] at h
      refine r_iload_n (x := x1) dX7_readInto_17 rfl ?_
      refine r_iload_n (x := p1) dX7_readInto_18 rfl ?_
      refine r_icmp_ne (tgt := 28) dX7_readInto_19 (by decide) (fun c9 => ?_) (fun c9 => ?_)
      · rw [if_neg c9] at h
        refine r_aload_n (x := 1) dX7_readInto_28 rfl ?_
        refine r_getfield (o := 1) (v := .ref 2) dX7_readInto_29 lX7_12 ck1 nC1 rfl ?_
        obtain ⟨S11, h12, h⟩ := bV_e h
        refine r_cVV (y := mX10_take) (As := []) (rest := []) dX7_readInto_32 qX7_83 kX10_take rfl ob2 vc10 rfl (okX10_take N  S2 S11 h12) (by decide) (Nat.zero_le _) rfl (Nat.le_of_ble_eq_true rfl) ?_
        refine r_iload_n (x := x1) dX7_readInto_35 rfl ?_
        cases h
        exact r_ireturn dX7_readInto_36 rfl (Nat.zero_le _) ⟨rfl, rfl⟩
      · rw [if_pos c9] at h
        refine r_aload_n (x := 1) dX7_readInto_22 rfl ?_
        refine r_iconst (v := 4) dX7_readInto_23 rfl ?_
        obtain ⟨x13, S14, h15, h⟩ := bI_e h
        refine r_cVI (y := mX7_fail) (As := [.int 4]) (rest := []) dX7_readInto_24 qX7_72 kX7_fail rfl ob1 vc7 rfl (okX7_fail N 4 S2 x13 S14 h15) (by decide) (Nat.zero_le _) rfl (Nat.le_of_ble_eq_true rfl) ?_
        cases h
        exact r_ireturn dX7_readInto_27 rfl (Nat.zero_le _) ⟨rfl, rfl⟩
  · rw [if_pos c4] at h
    refine r_iconst (v := (-1)) dX7_readInto_10 rfl ?_
    cases h
    exact r_ireturn dX7_readInto_11 rfl (Nat.zero_le _) ⟨rfl, rfl⟩
def fX10_begin (N : Nat) (p0 : Int32) (S : PS) : Option PS :=
  lt ((if (700 : Int32) < p0 then 700 else p0) : Int32) fun x1 =>
  lt ((if (0 : Int32) < x1 then x1 else 0) : Int32) fun x2 =>
  lt ((u2 S.1 2 2 x2, S.2) : PS) fun S3 =>
  lt ((u2 S3.1 2 4 0, S3.2) : PS) fun S4 =>
  bV (fX10_take N  S4) fun S6 =>
  some S6
set_option maxHeartbeats 4000000 in
set_option maxRecDepth 100000 in
theorem okX10_begin (N : Nat) (p0 : Int32) (S : PS) (T : PS) (h : fX10_begin N p0 S = some T) : CT mX10_begin 2 0 [.ref 2, .int p0] S (qV T) := by
  refine ct_of [some (.ref 2), some (.int p0)] rfl (fun _ => rfl) (fun _ => Nat.le_of_ble_eq_true rfl) ?_
  unfold fX10_begin at h
  refine r_aload_n (x := 2) dX10_begin_0 rfl ?_
  refine r_iconst (v := 0) dX10_begin_1 rfl ?_
  refine r_iload_n (x := p0) dX10_begin_2 rfl ?_
  refine r_aload_n (x := 2) dX10_begin_3 rfl ?_
  refine r_getfield (o := 2) (v := .ref 26) dX10_begin_4 lX10_9 ck2 nC2 rfl ?_
  refine r_alen (v := 700) dX10_begin_7 ck26 (by decide) nC26 rfl ?_
  refine r_mmin dX10_begin_8 qX10_34 (by decide) (Nat.zero_le _) (Nat.le_of_ble_eq_true rfl) ?_
  refine r_topi (fun x1 hx1 => ?_)
  replace h := lt_e hx1 h
  refine r_mmax dX10_begin_11 qX10_40 (by decide) (Nat.zero_le _) (Nat.le_of_ble_eq_true rfl) ?_
  refine r_topi (fun x2 hx2 => ?_)
  replace h := lt_e hx2 h
  refine r_putI dX10_begin_14 lX10_19 ck2 nC2 ?_
  refine r_topS (fun S3 hS3 => ?_)
  replace h := lt_e hS3 h
  refine r_aload_n (x := 2) dX10_begin_17 rfl ?_
  refine r_iconst (v := 0) dX10_begin_18 rfl ?_
  refine r_putI dX10_begin_19 lX10_25 ck2 nC2 ?_
  refine r_topS (fun S4 hS4 => ?_)
  replace h := lt_e hS4 h
  refine r_aload_n (x := 2) dX10_begin_22 rfl ?_
  obtain ⟨S6, h7, h⟩ := bV_e h
  refine r_cVV (y := mX10_take) (As := []) (rest := []) dX10_begin_23 qX10_43 kX10_take rfl ob2 vc10 rfl (okX10_take N  S4 S6 h7) (by decide) (Nat.zero_le _) rfl (Nat.le_of_ble_eq_true rfl) ?_
  cases h
  exact r_return dX10_begin_26 rfl (Nat.zero_le _) ⟨rfl, rfl⟩
def fX3_passHour_15 (N : Nat) (v1 : Int32) : Nat → Int32 → PS → Option (Int32 × PS)
  | 0, _, _ => none
  | n + 1, v2, S =>
    lt ((S.2.2 5 3) : Nat) fun o5 =>
    gd (obj o5 1) <|
    (if (S.1 o5 4) ≤ v2 then
      some (v2, S)
    else
      bI (fX3_springRuns N v2 v1 S) fun x8 S9 =>
      (if x8 = 0 then
        gd (inr v2 9) <|
        bV (fX3_tip N v2 (0 + (S9.1 27 (ix v2))) S9) fun S14 =>
        lt (v2 + 1 : Int32) fun x16 =>
        fX3_passHour_15 N v1 n x16 S14
      else
        lt ((S9.2.2 5 3) : Nat) fun o17 =>
        gd (obj o17 1) <|
        gd (arr (sr o17 0) 1 9) <|
        gd (inr v2 9) <|
        lt ((S9.1 (sr o17 0) (ix v2)) : Int32) fun x21 =>
        gd (inr v2 9) <|
        bV (fX3_tip N v2 (x21 + (S9.1 27 (ix v2))) S9) fun S24 =>
        lt (v2 + 1 : Int32) fun x26 =>
        fX3_passHour_15 N v1 n x26 S24))
set_option maxHeartbeats 4000000 in
set_option maxRecDepth 100000 in
theorem okX3_passHour_15 (N : Nat) (v1 : Int32) (Q : OQ) (u : Nat) (hu : u ≤ 0) : ∀ (n : Nat) (v2 : Int32) (S : PS) (y2 : Int32) (T : PS), fX3_passHour_15 N v1 n v2 S = some (y2, T) → WP [] mX3_passHour 3 0 Q 68 [some (.ref 5), some (.int v1), some (.int y2), none] [] T u → WP [] mX3_passHour 3 0 Q 15 [some (.ref 5), some (.int v1), some (.int v2), none] [] S u := by
  intro n
  induction n with
  | zero => intro v2 S y2 T h; rw [fX3_passHour_15] at h; cases h
  | succ n ih =>
    intro v2 S y2 T h k0
    rw [fX3_passHour_15] at h
    refine r_iload_n (x := v2) dX3_passHour_15 rfl ?_
    refine r_aload_n (x := 5) dX3_passHour_16 rfl ?_
    refine r_getfield (o := 5) (v := .ref (S.2.2 5 3)) dX3_passHour_17 lX3_28 ck5 nC5 rfl ?_
    refine r_topr (fun o5 ho5 => ?_)
    replace h := lt_e ho5 h
    obtain ⟨g6, h⟩ := gd_e h
    refine r_getfield (o := o5) (v := .int (S.1 o5 4)) dX3_passHour_20 lX3_59 g6.1 g6.2 rfl ?_
    refine r_icmp_ge (tgt := 68) dX3_passHour_23 (by decide) (fun c7 => ?_) (fun c7 => ?_)
    · rw [if_pos c7] at h
      cases h
      exact k0
    · rw [if_neg c7] at h
      refine r_aload_n (x := 5) dX3_passHour_26 rfl ?_
      refine r_iload_n (x := v2) dX3_passHour_27 rfl ?_
      refine r_iload_n (x := v1) dX3_passHour_28 rfl ?_
      obtain ⟨x8, S9, h10, h⟩ := bI_e h
      refine r_cVI (y := mX3_springRuns) (As := [.int v2, .int v1]) (rest := []) dX3_passHour_29 qX3_61 kX3_springRuns rfl ob5 vc3 rfl (okX3_springRuns N v2 v1 S x8 S9 h10) (by decide) hu rfl (Nat.le_of_ble_eq_true rfl) ?_
      refine r_if_eq (tgt := 47) dX3_passHour_32 (by decide) (fun c11 => ?_) (fun c11 => ?_)
      · rw [if_pos c11] at h
        refine r_iconst (v := 0) dX3_passHour_47 rfl ?_
        refine r_istore_n (L' := [some (.ref 5), some (.int v1), some (.int v2), some (.int 0)]) dX3_passHour_48 (Nat.le_of_ble_eq_true rfl) rfl rfl ?_
        refine r_aload_n (x := 5) dX3_passHour_49 rfl ?_
        refine r_iload_n (x := v2) dX3_passHour_50 rfl ?_
        refine r_iload_n (x := 0) dX3_passHour_51 rfl ?_
        refine r_aload_n (x := 5) dX3_passHour_52 rfl ?_
        refine r_getfield (o := 5) (v := .ref 27) dX3_passHour_53 lX3_18 ck5 nC5 rfl ?_
        refine r_iload_n (x := v2) dX3_passHour_56 rfl ?_
        obtain ⟨g12, h⟩ := gd_e h
        refine r_iaload (a := 27) dX3_passHour_57 ck27 nC27 (inr_IX g12) ?_
        refine r_iadd dX3_passHour_58 ?_
        obtain ⟨S14, h15, h⟩ := bV_e h
        refine r_cVV (y := mX3_tip) (As := [.int v2, .int (0 + (S9.1 27 (ix v2)))]) (rest := []) dX3_passHour_59 qX3_68 kX3_tip rfl ob5 vc3 rfl (okX3_tip N v2 (0 + (S9.1 27 (ix v2))) S9 S14 h15) (by decide) hu rfl (Nat.le_of_ble_eq_true rfl) ?_
        obtain ⟨x16, hx16⟩ : ∃ y : Int32, y = (v2 + 1 : Int32) := ⟨_, rfl⟩
        replace h := lt_e hx16 h
        refine r_iinc (x := v2) (v := x16) (L' := [some (.ref 5), some (.int v1), some (.int x16), some (.int 0)]) dX3_passHour_62 rfl (by rw [hx16]; rfl) (Nat.le_of_ble_eq_true rfl) rfl rfl ?_
        refine r_goto (tgt := 15) dX3_passHour_65 (by decide) ?_
        refine r_drop [true, true, true, false] rfl ?_
        exact ih _ _ _ _ h k0
      · rw [if_neg c11] at h
        refine r_aload_n (x := 5) dX3_passHour_35 rfl ?_
        refine r_getfield (o := 5) (v := .ref (S9.2.2 5 3)) dX3_passHour_36 lX3_28 ck5 nC5 rfl ?_
        refine r_topr (fun o17 ho17 => ?_)
        replace h := lt_e ho17 h
        obtain ⟨g18, h⟩ := gd_e h
        refine r_getfield (o := o17) (v := .ref (sr o17 0)) dX3_passHour_39 lX3_65 g18.1 g18.2 rfl ?_
        refine r_iload_n (x := v2) dX3_passHour_42 rfl ?_
        obtain ⟨g19, h⟩ := gd_e h
        obtain ⟨g20, h⟩ := gd_e h
        refine r_iaload (a := (sr o17 0)) dX3_passHour_43 g19.1 g19.2 (inr_IX g20) ?_
        refine r_goto (tgt := 48) dX3_passHour_44 (by decide) ?_
        refine r_topi (fun x21 hx21 => ?_)
        replace h := lt_e hx21 h
        refine r_istore_n (L' := [some (.ref 5), some (.int v1), some (.int v2), some (.int x21)]) dX3_passHour_48 (Nat.le_of_ble_eq_true rfl) rfl rfl ?_
        refine r_aload_n (x := 5) dX3_passHour_49 rfl ?_
        refine r_iload_n (x := v2) dX3_passHour_50 rfl ?_
        refine r_iload_n (x := x21) dX3_passHour_51 rfl ?_
        refine r_aload_n (x := 5) dX3_passHour_52 rfl ?_
        refine r_getfield (o := 5) (v := .ref 27) dX3_passHour_53 lX3_18 ck5 nC5 rfl ?_
        refine r_iload_n (x := v2) dX3_passHour_56 rfl ?_
        obtain ⟨g22, h⟩ := gd_e h
        refine r_iaload (a := 27) dX3_passHour_57 ck27 nC27 (inr_IX g22) ?_
        refine r_iadd dX3_passHour_58 ?_
        obtain ⟨S24, h25, h⟩ := bV_e h
        refine r_cVV (y := mX3_tip) (As := [.int v2, .int (x21 + (S9.1 27 (ix v2)))]) (rest := []) dX3_passHour_59 qX3_68 kX3_tip rfl ob5 vc3 rfl (okX3_tip N v2 (x21 + (S9.1 27 (ix v2))) S9 S24 h25) (by decide) hu rfl (Nat.le_of_ble_eq_true rfl) ?_
        obtain ⟨x26, hx26⟩ : ∃ y : Int32, y = (v2 + 1 : Int32) := ⟨_, rfl⟩
        replace h := lt_e hx26 h
        refine r_iinc (x := v2) (v := x26) (L' := [some (.ref 5), some (.int v1), some (.int x26), some (.int x21)]) dX3_passHour_62 rfl (by rw [hx26]; rfl) (Nat.le_of_ble_eq_true rfl) rfl rfl ?_
        refine r_goto (tgt := 15) dX3_passHour_65 (by decide) ?_
        refine r_drop [true, true, true, false] rfl ?_
        exact ih _ _ _ _ h k0
def fX3_passHour_70 (N : Nat) (v1 : Int32) : Nat → Int32 → PS → Option (Int32 × PS)
  | 0, _, _ => none
  | n + 1, v2, S =>
    lt ((S.2.2 5 3) : Nat) fun o32 =>
    gd (obj o32 1) <|
    (if (S.1 o32 4) ≤ v2 then
      some (v2, S)
    else
      lt ((S.2.2 5 3) : Nat) fun o35 =>
      lt ((S.2.2 5 4) : Nat) fun o36 =>
      gd (obj o35 1) <|
      bI (fX1_leak N o35 o36 v2 S) fun x37 S38 =>
      lt ((S38.2.2 5 4) : Nat) fun o41 =>
      gd (obj o41 2) <|
      gd (arr (sr o41 1) 1 9) <|
      gd (inr v2 9) <|
      gd (arr (sr o41 1) 1 9) <|
      gd (inr v2 9) <|
      lt ((u2 S38.1 (sr o41 1) (ix v2) ((S38.1 (sr o41 1) (ix v2)) - x37), S38.2) : PS) fun S47 =>
      lt ((u2 S47.1 5 6 ((S47.1 5 6) + x37), S47.2) : PS) fun S48 =>
      lt (v2 + 1 : Int32) fun x49 =>
      fX3_passHour_70 N v1 n x49 S48)
set_option maxHeartbeats 4000000 in
set_option maxRecDepth 100000 in
theorem okX3_passHour_70 (N : Nat) (v1 : Int32) (Q : OQ) (u : Nat) (hu : u ≤ 0) : ∀ (n : Nat) (v2 : Int32) (S : PS) (y2 : Int32) (T : PS), fX3_passHour_70 N v1 n v2 S = some (y2, T) → WP [] mX3_passHour 3 0 Q 123 [some (.ref 5), some (.int v1), some (.int y2), none] [] T u → WP [] mX3_passHour 3 0 Q 70 [some (.ref 5), some (.int v1), some (.int v2), none] [] S u := by
  intro n
  induction n with
  | zero => intro v2 S y2 T h; rw [fX3_passHour_70] at h; cases h
  | succ n ih =>
    intro v2 S y2 T h k0
    rw [fX3_passHour_70] at h
    refine r_iload_n (x := v2) dX3_passHour_70 rfl ?_
    refine r_aload_n (x := 5) dX3_passHour_71 rfl ?_
    refine r_getfield (o := 5) (v := .ref (S.2.2 5 3)) dX3_passHour_72 lX3_28 ck5 nC5 rfl ?_
    refine r_topr (fun o32 ho32 => ?_)
    replace h := lt_e ho32 h
    obtain ⟨g33, h⟩ := gd_e h
    refine r_getfield (o := o32) (v := .int (S.1 o32 4)) dX3_passHour_75 lX3_59 g33.1 g33.2 rfl ?_
    refine r_icmp_ge (tgt := 123) dX3_passHour_78 (by decide) (fun c34 => ?_) (fun c34 => ?_)
    · rw [if_pos c34] at h
      cases h
      exact k0
    · rw [if_neg c34] at h
      refine r_aload_n (x := 5) dX3_passHour_81 rfl ?_
      refine r_getfield (o := 5) (v := .ref (S.2.2 5 3)) dX3_passHour_82 lX3_28 ck5 nC5 rfl ?_
      refine r_topr (fun o35 ho35 => ?_)
      replace h := lt_e ho35 h
      refine r_aload_n (x := 5) dX3_passHour_85 rfl ?_
      refine r_getfield (o := 5) (v := .ref (S.2.2 5 4)) dX3_passHour_86 lX3_32 ck5 nC5 rfl ?_
      refine r_topr (fun o36 ho36 => ?_)
      replace h := lt_e ho36 h
      refine r_iload_n (x := v2) dX3_passHour_89 rfl ?_
      obtain ⟨g40, h⟩ := gd_e h
      obtain ⟨x37, S38, h39, h⟩ := bI_e h
      refine r_cVI (y := mX1_leak) (As := [.ref o36, .int v2]) (rest := []) dX3_passHour_90 qX3_72 kX1_leak rfl g40 vc1 rfl (okX1_leak N o35 o36 v2 S x37 S38 h39) (by decide) hu rfl (Nat.le_of_ble_eq_true rfl) ?_
      refine r_istore_n (L' := [some (.ref 5), some (.int v1), some (.int v2), some (.int x37)]) dX3_passHour_93 (Nat.le_of_ble_eq_true rfl) rfl rfl ?_
      refine r_aload_n (x := 5) dX3_passHour_94 rfl ?_
      refine r_getfield (o := 5) (v := .ref (S38.2.2 5 4)) dX3_passHour_95 lX3_32 ck5 nC5 rfl ?_
      refine r_topr (fun o41 ho41 => ?_)
      replace h := lt_e ho41 h
      obtain ⟨g42, h⟩ := gd_e h
      refine r_getfield (o := o41) (v := .ref (sr o41 1)) dX3_passHour_98 lX3_76 g42.1 g42.2 rfl ?_
      refine r_iload_n (x := v2) dX3_passHour_101 rfl ?_
      refine r_dup2 dX3_passHour_102 ?_
      obtain ⟨g43, h⟩ := gd_e h
      obtain ⟨g44, h⟩ := gd_e h
      refine r_iaload (a := (sr o41 1)) dX3_passHour_103 g43.1 g43.2 (inr_IX g44) ?_
      refine r_iload_n (x := x37) dX3_passHour_104 rfl ?_
      refine r_isub dX3_passHour_105 ?_
      obtain ⟨g45, h⟩ := gd_e h
      obtain ⟨g46, h⟩ := gd_e h
      refine r_iastore (a := (sr o41 1)) dX3_passHour_106 g45.1 g45.2 (inr_IX g46) ?_
      refine r_topS (fun S47 hS47 => ?_)
      replace h := lt_e hS47 h
      refine r_aload_n (x := 5) dX3_passHour_107 rfl ?_
      refine r_dup_ref dX3_passHour_108 ?_
      refine r_getfield (o := 5) (v := .int (S47.1 5 6)) dX3_passHour_109 lX3_39 ck5 nC5 rfl ?_
      refine r_iload_n (x := x37) dX3_passHour_112 rfl ?_
      refine r_iadd dX3_passHour_113 ?_
      refine r_putI dX3_passHour_114 lX3_39 ck5 nC5 ?_
      refine r_topS (fun S48 hS48 => ?_)
      replace h := lt_e hS48 h
      obtain ⟨x49, hx49⟩ : ∃ y : Int32, y = (v2 + 1 : Int32) := ⟨_, rfl⟩
      replace h := lt_e hx49 h
      refine r_iinc (x := v2) (v := x49) (L' := [some (.ref 5), some (.int v1), some (.int x49), some (.int x37)]) dX3_passHour_117 rfl (by rw [hx49]; rfl) (Nat.le_of_ble_eq_true rfl) rfl rfl ?_
      refine r_goto (tgt := 70) dX3_passHour_120 (by decide) ?_
      refine r_drop [true, true, true, false] rfl ?_
      exact ih _ _ _ _ h k0
def fX3_passHour (N : Nat) (p0 : Int32) (S : PS) : Option PS :=
  bV (fJ7_fill_53178 N 27 0 S) fun S2 =>
  lt ((u2 S2.1 5 5 0, S2.2) : PS) fun S4 =>
  bT (fX3_passHour_15 N p0 N 0 S4) fun q27 =>
  lt (q27.1 : Int32) fun x28 =>
  lt (q27.2 : PS) fun S29 =>
  bT (fX3_passHour_70 N p0 N 0 S29) fun q50 =>
  lt (q50.1 : Int32) fun x51 =>
  lt (q50.2 : PS) fun S52 =>
  lt ((S52.2.2 5 4) : Nat) fun o55 =>
  gd (obj o55 2) <|
  gd (obj o55 2) <|
  lt ((u2 S52.1 o55 6 ((S52.1 o55 6) + 1), S52.2) : PS) fun S58 =>
  some S58
set_option maxHeartbeats 4000000 in
set_option maxRecDepth 100000 in
theorem okX3_passHour (N : Nat) (p0 : Int32) (S : PS) (T : PS) (h : fX3_passHour N p0 S = some T) : CT mX3_passHour 3 0 [.ref 5, .int p0] S (qV T) := by
  refine ct_of [some (.ref 5), some (.int p0), none, none] rfl (fun _ => rfl) (fun _ => Nat.le_of_ble_eq_true rfl) ?_
  unfold fX3_passHour at h
  refine r_aload_n (x := 5) dX3_passHour_0 rfl ?_
  refine r_getfield (o := 5) (v := .ref 27) dX3_passHour_1 lX3_18 ck5 nC5 rfl ?_
  refine r_iconst (v := 0) dX3_passHour_4 rfl ?_
  obtain ⟨S2, h3, h⟩ := bV_e h
  refine r_cSV (y := mJ7_fill_53178) (As := [.ref 27, .int 0]) (rest := []) dX3_passHour_5 qX3_42 kJ7_fill_53178 rfl (okJ7_fill_53178 N 27 0 S S2 h3) (by decide) (Nat.zero_le _) rfl (Nat.le_of_ble_eq_true rfl) ?_
  refine r_aload_n (x := 5) dX3_passHour_8 rfl ?_
  refine r_iconst (v := 0) dX3_passHour_9 rfl ?_
  refine r_putI dX3_passHour_10 lX3_35 ck5 nC5 ?_
  refine r_topS (fun S4 hS4 => ?_)
  replace h := lt_e hS4 h
  refine r_iconst (v := 0) dX3_passHour_13 rfl ?_
  refine r_istore_n (L' := [some (.ref 5), some (.int p0), some (.int 0), none]) dX3_passHour_14 (Nat.le_of_ble_eq_true rfl) rfl rfl ?_
  obtain ⟨⟨x28, S29⟩, h31, h⟩ := bT_e h
  dsimp only at h
  replace h := pl_s (pl_s (h))
  refine okX3_passHour_15 N p0 (qV T) 0 (Nat.zero_le _) _ _ _ _ _ h31 ?_
  refine r_iconst (v := 0) dX3_passHour_68 rfl ?_
  refine r_istore_n (L' := [some (.ref 5), some (.int p0), some (.int 0), none]) dX3_passHour_69 (Nat.le_of_ble_eq_true rfl) rfl rfl ?_
  obtain ⟨⟨x51, S52⟩, h54, h⟩ := bT_e h
  dsimp only at h
  replace h := pl_s (pl_s (h))
  refine okX3_passHour_70 N p0 (qV T) 0 (Nat.zero_le _) _ _ _ _ _ h54 ?_
  refine r_aload_n (x := 5) dX3_passHour_123 rfl ?_
  refine r_getfield (o := 5) (v := .ref (S52.2.2 5 4)) dX3_passHour_124 lX3_32 ck5 nC5 rfl ?_
  refine r_topr (fun o55 ho55 => ?_)
  replace h := lt_e ho55 h
  refine r_dup_ref dX3_passHour_127 ?_
  obtain ⟨g56, h⟩ := gd_e h
  refine r_getfield (o := o55) (v := .int (S52.1 o55 6)) dX3_passHour_128 lX3_78 g56.1 g56.2 rfl ?_
  refine r_iconst (v := 1) dX3_passHour_131 rfl ?_
  refine r_iadd dX3_passHour_132 ?_
  obtain ⟨g57, h⟩ := gd_e h
  refine r_putI dX3_passHour_133 lX3_78 g57.1 g57.2 ?_
  refine r_topS (fun S58 hS58 => ?_)
  replace h := lt_e hS58 h
  cases h
  exact r_return dX3_passHour_136 rfl (Nat.zero_le _) ⟨rfl, rfl⟩
def fX3_fillUp_32 (N : Nat) (v1 : Int32) (v2 : Int32) : Nat → Int32 → PS → Option (Int32 × PS)
  | 0, _, _ => none
  | n + 1, v3, S =>
    lt ((S.2.2 5 3) : Nat) fun o6 =>
    gd (obj o6 1) <|
    (if (S.1 o6 4) ≤ v3 then
      some (v3, S)
    else
      gd (inr v3 9) <|
      bV (fX3_tip N v3 (S.1 27 (ix v3)) S) fun S11 =>
      lt (v3 + 1 : Int32) fun x13 =>
      fX3_fillUp_32 N v1 v2 n x13 S11)
set_option maxHeartbeats 4000000 in
set_option maxRecDepth 100000 in
theorem okX3_fillUp_32 (N : Nat) (v1 : Int32) (v2 : Int32) (Q : OQ) (u : Nat) (hu : u ≤ 0) : ∀ (n : Nat) (v3 : Int32) (S : PS) (y3 : Int32) (T : PS), fX3_fillUp_32 N v1 v2 n v3 S = some (y3, T) → WP [] mX3_fillUp 3 0 Q 60 [some (.ref 5), some (.int v1), some (.int v2), some (.int y3)] [] T u → WP [] mX3_fillUp 3 0 Q 32 [some (.ref 5), some (.int v1), some (.int v2), some (.int v3)] [] S u := by
  intro n
  induction n with
  | zero => intro v3 S y3 T h; rw [fX3_fillUp_32] at h; cases h
  | succ n ih =>
    intro v3 S y3 T h k0
    rw [fX3_fillUp_32] at h
    refine r_iload_n (x := v3) dX3_fillUp_32 rfl ?_
    refine r_aload_n (x := 5) dX3_fillUp_33 rfl ?_
    refine r_getfield (o := 5) (v := .ref (S.2.2 5 3)) dX3_fillUp_34 lX3_28 ck5 nC5 rfl ?_
    refine r_topr (fun o6 ho6 => ?_)
    replace h := lt_e ho6 h
    obtain ⟨g7, h⟩ := gd_e h
    refine r_getfield (o := o6) (v := .int (S.1 o6 4)) dX3_fillUp_37 lX3_59 g7.1 g7.2 rfl ?_
    refine r_icmp_ge (tgt := 60) dX3_fillUp_40 (by decide) (fun c8 => ?_) (fun c8 => ?_)
    · rw [if_pos c8] at h
      cases h
      exact k0
    · rw [if_neg c8] at h
      refine r_aload_n (x := 5) dX3_fillUp_43 rfl ?_
      refine r_iload_n (x := v3) dX3_fillUp_44 rfl ?_
      refine r_aload_n (x := 5) dX3_fillUp_45 rfl ?_
      refine r_getfield (o := 5) (v := .ref 27) dX3_fillUp_46 lX3_18 ck5 nC5 rfl ?_
      refine r_iload_n (x := v3) dX3_fillUp_49 rfl ?_
      obtain ⟨g9, h⟩ := gd_e h
      refine r_iaload (a := 27) dX3_fillUp_50 ck27 nC27 (inr_IX g9) ?_
      obtain ⟨S11, h12, h⟩ := bV_e h
      refine r_cVV (y := mX3_tip) (As := [.int v3, .int (S.1 27 (ix v3))]) (rest := []) dX3_fillUp_51 qX3_68 kX3_tip rfl ob5 vc3 rfl (okX3_tip N v3 (S.1 27 (ix v3)) S S11 h12) (by decide) hu rfl (Nat.le_of_ble_eq_true rfl) ?_
      obtain ⟨x13, hx13⟩ : ∃ y : Int32, y = (v3 + 1 : Int32) := ⟨_, rfl⟩
      replace h := lt_e hx13 h
      refine r_iinc (x := v3) (v := x13) (L' := [some (.ref 5), some (.int v1), some (.int v2), some (.int x13)]) dX3_fillUp_54 rfl (by rw [hx13]; rfl) (Nat.le_of_ble_eq_true rfl) rfl rfl ?_
      refine r_goto (tgt := 32) dX3_fillUp_57 (by decide) ?_
      exact ih _ _ _ _ h k0
def fX3_fillUp (N : Nat) (p0 : Int32) (p1 : Int32) (S : PS) : Option PS :=
  bV (fJ7_fill_53178 N 27 0 S) fun S2 =>
  lt ((u2 S2.1 5 5 0, S2.2) : PS) fun S4 =>
  (if p0 < 0 then
    bT (fX3_fillUp_32 N p0 p1 N 0 S4) fun q14 =>
    lt (q14.1 : Int32) fun x15 =>
    lt (q14.2 : PS) fun S16 =>
    some S16
  else
    (if 9 ≤ p0 then
      bT (fX3_fillUp_32 N p0 p1 N 0 S4) fun q20 =>
      lt (q20.1 : Int32) fun x21 =>
      lt (q20.2 : PS) fun S22 =>
      some S22
    else
      gd (inr p0 9) <|
      lt ((u2 S4.1 27 (ix p0) p1, S4.2) : PS) fun S26 =>
      bT (fX3_fillUp_32 N p0 p1 N 0 S26) fun q27 =>
      lt (q27.1 : Int32) fun x28 =>
      lt (q27.2 : PS) fun S29 =>
      some S29))
set_option maxHeartbeats 4000000 in
set_option maxRecDepth 100000 in
theorem okX3_fillUp (N : Nat) (p0 : Int32) (p1 : Int32) (S : PS) (T : PS) (h : fX3_fillUp N p0 p1 S = some T) : CT mX3_fillUp 3 0 [.ref 5, .int p0, .int p1] S (qV T) := by
  refine ct_of [some (.ref 5), some (.int p0), some (.int p1), none] rfl (fun _ => rfl) (fun _ => Nat.le_of_ble_eq_true rfl) ?_
  unfold fX3_fillUp at h
  refine r_aload_n (x := 5) dX3_fillUp_0 rfl ?_
  refine r_getfield (o := 5) (v := .ref 27) dX3_fillUp_1 lX3_18 ck5 nC5 rfl ?_
  refine r_iconst (v := 0) dX3_fillUp_4 rfl ?_
  obtain ⟨S2, h3, h⟩ := bV_e h
  refine r_cSV (y := mJ7_fill_53178) (As := [.ref 27, .int 0]) (rest := []) dX3_fillUp_5 qX3_42 kJ7_fill_53178 rfl (okJ7_fill_53178 N 27 0 S S2 h3) (by decide) (Nat.zero_le _) rfl (Nat.le_of_ble_eq_true rfl) ?_
  refine r_aload_n (x := 5) dX3_fillUp_8 rfl ?_
  refine r_iconst (v := 0) dX3_fillUp_9 rfl ?_
  refine r_putI dX3_fillUp_10 lX3_35 ck5 nC5 ?_
  refine r_topS (fun S4 hS4 => ?_)
  replace h := lt_e hS4 h
  refine r_iload_n (x := p0) dX3_fillUp_13 rfl ?_
  refine r_if_lt (tgt := 30) dX3_fillUp_14 (by decide) (fun c5 => ?_) (fun c5 => ?_)
  · rw [if_pos c5] at h
    refine r_iconst (v := 0) dX3_fillUp_30 rfl ?_
    refine r_istore_n (L' := [some (.ref 5), some (.int p0), some (.int p1), some (.int 0)]) dX3_fillUp_31 (Nat.le_of_ble_eq_true rfl) rfl rfl ?_
    obtain ⟨⟨x15, S16⟩, h18, h⟩ := bT_e h
    dsimp only at h
    replace h := pl_s (pl_s (h))
    refine okX3_fillUp_32 N p0 p1 (qV T) 0 (Nat.zero_le _) _ _ _ _ _ h18 ?_
    cases h
    exact r_return dX3_fillUp_60 rfl (Nat.zero_le _) ⟨rfl, rfl⟩
  · rw [if_neg c5] at h
    refine r_iload_n (x := p0) dX3_fillUp_17 rfl ?_
    refine r_bipush (v := 9) dX3_fillUp_18 rfl ?_
    refine r_icmp_ge (tgt := 30) dX3_fillUp_20 (by decide) (fun c19 => ?_) (fun c19 => ?_)
    · rw [if_pos c19] at h
      refine r_iconst (v := 0) dX3_fillUp_30 rfl ?_
      refine r_istore_n (L' := [some (.ref 5), some (.int p0), some (.int p1), some (.int 0)]) dX3_fillUp_31 (Nat.le_of_ble_eq_true rfl) rfl rfl ?_
      obtain ⟨⟨x21, S22⟩, h24, h⟩ := bT_e h
      dsimp only at h
      replace h := pl_s (pl_s (h))
      refine okX3_fillUp_32 N p0 p1 (qV T) 0 (Nat.zero_le _) _ _ _ _ _ h24 ?_
      cases h
      exact r_return dX3_fillUp_60 rfl (Nat.zero_le _) ⟨rfl, rfl⟩
    · rw [if_neg c19] at h
      refine r_aload_n (x := 5) dX3_fillUp_23 rfl ?_
      refine r_getfield (o := 5) (v := .ref 27) dX3_fillUp_24 lX3_18 ck5 nC5 rfl ?_
      refine r_iload_n (x := p0) dX3_fillUp_27 rfl ?_
      refine r_iload_n (x := p1) dX3_fillUp_28 rfl ?_
      obtain ⟨g25, h⟩ := gd_e h
      refine r_iastore (a := 27) dX3_fillUp_29 ck27 nC27 (inr_IX g25) ?_
      refine r_topS (fun S26 hS26 => ?_)
      replace h := lt_e hS26 h
      refine r_iconst (v := 0) dX3_fillUp_30 rfl ?_
      refine r_istore_n (L' := [some (.ref 5), some (.int p0), some (.int p1), some (.int 0)]) dX3_fillUp_31 (Nat.le_of_ble_eq_true rfl) rfl rfl ?_
      obtain ⟨⟨x28, S29⟩, h31, h⟩ := bT_e h
      dsimp only at h
      replace h := pl_s (pl_s (h))
      refine okX3_fillUp_32 N p0 p1 (qV T) 0 (Nat.zero_le _) _ _ _ _ _ h31 ?_
      cases h
      exact r_return dX3_fillUp_60 rfl (Nat.zero_le _) ⟨rfl, rfl⟩
def fX7_readCup (N : Nat)  (S : PS) : Option PS :=
  lt ((S.2.2 1 1) : Nat) fun o1 =>
  gd (obj o1 1) <|
  (if (S.1 o1 4) < 9 then
    bV (fX10_take N  S) fun S5 =>
    bI (fX7_readNumber N 1 30 S5) fun x7 S8 =>
    bI (fX7_readNumber N 0 (x7 - 1) S8) fun x10 S11 =>
    bI (fX7_readNumber N 0 20 S11) fun x13 S14 =>
    bV (fX7_readSign N 59 S14) fun S17 =>
    (if (S17.1 1 3) = 0 then
      lt ((S17.2.2 1 1) : Nat) fun o20 =>
      gd (obj o20 1) <|
      bV (fX1_addCup N o20 x7 x10 x13 S17) fun S22 =>
      some S22
    else
      some S17)
  else
    bI (fX7_fail N 2 S) fun x25 S26 =>
    some S26)
set_option maxHeartbeats 4000000 in
set_option maxRecDepth 100000 in
theorem okX7_readCup (N : Nat)  (S : PS) (T : PS) (h : fX7_readCup N  S = some T) : CT mX7_readCup 3 0 [.ref 1] S (qV T) := by
  refine ct_of [some (.ref 1), none, none, none] rfl (fun _ => rfl) (fun _ => Nat.le_of_ble_eq_true rfl) ?_
  unfold fX7_readCup at h
  refine r_aload_n (x := 1) dX7_readCup_0 rfl ?_
  refine r_getfield (o := 1) (v := .ref (S.2.2 1 1)) dX7_readCup_1 lX7_21 ck1 nC1 rfl ?_
  refine r_topr (fun o1 ho1 => ?_)
  replace h := lt_e ho1 h
  obtain ⟨g2, h⟩ := gd_e h
  refine r_getfield (o := o1) (v := .int (S.1 o1 4)) dX7_readCup_4 lX7_86 g2.1 g2.2 rfl ?_
  refine r_bipush (v := 9) dX7_readCup_7 rfl ?_
  refine r_icmp_lt (tgt := 19) dX7_readCup_9 (by decide) (fun c3 => ?_) (fun c3 => ?_)
  · rw [if_pos c3] at h
    refine r_aload_n (x := 1) dX7_readCup_19 rfl ?_
    refine r_getfield (o := 1) (v := .ref 2) dX7_readCup_20 lX7_12 ck1 nC1 rfl ?_
    obtain ⟨S5, h6, h⟩ := bV_e h
    refine r_cVV (y := mX10_take) (As := []) (rest := []) dX7_readCup_23 qX7_83 kX10_take rfl ob2 vc10 rfl (okX10_take N  S S5 h6) (by decide) (Nat.zero_le _) rfl (Nat.le_of_ble_eq_true rfl) ?_
    refine r_aload_n (x := 1) dX7_readCup_26 rfl ?_
    refine r_iconst (v := 1) dX7_readCup_27 rfl ?_
    refine r_bipush (v := 30) dX7_readCup_28 rfl ?_
    obtain ⟨x7, S8, h9, h⟩ := bI_e h
    refine r_cVI (y := mX7_readNumber) (As := [.int 1, .int 30]) (rest := []) dX7_readCup_30 qX7_89 kX7_readNumber rfl ob1 vc7 rfl (okX7_readNumber N 1 30 S5 x7 S8 h9) (by decide) (Nat.zero_le _) rfl (Nat.le_of_ble_eq_true rfl) ?_
    refine r_istore_n (L' := [some (.ref 1), some (.int x7), none, none]) dX7_readCup_33 (Nat.le_of_ble_eq_true rfl) rfl rfl ?_
    refine r_aload_n (x := 1) dX7_readCup_34 rfl ?_
    refine r_iconst (v := 0) dX7_readCup_35 rfl ?_
    refine r_iload_n (x := x7) dX7_readCup_36 rfl ?_
    refine r_iconst (v := 1) dX7_readCup_37 rfl ?_
    refine r_isub dX7_readCup_38 ?_
    obtain ⟨x10, S11, h12, h⟩ := bI_e h
    refine r_cVI (y := mX7_readNumber) (As := [.int 0, .int (x7 - 1)]) (rest := []) dX7_readCup_39 qX7_89 kX7_readNumber rfl ob1 vc7 rfl (okX7_readNumber N 0 (x7 - 1) S8 x10 S11 h12) (by decide) (Nat.zero_le _) rfl (Nat.le_of_ble_eq_true rfl) ?_
    refine r_istore_n (L' := [some (.ref 1), some (.int x7), some (.int x10), none]) dX7_readCup_42 (Nat.le_of_ble_eq_true rfl) rfl rfl ?_
    refine r_aload_n (x := 1) dX7_readCup_43 rfl ?_
    refine r_iconst (v := 0) dX7_readCup_44 rfl ?_
    refine r_bipush (v := 20) dX7_readCup_45 rfl ?_
    obtain ⟨x13, S14, h15, h⟩ := bI_e h
    refine r_cVI (y := mX7_readNumber) (As := [.int 0, .int 20]) (rest := []) dX7_readCup_47 qX7_89 kX7_readNumber rfl ob1 vc7 rfl (okX7_readNumber N 0 20 S11 x13 S14 h15) (by decide) (Nat.zero_le _) rfl (Nat.le_of_ble_eq_true rfl) ?_
    refine r_istore_n (L' := [some (.ref 1), some (.int x7), some (.int x10), some (.int x13)]) dX7_readCup_50 (Nat.le_of_ble_eq_true rfl) rfl rfl ?_
    refine r_aload_n (x := 1) dX7_readCup_51 rfl ?_
    refine r_bipush (v := 59) dX7_readCup_52 rfl ?_
    obtain ⟨S17, h18, h⟩ := bV_e h
    refine r_cVV (y := mX7_readSign) (As := [.int 59]) (rest := []) dX7_readCup_54 qX7_93 kX7_readSign rfl ob1 vc7 rfl (okX7_readSign N 59 S14 S17 h18) (by decide) (Nat.zero_le _) rfl (Nat.le_of_ble_eq_true rfl) ?_
    refine r_aload_n (x := 1) dX7_readCup_57 rfl ?_
    refine r_getfield (o := 1) (v := .int (S17.1 1 3)) dX7_readCup_58 lX7_32 ck1 nC1 rfl ?_
    refine r_if_ne (tgt := 74) dX7_readCup_61 (by decide) (fun c19 => ?_) (fun c19 => ?_)
    · rw [if_neg c19] at h
      cases h
      exact r_return dX7_readCup_74 rfl (Nat.zero_le _) ⟨rfl, rfl⟩
    · rw [if_pos c19] at h
      refine r_aload_n (x := 1) dX7_readCup_64 rfl ?_
      refine r_getfield (o := 1) (v := .ref (S17.2.2 1 1)) dX7_readCup_65 lX7_21 ck1 nC1 rfl ?_
      refine r_topr (fun o20 ho20 => ?_)
      replace h := lt_e ho20 h
      refine r_iload_n (x := x7) dX7_readCup_68 rfl ?_
      refine r_iload_n (x := x10) dX7_readCup_69 rfl ?_
      refine r_iload_n (x := x13) dX7_readCup_70 rfl ?_
      obtain ⟨g24, h⟩ := gd_e h
      obtain ⟨S22, h23, h⟩ := bV_e h
      refine r_cVV (y := mX1_addCup) (As := [.int x7, .int x10, .int x13]) (rest := []) dX7_readCup_71 qX7_97 kX1_addCup rfl g24 vc1 rfl (okX1_addCup N o20 x7 x10 x13 S17 S22 h23) (by decide) (Nat.zero_le _) rfl (Nat.le_of_ble_eq_true rfl) ?_
      cases h
      exact r_return dX7_readCup_74 rfl (Nat.zero_le _) ⟨rfl, rfl⟩
  · rw [if_neg c3] at h
    refine r_aload_n (x := 1) dX7_readCup_12 rfl ?_
    refine r_iconst (v := 2) dX7_readCup_13 rfl ?_
    obtain ⟨x25, S26, h27, h⟩ := bI_e h
    refine r_cVI (y := mX7_fail) (As := [.int 2]) (rest := []) dX7_readCup_14 qX7_72 kX7_fail rfl ob1 vc7 rfl (okX7_fail N 2 S x25 S26 h27) (by decide) (Nat.zero_le _) rfl (Nat.le_of_ble_eq_true rfl) ?_
    refine r_pop_int dX7_readCup_17 ?_
    cases h
    exact r_return dX7_readCup_18 rfl (Nat.zero_le _) ⟨rfl, rfl⟩
def fX7_readPipe (N : Nat)  (S : PS) : Option PS :=
  bV (fX10_take N  S) fun S2 =>
  bI (fX7_lookAtCup N  S2) fun x4 S5 =>
  (if x4 = (-1) then
    some S5
  else
    lt ((S5.2.2 1 1) : Nat) fun o8 =>
    gd (obj o8 1) <|
    gd (obj (sr o8 1) 2) <|
    gd (arr (sr (sr o8 1) 2) 1 9) <|
    gd (inr x4 9) <|
    (if (S5.1 (sr (sr o8 1) 2) (ix x4)) = (-1) then
      bV (fX10_take N  S5) fun S15 =>
      bI (fX7_readInto N x4 (-1) S15) fun x17 S18 =>
      (if x17 = (-1) then
        bV (fX7_readSign N 59 S18) fun S22 =>
        (if (S22.1 1 3) = 0 then
          lt ((S22.2.2 1 1) : Nat) fun o25 =>
          gd (obj o25 1) <|
          gd (obj (sr o25 1) 2) <|
          gd (arr (sr (sr o25 1) 2) 1 9) <|
          gd (inr x4 9) <|
          lt ((u2 S22.1 (sr (sr o25 1) 2) (ix x4) x17, S22.2) : PS) fun S30 =>
          lt ((S30.2.2 1 1) : Nat) fun o31 =>
          gd (obj o31 1) <|
          gd (obj (sr o31 1) 2) <|
          gd (arr (sr (sr o31 1) 3) 1 9) <|
          gd (inr x4 9) <|
          lt ((u2 S30.1 (sr (sr o31 1) 3) (ix x4) (-1), S30.2) : PS) fun S36 =>
          some S36
        else
          some S22)
      else
        (if (S18.1 2 5) = 2 then
          bI (fX7_readInto N x4 x17 S18) fun x54 S55 =>
          bV (fX7_readSign N 59 S55) fun S58 =>
          (if (S58.1 1 3) = 0 then
            lt ((S58.2.2 1 1) : Nat) fun o61 =>
            gd (obj o61 1) <|
            gd (obj (sr o61 1) 2) <|
            gd (arr (sr (sr o61 1) 2) 1 9) <|
            gd (inr x4 9) <|
            lt ((u2 S58.1 (sr (sr o61 1) 2) (ix x4) x17, S58.2) : PS) fun S66 =>
            lt ((S66.2.2 1 1) : Nat) fun o67 =>
            gd (obj o67 1) <|
            gd (obj (sr o67 1) 2) <|
            gd (arr (sr (sr o67 1) 3) 1 9) <|
            gd (inr x4 9) <|
            lt ((u2 S66.1 (sr (sr o67 1) 3) (ix x4) x54, S66.2) : PS) fun S72 =>
            some S72
          else
            some S58)
        else
          bV (fX7_readSign N 59 S18) fun S39 =>
          (if (S39.1 1 3) = 0 then
            lt ((S39.2.2 1 1) : Nat) fun o42 =>
            gd (obj o42 1) <|
            gd (obj (sr o42 1) 2) <|
            gd (arr (sr (sr o42 1) 2) 1 9) <|
            gd (inr x4 9) <|
            lt ((u2 S39.1 (sr (sr o42 1) 2) (ix x4) x17, S39.2) : PS) fun S47 =>
            lt ((S47.2.2 1 1) : Nat) fun o48 =>
            gd (obj o48 1) <|
            gd (obj (sr o48 1) 2) <|
            gd (arr (sr (sr o48 1) 3) 1 9) <|
            gd (inr x4 9) <|
            lt ((u2 S47.1 (sr (sr o48 1) 3) (ix x4) (-1), S47.2) : PS) fun S53 =>
            some S53
          else
            some S39)))
    else
      bI (fX7_fail N 4 S5) fun x73 S74 =>
      some S74))
set_option maxHeartbeats 4000000 in
set_option maxRecDepth 100000 in
theorem okX7_readPipe (N : Nat)  (S : PS) (T : PS) (h : fX7_readPipe N  S = some T) : CT mX7_readPipe 3 0 [.ref 1] S (qV T) := by
  refine ct_of [some (.ref 1), none, none, none] rfl (fun _ => rfl) (fun _ => Nat.le_of_ble_eq_true rfl) ?_
  unfold fX7_readPipe at h
  refine r_aload_n (x := 1) dX7_readPipe_0 rfl ?_
  refine r_getfield (o := 1) (v := .ref 2) dX7_readPipe_1 lX7_12 ck1 nC1 rfl ?_
  obtain ⟨S2, h3, h⟩ := bV_e h
  refine r_cVV (y := mX10_take) (As := []) (rest := []) dX7_readPipe_4 qX7_83 kX10_take rfl ob2 vc10 rfl (okX10_take N  S S2 h3) (by decide) (Nat.zero_le _) rfl (Nat.le_of_ble_eq_true rfl) ?_
  refine r_aload_n (x := 1) dX7_readPipe_7 rfl ?_
  obtain ⟨x4, S5, h6, h⟩ := bI_e h
  refine r_cVI (y := mX7_lookAtCup) (As := []) (rest := []) dX7_readPipe_8 qX7_108 kX7_lookAtCup rfl ob1 vc7 rfl (okX7_lookAtCup N  S2 x4 S5 h6) (by decide) (Nat.zero_le _) rfl (Nat.le_of_ble_eq_true rfl) ?_
  refine r_istore_n (L' := [some (.ref 1), some (.int x4), none, none]) dX7_readPipe_11 (Nat.le_of_ble_eq_true rfl) rfl rfl ?_
  refine r_iload_n (x := x4) dX7_readPipe_12 rfl ?_
  refine r_iconst (v := (-1)) dX7_readPipe_13 rfl ?_
  refine r_icmp_ne (tgt := 18) dX7_readPipe_14 (by decide) (fun c7 => ?_) (fun c7 => ?_)
  · rw [if_neg c7] at h
    refine r_aload_n (x := 1) dX7_readPipe_18 rfl ?_
    refine r_getfield (o := 1) (v := .ref (S5.2.2 1 1)) dX7_readPipe_19 lX7_21 ck1 nC1 rfl ?_
    refine r_topr (fun o8 ho8 => ?_)
    replace h := lt_e ho8 h
    obtain ⟨g9, h⟩ := gd_e h
    refine r_getfield (o := o8) (v := .ref (sr o8 1)) dX7_readPipe_22 lX7_112 g9.1 g9.2 rfl ?_
    obtain ⟨g10, h⟩ := gd_e h
    refine r_getfield (o := (sr o8 1)) (v := .ref (sr (sr o8 1) 2)) dX7_readPipe_25 lX7_116 g10.1 g10.2 rfl ?_
    refine r_iload_n (x := x4) dX7_readPipe_28 rfl ?_
    obtain ⟨g11, h⟩ := gd_e h
    obtain ⟨g12, h⟩ := gd_e h
    refine r_iaload (a := (sr (sr o8 1) 2)) dX7_readPipe_29 g11.1 g11.2 (inr_IX g12) ?_
    refine r_iconst (v := (-1)) dX7_readPipe_30 rfl ?_
    refine r_icmp_eq (tgt := 41) dX7_readPipe_31 (by decide) (fun c13 => ?_) (fun c13 => ?_)
    · rw [if_pos c13] at h
      refine r_aload_n (x := 1) dX7_readPipe_41 rfl ?_
      refine r_getfield (o := 1) (v := .ref 2) dX7_readPipe_42 lX7_12 ck1 nC1 rfl ?_
      obtain ⟨S15, h16, h⟩ := bV_e h
      refine r_cVV (y := mX10_take) (As := []) (rest := []) dX7_readPipe_45 qX7_83 kX10_take rfl ob2 vc10 rfl (okX10_take N  S5 S15 h16) (by decide) (Nat.zero_le _) rfl (Nat.le_of_ble_eq_true rfl) ?_
      refine r_aload_n (x := 1) dX7_readPipe_48 rfl ?_
      refine r_iload_n (x := x4) dX7_readPipe_49 rfl ?_
      refine r_iconst (v := (-1)) dX7_readPipe_50 rfl ?_
      obtain ⟨x17, S18, h19, h⟩ := bI_e h
      refine r_cVI (y := mX7_readInto) (As := [.int x4, .int (-1)]) (rest := []) dX7_readPipe_51 qX7_122 kX7_readInto rfl ob1 vc7 rfl (okX7_readInto N x4 (-1) S15 x17 S18 h19) (by decide) (Nat.zero_le _) rfl (Nat.le_of_ble_eq_true rfl) ?_
      refine r_istore_n (L' := [some (.ref 1), some (.int x4), some (.int x17), none]) dX7_readPipe_54 (Nat.le_of_ble_eq_true rfl) rfl rfl ?_
      refine r_iload_n (x := x17) dX7_readPipe_55 rfl ?_
      refine r_iconst (v := (-1)) dX7_readPipe_56 rfl ?_
      refine r_icmp_eq (tgt := 80) dX7_readPipe_57 (by decide) (fun c20 => ?_) (fun c20 => ?_)
      · rw [if_pos c20] at h
        refine r_iconst (v := (-1)) dX7_readPipe_80 rfl ?_
        refine r_istore_n (L' := [some (.ref 1), some (.int x4), some (.int x17), some (.int (-1))]) dX7_readPipe_81 (Nat.le_of_ble_eq_true rfl) rfl rfl ?_
        refine r_aload_n (x := 1) dX7_readPipe_82 rfl ?_
        refine r_bipush (v := 59) dX7_readPipe_83 rfl ?_
        obtain ⟨S22, h23, h⟩ := bV_e h
        refine r_cVV (y := mX7_readSign) (As := [.int 59]) (rest := []) dX7_readPipe_85 qX7_93 kX7_readSign rfl ob1 vc7 rfl (okX7_readSign N 59 S18 S22 h23) (by decide) (Nat.zero_le _) rfl (Nat.le_of_ble_eq_true rfl) ?_
        refine r_aload_n (x := 1) dX7_readPipe_88 rfl ?_
        refine r_getfield (o := 1) (v := .int (S22.1 1 3)) dX7_readPipe_89 lX7_32 ck1 nC1 rfl ?_
        refine r_if_ne (tgt := 121) dX7_readPipe_92 (by decide) (fun c24 => ?_) (fun c24 => ?_)
        · rw [if_neg c24] at h
          cases h
          exact r_return dX7_readPipe_121 rfl (Nat.zero_le _) ⟨rfl, rfl⟩
        · rw [if_pos c24] at h
          refine r_aload_n (x := 1) dX7_readPipe_95 rfl ?_
          refine r_getfield (o := 1) (v := .ref (S22.2.2 1 1)) dX7_readPipe_96 lX7_21 ck1 nC1 rfl ?_
          refine r_topr (fun o25 ho25 => ?_)
          replace h := lt_e ho25 h
          obtain ⟨g26, h⟩ := gd_e h
          refine r_getfield (o := o25) (v := .ref (sr o25 1)) dX7_readPipe_99 lX7_112 g26.1 g26.2 rfl ?_
          obtain ⟨g27, h⟩ := gd_e h
          refine r_getfield (o := (sr o25 1)) (v := .ref (sr (sr o25 1) 2)) dX7_readPipe_102 lX7_116 g27.1 g27.2 rfl ?_
          refine r_iload_n (x := x4) dX7_readPipe_105 rfl ?_
          refine r_iload_n (x := x17) dX7_readPipe_106 rfl ?_
          obtain ⟨g28, h⟩ := gd_e h
          obtain ⟨g29, h⟩ := gd_e h
          refine r_iastore (a := (sr (sr o25 1) 2)) dX7_readPipe_107 g28.1 g28.2 (inr_IX g29) ?_
          refine r_topS (fun S30 hS30 => ?_)
          replace h := lt_e hS30 h
          refine r_aload_n (x := 1) dX7_readPipe_108 rfl ?_
          refine r_getfield (o := 1) (v := .ref (S30.2.2 1 1)) dX7_readPipe_109 lX7_21 ck1 nC1 rfl ?_
          refine r_topr (fun o31 ho31 => ?_)
          replace h := lt_e ho31 h
          obtain ⟨g32, h⟩ := gd_e h
          refine r_getfield (o := o31) (v := .ref (sr o31 1)) dX7_readPipe_112 lX7_112 g32.1 g32.2 rfl ?_
          obtain ⟨g33, h⟩ := gd_e h
          refine r_getfield (o := (sr o31 1)) (v := .ref (sr (sr o31 1) 3)) dX7_readPipe_115 lX7_125 g33.1 g33.2 rfl ?_
          refine r_iload_n (x := x4) dX7_readPipe_118 rfl ?_
          refine r_iload_n (x := (-1)) dX7_readPipe_119 rfl ?_
          obtain ⟨g34, h⟩ := gd_e h
          obtain ⟨g35, h⟩ := gd_e h
          refine r_iastore (a := (sr (sr o31 1) 3)) dX7_readPipe_120 g34.1 g34.2 (inr_IX g35) ?_
          refine r_topS (fun S36 hS36 => ?_)
          replace h := lt_e hS36 h
          cases h
          exact r_return dX7_readPipe_121 rfl (Nat.zero_le _) ⟨rfl, rfl⟩
      · rw [if_neg c20] at h
        refine r_aload_n (x := 1) dX7_readPipe_60 rfl ?_
        refine r_getfield (o := 1) (v := .ref 2) dX7_readPipe_61 lX7_12 ck1 nC1 rfl ?_
        refine r_getfield (o := 2) (v := .int (S18.1 2 5)) dX7_readPipe_64 lX7_46 ck2 nC2 rfl ?_
        refine r_iconst (v := 2) dX7_readPipe_67 rfl ?_
        refine r_icmp_ne (tgt := 80) dX7_readPipe_68 (by decide) (fun c37 => ?_) (fun c37 => ?_)
        · rw [if_neg c37] at h
          refine r_iconst (v := (-1)) dX7_readPipe_80 rfl ?_
          refine r_istore_n (L' := [some (.ref 1), some (.int x4), some (.int x17), some (.int (-1))]) dX7_readPipe_81 (Nat.le_of_ble_eq_true rfl) rfl rfl ?_
          refine r_aload_n (x := 1) dX7_readPipe_82 rfl ?_
          refine r_bipush (v := 59) dX7_readPipe_83 rfl ?_
          obtain ⟨S39, h40, h⟩ := bV_e h
          refine r_cVV (y := mX7_readSign) (As := [.int 59]) (rest := []) dX7_readPipe_85 qX7_93 kX7_readSign rfl ob1 vc7 rfl (okX7_readSign N 59 S18 S39 h40) (by decide) (Nat.zero_le _) rfl (Nat.le_of_ble_eq_true rfl) ?_
          refine r_aload_n (x := 1) dX7_readPipe_88 rfl ?_
          refine r_getfield (o := 1) (v := .int (S39.1 1 3)) dX7_readPipe_89 lX7_32 ck1 nC1 rfl ?_
          refine r_if_ne (tgt := 121) dX7_readPipe_92 (by decide) (fun c41 => ?_) (fun c41 => ?_)
          · rw [if_neg c41] at h
            cases h
            exact r_return dX7_readPipe_121 rfl (Nat.zero_le _) ⟨rfl, rfl⟩
          · rw [if_pos c41] at h
            refine r_aload_n (x := 1) dX7_readPipe_95 rfl ?_
            refine r_getfield (o := 1) (v := .ref (S39.2.2 1 1)) dX7_readPipe_96 lX7_21 ck1 nC1 rfl ?_
            refine r_topr (fun o42 ho42 => ?_)
            replace h := lt_e ho42 h
            obtain ⟨g43, h⟩ := gd_e h
            refine r_getfield (o := o42) (v := .ref (sr o42 1)) dX7_readPipe_99 lX7_112 g43.1 g43.2 rfl ?_
            obtain ⟨g44, h⟩ := gd_e h
            refine r_getfield (o := (sr o42 1)) (v := .ref (sr (sr o42 1) 2)) dX7_readPipe_102 lX7_116 g44.1 g44.2 rfl ?_
            refine r_iload_n (x := x4) dX7_readPipe_105 rfl ?_
            refine r_iload_n (x := x17) dX7_readPipe_106 rfl ?_
            obtain ⟨g45, h⟩ := gd_e h
            obtain ⟨g46, h⟩ := gd_e h
            refine r_iastore (a := (sr (sr o42 1) 2)) dX7_readPipe_107 g45.1 g45.2 (inr_IX g46) ?_
            refine r_topS (fun S47 hS47 => ?_)
            replace h := lt_e hS47 h
            refine r_aload_n (x := 1) dX7_readPipe_108 rfl ?_
            refine r_getfield (o := 1) (v := .ref (S47.2.2 1 1)) dX7_readPipe_109 lX7_21 ck1 nC1 rfl ?_
            refine r_topr (fun o48 ho48 => ?_)
            replace h := lt_e ho48 h
            obtain ⟨g49, h⟩ := gd_e h
            refine r_getfield (o := o48) (v := .ref (sr o48 1)) dX7_readPipe_112 lX7_112 g49.1 g49.2 rfl ?_
            obtain ⟨g50, h⟩ := gd_e h
            refine r_getfield (o := (sr o48 1)) (v := .ref (sr (sr o48 1) 3)) dX7_readPipe_115 lX7_125 g50.1 g50.2 rfl ?_
            refine r_iload_n (x := x4) dX7_readPipe_118 rfl ?_
            refine r_iload_n (x := (-1)) dX7_readPipe_119 rfl ?_
            obtain ⟨g51, h⟩ := gd_e h
            obtain ⟨g52, h⟩ := gd_e h
            refine r_iastore (a := (sr (sr o48 1) 3)) dX7_readPipe_120 g51.1 g51.2 (inr_IX g52) ?_
            refine r_topS (fun S53 hS53 => ?_)
            replace h := lt_e hS53 h
            cases h
            exact r_return dX7_readPipe_121 rfl (Nat.zero_le _) ⟨rfl, rfl⟩
        · rw [if_pos c37] at h
          refine r_aload_n (x := 1) dX7_readPipe_71 rfl ?_
          refine r_iload_n (x := x4) dX7_readPipe_72 rfl ?_
          refine r_iload_n (x := x17) dX7_readPipe_73 rfl ?_
          obtain ⟨x54, S55, h56, h⟩ := bI_e h
          refine r_cVI (y := mX7_readInto) (As := [.int x4, .int x17]) (rest := []) dX7_readPipe_74 qX7_122 kX7_readInto rfl ob1 vc7 rfl (okX7_readInto N x4 x17 S18 x54 S55 h56) (by decide) (Nat.zero_le _) rfl (Nat.le_of_ble_eq_true rfl) ?_
          refine r_goto (tgt := 81) dX7_readPipe_77 (by decide) ?_
          refine r_istore_n (L' := [some (.ref 1), some (.int x4), some (.int x17), some (.int x54)]) dX7_readPipe_81 (Nat.le_of_ble_eq_true rfl) rfl rfl ?_
          refine r_aload_n (x := 1) dX7_readPipe_82 rfl ?_
          refine r_bipush (v := 59) dX7_readPipe_83 rfl ?_
          obtain ⟨S58, h59, h⟩ := bV_e h
          refine r_cVV (y := mX7_readSign) (As := [.int 59]) (rest := []) dX7_readPipe_85 qX7_93 kX7_readSign rfl ob1 vc7 rfl (okX7_readSign N 59 S55 S58 h59) (by decide) (Nat.zero_le _) rfl (Nat.le_of_ble_eq_true rfl) ?_
          refine r_aload_n (x := 1) dX7_readPipe_88 rfl ?_
          refine r_getfield (o := 1) (v := .int (S58.1 1 3)) dX7_readPipe_89 lX7_32 ck1 nC1 rfl ?_
          refine r_if_ne (tgt := 121) dX7_readPipe_92 (by decide) (fun c60 => ?_) (fun c60 => ?_)
          · rw [if_neg c60] at h
            cases h
            exact r_return dX7_readPipe_121 rfl (Nat.zero_le _) ⟨rfl, rfl⟩
          · rw [if_pos c60] at h
            refine r_aload_n (x := 1) dX7_readPipe_95 rfl ?_
            refine r_getfield (o := 1) (v := .ref (S58.2.2 1 1)) dX7_readPipe_96 lX7_21 ck1 nC1 rfl ?_
            refine r_topr (fun o61 ho61 => ?_)
            replace h := lt_e ho61 h
            obtain ⟨g62, h⟩ := gd_e h
            refine r_getfield (o := o61) (v := .ref (sr o61 1)) dX7_readPipe_99 lX7_112 g62.1 g62.2 rfl ?_
            obtain ⟨g63, h⟩ := gd_e h
            refine r_getfield (o := (sr o61 1)) (v := .ref (sr (sr o61 1) 2)) dX7_readPipe_102 lX7_116 g63.1 g63.2 rfl ?_
            refine r_iload_n (x := x4) dX7_readPipe_105 rfl ?_
            refine r_iload_n (x := x17) dX7_readPipe_106 rfl ?_
            obtain ⟨g64, h⟩ := gd_e h
            obtain ⟨g65, h⟩ := gd_e h
            refine r_iastore (a := (sr (sr o61 1) 2)) dX7_readPipe_107 g64.1 g64.2 (inr_IX g65) ?_
            refine r_topS (fun S66 hS66 => ?_)
            replace h := lt_e hS66 h
            refine r_aload_n (x := 1) dX7_readPipe_108 rfl ?_
            refine r_getfield (o := 1) (v := .ref (S66.2.2 1 1)) dX7_readPipe_109 lX7_21 ck1 nC1 rfl ?_
            refine r_topr (fun o67 ho67 => ?_)
            replace h := lt_e ho67 h
            obtain ⟨g68, h⟩ := gd_e h
            refine r_getfield (o := o67) (v := .ref (sr o67 1)) dX7_readPipe_112 lX7_112 g68.1 g68.2 rfl ?_
            obtain ⟨g69, h⟩ := gd_e h
            refine r_getfield (o := (sr o67 1)) (v := .ref (sr (sr o67 1) 3)) dX7_readPipe_115 lX7_125 g69.1 g69.2 rfl ?_
            refine r_iload_n (x := x4) dX7_readPipe_118 rfl ?_
            refine r_iload_n (x := x54) dX7_readPipe_119 rfl ?_
            obtain ⟨g70, h⟩ := gd_e h
            obtain ⟨g71, h⟩ := gd_e h
            refine r_iastore (a := (sr (sr o67 1) 3)) dX7_readPipe_120 g70.1 g70.2 (inr_IX g71) ?_
            refine r_topS (fun S72 hS72 => ?_)
            replace h := lt_e hS72 h
            cases h
            exact r_return dX7_readPipe_121 rfl (Nat.zero_le _) ⟨rfl, rfl⟩
    · rw [if_neg c13] at h
      refine r_aload_n (x := 1) dX7_readPipe_34 rfl ?_
      refine r_iconst (v := 4) dX7_readPipe_35 rfl ?_
      obtain ⟨x73, S74, h75, h⟩ := bI_e h
      refine r_cVI (y := mX7_fail) (As := [.int 4]) (rest := []) dX7_readPipe_36 qX7_72 kX7_fail rfl ob1 vc7 rfl (okX7_fail N 4 S5 x73 S74 h75) (by decide) (Nat.zero_le _) rfl (Nat.le_of_ble_eq_true rfl) ?_
      refine r_pop_int dX7_readPipe_39 ?_
      cases h
      exact r_return dX7_readPipe_40 rfl (Nat.zero_le _) ⟨rfl, rfl⟩
  · rw [if_pos c7] at h
    cases h
    exact r_return dX7_readPipe_17 rfl (Nat.zero_le _) ⟨rfl, rfl⟩
def fX9_fits_2 (N : Nat) (v2 : Nat) : Nat → Int32 → PS → Option (Nat × Int32 × PS)
  | 0, _, _ => none
  | n + 1, v3, S =>
    (if 40 ≤ v3 then
      some (0, v3, S)
    else
      bV (fX3_passHour N 0 S) fun S3 =>
      gd (inr v3 40) <|
      lt ((u2 S3.1 32 (ix v3) (S3.1 5 5), S3.2) : PS) fun S6 =>
      gd (obj v2 5) <|
      bI (fX5_agrees N v2 (v3 + 1) (S6.1 5 5) S6) fun x7 S8 =>
      (if x7 = 0 then
        some (1, v3, S8)
      else
        lt (v3 + 1 : Int32) fun x12 =>
        fX9_fits_2 N v2 n x12 S8))
set_option maxHeartbeats 4000000 in
set_option maxRecDepth 100000 in
theorem okX9_fits_2 (N : Nat) (v2 : Nat) (Q : OQ) (u : Nat) (hu : u ≤ 0) : ∀ (n : Nat) (v3 : Int32) (S : PS) (tg : Nat) (y3 : Int32) (T : PS), fX9_fits_2 N v2 n v3 S = some (tg, y3, T) → (tg = 0 → WP [] mX9_fits 4 0 Q 45 [some (.ref 7), some (.ref 5), some (.ref v2), some (.int y3)] [] T u) → (tg = 1 → WP [] mX9_fits 4 0 Q 37 [some (.ref 7), some (.ref 5), some (.ref v2), some (.int y3)] [] T u) → WP [] mX9_fits 4 0 Q 2 [some (.ref 7), some (.ref 5), some (.ref v2), some (.int v3)] [] S u := by
  intro n
  induction n with
  | zero => intro v3 S tg y3 T h; rw [fX9_fits_2] at h; cases h
  | succ n ih =>
    intro v3 S tg y3 T h k0 k1
    rw [fX9_fits_2] at h
    refine r_iload_n (x := v3) dX9_fits_2 rfl ?_
    refine r_bipush (v := 40) dX9_fits_3 rfl ?_
    refine r_icmp_ge (tgt := 45) dX9_fits_5 (by decide) (fun c1 => ?_) (fun c1 => ?_)
    · rw [if_pos c1] at h
      cases h
      exact k0 rfl
    · rw [if_neg c1] at h
      refine r_aload_n (x := 5) dX9_fits_8 rfl ?_
      refine r_iconst (v := 0) dX9_fits_9 rfl ?_
      obtain ⟨S3, h4, h⟩ := bV_e h
      refine r_cVV (y := mX3_passHour) (As := [.int 0]) (rest := []) dX9_fits_10 qX9_77 kX3_passHour rfl ob5 vc3 rfl (okX3_passHour N 0 S S3 h4) (by decide) hu rfl (Nat.le_of_ble_eq_true rfl) ?_
      refine r_aload_n (x := 7) dX9_fits_13 rfl ?_
      refine r_getfield (o := 7) (v := .ref 32) dX9_fits_14 lX9_9 ck7 nC7 rfl ?_
      refine r_iload_n (x := v3) dX9_fits_17 rfl ?_
      refine r_aload_n (x := 5) dX9_fits_18 rfl ?_
      refine r_getfield (o := 5) (v := .int (S3.1 5 5)) dX9_fits_19 lX9_81 ck5 nC5 rfl ?_
      obtain ⟨g5, h⟩ := gd_e h
      refine r_iastore (a := 32) dX9_fits_22 ck32 nC32 (inr_IX g5) ?_
      refine r_topS (fun S6 hS6 => ?_)
      replace h := lt_e hS6 h
      refine r_aload_n (x := v2) dX9_fits_23 rfl ?_
      refine r_iload_n (x := v3) dX9_fits_24 rfl ?_
      refine r_iconst (v := 1) dX9_fits_25 rfl ?_
      refine r_iadd dX9_fits_26 ?_
      refine r_aload_n (x := 5) dX9_fits_27 rfl ?_
      refine r_getfield (o := 5) (v := .int (S6.1 5 5)) dX9_fits_28 lX9_81 ck5 nC5 rfl ?_
      obtain ⟨g10, h⟩ := gd_e h
      obtain ⟨x7, S8, h9, h⟩ := bI_e h
      refine r_cVI (y := mX5_agrees) (As := [.int (v3 + 1), .int (S6.1 5 5)]) (rest := []) dX9_fits_31 qX9_83 kX5_agrees rfl g10 vc5 rfl (okX5_agrees N v2 (v3 + 1) (S6.1 5 5) S6 x7 S8 h9) (by decide) hu rfl (Nat.le_of_ble_eq_true rfl) ?_
      refine r_if_ne (tgt := 39) dX9_fits_34 (by decide) (fun c11 => ?_) (fun c11 => ?_)
      · rw [if_neg c11] at h
        obtain ⟨x12, hx12⟩ : ∃ y : Int32, y = (v3 + 1 : Int32) := ⟨_, rfl⟩
        replace h := lt_e hx12 h
        refine r_iinc (x := v3) (v := x12) (L' := [some (.ref 7), some (.ref 5), some (.ref v2), some (.int x12)]) dX9_fits_39 rfl (by rw [hx12]; rfl) (Nat.le_of_ble_eq_true rfl) rfl rfl ?_
        refine r_goto (tgt := 2) dX9_fits_42 (by decide) ?_
        exact ih _ _ _ _ _ h k0 k1
      · rw [if_pos c11] at h
        cases h
        exact k1 rfl
def fX9_fits (N : Nat) (p1 : Nat) (S : PS) : Option (Int32 × PS) :=
  bT (fX9_fits_2 N p1 N 0 S) fun q13 =>
  lt (q13.1 : Nat) fun t16 =>
  lt (q13.2.1 : Int32) fun x14 =>
  lt (q13.2.2 : PS) fun S15 =>
  (if t16 = 0 then
    some (1, S15)
  else 
    some (0, S15))
set_option maxHeartbeats 4000000 in
set_option maxRecDepth 100000 in
theorem okX9_fits (N : Nat) (p1 : Nat) (S : PS) (r : Int32) (T : PS) (h : fX9_fits N p1 S = some (r, T)) : CT mX9_fits 4 0 [.ref 7, .ref 5, .ref p1] S (qI r T) := by
  refine ct_of [some (.ref 7), some (.ref 5), some (.ref p1), none] rfl (fun _ => rfl) (fun _ => Nat.le_of_ble_eq_true rfl) ?_
  unfold fX9_fits at h
  refine r_iconst (v := 0) dX9_fits_0 rfl ?_
  refine r_istore_n (L' := [some (.ref 7), some (.ref 5), some (.ref p1), some (.int 0)]) dX9_fits_1 (Nat.le_of_ble_eq_true rfl) rfl rfl ?_
  obtain ⟨⟨t16, x14, S15⟩, h17, h⟩ := bT_e h
  dsimp only at h
  replace h := pl_s (pl_s (pl_s (h)))
  refine okX9_fits_2 N p1 (qI r T) 0 (Nat.zero_le _) _ _ _ _ _ _ h17 (fun et16 => ?_) (fun et16 => ?_)
  · rw [if_pos et16] at h
    refine r_iconst (v := 1) dX9_fits_45 rfl ?_
    cases h
    exact r_zreturn dX9_fits_46 rfl rfl (Nat.zero_le _) ⟨rfl, rfl⟩
  · rw [if_neg (by rw [et16]; decide)] at h
    refine r_iconst (v := 0) dX9_fits_37 rfl ?_
    cases h
    exact r_zreturn dX9_fits_38 rfl rfl (Nat.zero_le _) ⟨rfl, rfl⟩
def fX3_goOn_2 (N : Nat) (v1 : Int32) : Nat → Int32 → PS → Option (Int32 × PS)
  | 0, _, _ => none
  | n + 1, v2, S =>
    (if v1 ≤ v2 then
      some (v2, S)
    else
      bV (fX3_passHour N 0 S) fun S3 =>
      lt (v2 + 1 : Int32) fun x5 =>
      fX3_goOn_2 N v1 n x5 S3)
set_option maxHeartbeats 4000000 in
set_option maxRecDepth 100000 in
theorem okX3_goOn_2 (N : Nat) (v1 : Int32) (Q : OQ) (u : Nat) (hu : u ≤ 0) : ∀ (n : Nat) (v2 : Int32) (S : PS) (y2 : Int32) (T : PS), fX3_goOn_2 N v1 n v2 S = some (y2, T) → WP [] mX3_goOn 4 0 Q 18 [some (.ref 5), some (.int v1), some (.int y2)] [] T u → WP [] mX3_goOn 4 0 Q 2 [some (.ref 5), some (.int v1), some (.int v2)] [] S u := by
  intro n
  induction n with
  | zero => intro v2 S y2 T h; rw [fX3_goOn_2] at h; cases h
  | succ n ih =>
    intro v2 S y2 T h k0
    rw [fX3_goOn_2] at h
    refine r_iload_n (x := v2) dX3_goOn_2 rfl ?_
    refine r_iload_n (x := v1) dX3_goOn_3 rfl ?_
    refine r_icmp_ge (tgt := 18) dX3_goOn_4 (by decide) (fun c1 => ?_) (fun c1 => ?_)
    · rw [if_pos c1] at h
      cases h
      exact k0
    · rw [if_neg c1] at h
      refine r_aload_n (x := 5) dX3_goOn_7 rfl ?_
      refine r_iconst (v := 0) dX3_goOn_8 rfl ?_
      obtain ⟨S3, h4, h⟩ := bV_e h
      refine r_cVV (y := mX3_passHour) (As := [.int 0]) (rest := []) dX3_goOn_9 qX3_55 kX3_passHour rfl ob5 vc3 rfl (okX3_passHour N 0 S S3 h4) (by decide) hu rfl (Nat.le_of_ble_eq_true rfl) ?_
      obtain ⟨x5, hx5⟩ : ∃ y : Int32, y = (v2 + 1 : Int32) := ⟨_, rfl⟩
      replace h := lt_e hx5 h
      refine r_iinc (x := v2) (v := x5) (L' := [some (.ref 5), some (.int v1), some (.int x5)]) dX3_goOn_12 rfl (by rw [hx5]; rfl) (Nat.le_of_ble_eq_true rfl) rfl rfl ?_
      refine r_goto (tgt := 2) dX3_goOn_15 (by decide) ?_
      exact ih _ _ _ _ h k0
def fX3_goOn (N : Nat) (p0 : Int32) (S : PS) : Option PS :=
  bT (fX3_goOn_2 N p0 N 0 S) fun q6 =>
  lt (q6.1 : Int32) fun x7 =>
  lt (q6.2 : PS) fun S8 =>
  some S8
set_option maxHeartbeats 4000000 in
set_option maxRecDepth 100000 in
theorem okX3_goOn (N : Nat) (p0 : Int32) (S : PS) (T : PS) (h : fX3_goOn N p0 S = some T) : CT mX3_goOn 4 0 [.ref 5, .int p0] S (qV T) := by
  refine ct_of [some (.ref 5), some (.int p0), none] rfl (fun _ => rfl) (fun _ => Nat.le_of_ble_eq_true rfl) ?_
  unfold fX3_goOn at h
  refine r_iconst (v := 0) dX3_goOn_0 rfl ?_
  refine r_istore_n (L' := [some (.ref 5), some (.int p0), some (.int 0)]) dX3_goOn_1 (Nat.le_of_ble_eq_true rfl) rfl rfl ?_
  obtain ⟨⟨x7, S8⟩, h10, h⟩ := bT_e h
  dsimp only at h
  replace h := pl_s (pl_s (h))
  refine okX3_goOn_2 N p0 (qV T) 0 (Nat.zero_le _) _ _ _ _ _ h10 ?_
  cases h
  exact r_return dX3_goOn_18 rfl (Nat.zero_le _) ⟨rfl, rfl⟩
def fX9_fitsAsItIs (N : Nat) (p1 : Nat) (S : PS) : Option (Int32 × PS) :=
  gd (obj p1 6) <|
  bV (fX3_workOnCopy N (sr p1 0) S) fun S3 =>
  gd (obj p1 6) <|
  bI (fX9_fits N (sr p1 2) S3) fun x6 S7 =>
  gd (b01 x6) <|
  some (x6, S7)
set_option maxHeartbeats 4000000 in
set_option maxRecDepth 100000 in
theorem okX9_fitsAsItIs (N : Nat) (p1 : Nat) (S : PS) (r : Int32) (T : PS) (h : fX9_fitsAsItIs N p1 S = some (r, T)) : CT mX9_fitsAsItIs 5 0 [.ref 7, .ref 5, .ref p1] S (qI r T) := by
  refine ct_of [some (.ref 7), some (.ref 5), some (.ref p1)] rfl (fun _ => rfl) (fun _ => Nat.le_of_ble_eq_true rfl) ?_
  unfold fX9_fitsAsItIs at h
  refine r_aload_n (x := 5) dX9_fitsAsItIs_0 rfl ?_
  refine r_aload_n (x := p1) dX9_fitsAsItIs_1 rfl ?_
  obtain ⟨g1, h⟩ := gd_e h
  refine r_getfield (o := p1) (v := .ref (sr p1 0)) dX9_fitsAsItIs_2 lX9_26 g1.1 g1.2 rfl ?_
  obtain ⟨S3, h4, h⟩ := bV_e h
  refine r_cVV (y := mX3_workOnCopy) (As := [.ref (sr p1 0)]) (rest := []) dX9_fitsAsItIs_5 qX9_32 kX3_workOnCopy rfl ob5 vc3 rfl (okX3_workOnCopy N (sr p1 0) S S3 h4) (by decide) (Nat.zero_le _) rfl (Nat.le_of_ble_eq_true rfl) ?_
  refine r_aload_n (x := 7) dX9_fitsAsItIs_8 rfl ?_
  refine r_aload_n (x := 5) dX9_fitsAsItIs_9 rfl ?_
  refine r_aload_n (x := p1) dX9_fitsAsItIs_10 rfl ?_
  obtain ⟨g5, h⟩ := gd_e h
  refine r_getfield (o := p1) (v := .ref (sr p1 2)) dX9_fitsAsItIs_11 lX9_38 g5.1 g5.2 rfl ?_
  obtain ⟨x6, S7, h8, h⟩ := bI_e h
  refine r_cVI (y := mX9_fits) (As := [.ref 5, .ref (sr p1 2)]) (rest := []) dX9_fitsAsItIs_14 qX9_42 kX9_fits rfl ob7 vc9 rfl (okX9_fits N (sr p1 2) S3 x6 S7 h8) (by decide) (Nat.zero_le _) rfl (Nat.le_of_ble_eq_true rfl) ?_
  obtain ⟨g9, h⟩ := gd_e h
  cases h
  exact r_zreturn dX9_fitsAsItIs_17 rfl (nar01 g9) (Nat.zero_le _) ⟨rfl, rfl⟩
def fX9_search_41 (N : Nat) (v2 : Nat) (v3 : Int32) (v4 : Int32) : Nat → Int32 → PS → Option (Int32 × PS)
  | 0, _, _ => none
  | n + 1, v5, S =>
    (if v3 < v5 then
      some (v5, S)
    else
      lt ((if v3 ≤ v5 then (-1) else v5) : Int32) fun x13 =>
      gd (obj v2 6) <|
      bV (fX3_workOnCopy N (sr v2 0) S) fun S16 =>
      lt ((S16.2.2 5 4) : Nat) fun o18 =>
      gd (obj o18 2) <|
      bV (fX2_setInto N o18 v4 x13 S16) fun S20 =>
      gd (obj v2 6) <|
      gd (obj (sr v2 0) 2) <|
      bI (fX2_leadsJust N (sr v2 0) v4 x13 S20) fun x24 S25 =>
      (if x24 = 0 then
        gd (obj v2 6) <|
        bI (fX9_fits N (sr v2 2) S25) fun x31 S32 =>
        (if x31 = 0 then
          lt (v5 + 1 : Int32) fun x35 =>
          fX9_search_41 N v2 v3 v4 n x35 S32
        else
          bV (fX9_keepFound N v4 x13 S32) fun S37 =>
          lt (v5 + 1 : Int32) fun x39 =>
          fX9_search_41 N v2 v3 v4 n x39 S37)
      else
        lt (v5 + 1 : Int32) fun x29 =>
        fX9_search_41 N v2 v3 v4 n x29 S25))
set_option maxHeartbeats 4000000 in
set_option maxRecDepth 100000 in
theorem okX9_search_41 (N : Nat) (v2 : Nat) (v3 : Int32) (v4 : Int32) (Q : OQ) (u : Nat) (hu : u ≤ 0) : ∀ (n : Nat) (v5 : Int32) (S : PS) (y5 : Int32) (T : PS), fX9_search_41 N v2 v3 v4 n v5 S = some (y5, T) → WP [] mX9_search 5 0 Q 120 [some (.ref 7), some (.ref 5), some (.ref v2), some (.int v3), some (.int v4), some (.int y5), none] [] T u → WP [] mX9_search 5 0 Q 41 [some (.ref 7), some (.ref 5), some (.ref v2), some (.int v3), some (.int v4), some (.int v5), none] [] S u := by
  intro n
  induction n with
  | zero => intro v5 S y5 T h; rw [fX9_search_41] at h; cases h
  | succ n ih =>
    intro v5 S y5 T h k0
    rw [fX9_search_41] at h
    refine r_iload (x := v5) dX9_search_41 rfl ?_
    refine r_iload_n (x := v3) dX9_search_43 rfl ?_
    refine r_icmp_gt (tgt := 120) dX9_search_44 (by decide) (fun c11 => ?_) (fun c11 => ?_)
    · rw [if_pos c11] at h
      cases h
      exact k0
    · rw [if_neg c11] at h
      refine r_iload (x := v5) dX9_search_47 rfl ?_
      refine r_iload_n (x := v3) dX9_search_49 rfl ?_
      obtain ⟨x13, hx13⟩ : ∃ y : Int32, y = ((if v3 ≤ v5 then (-1) else v5) : Int32) := ⟨_, rfl⟩
      replace h := lt_e hx13 h
      have keyx13 : WP [] mX9_search 5 0 Q 59 [some (.ref 7), some (.ref 5), some (.ref v2), some (.int v3), some (.int v4), some (.int v5), none] (.int x13 :: []) S u := by
        refine r_istore (L' := [some (.ref 7), some (.ref 5), some (.ref v2), some (.int v3), some (.int v4), some (.int v5), some (.int x13)]) dX9_search_59 (Nat.le_of_ble_eq_true rfl) rfl rfl ?_
        refine r_aload_n (x := 5) dX9_search_61 rfl ?_
        refine r_aload_n (x := v2) dX9_search_62 rfl ?_
        obtain ⟨g14, h⟩ := gd_e h
        refine r_getfield (o := v2) (v := .ref (sr v2 0)) dX9_search_63 lX9_26 g14.1 g14.2 rfl ?_
        obtain ⟨S16, h17, h⟩ := bV_e h
        refine r_cVV (y := mX3_workOnCopy) (As := [.ref (sr v2 0)]) (rest := []) dX9_search_66 qX9_32 kX3_workOnCopy rfl ob5 vc3 rfl (okX3_workOnCopy N (sr v2 0) S S16 h17) (by decide) hu rfl (Nat.le_of_ble_eq_true rfl) ?_
        refine r_aload_n (x := 5) dX9_search_69 rfl ?_
        refine r_getfield (o := 5) (v := .ref (S16.2.2 5 4)) dX9_search_70 lX9_60 ck5 nC5 rfl ?_
        refine r_topr (fun o18 ho18 => ?_)
        replace h := lt_e ho18 h
        refine r_iload (x := v4) dX9_search_73 rfl ?_
        refine r_iload (x := x13) dX9_search_75 rfl ?_
        obtain ⟨g22, h⟩ := gd_e h
        obtain ⟨S20, h21, h⟩ := bV_e h
        refine r_cVV (y := mX2_setInto) (As := [.int v4, .int x13]) (rest := []) dX9_search_77 qX9_61 kX2_setInto rfl g22 vc2 rfl (okX2_setInto N o18 v4 x13 S16 S20 h21) (by decide) hu rfl (Nat.le_of_ble_eq_true rfl) ?_
        refine r_aload_n (x := v2) dX9_search_80 rfl ?_
        obtain ⟨g23, h⟩ := gd_e h
        refine r_getfield (o := v2) (v := .ref (sr v2 0)) dX9_search_81 lX9_26 g23.1 g23.2 rfl ?_
        refine r_iload (x := v4) dX9_search_84 rfl ?_
        refine r_iload (x := x13) dX9_search_86 rfl ?_
        obtain ⟨g27, h⟩ := gd_e h
        obtain ⟨x24, S25, h26, h⟩ := bI_e h
        refine r_cVI (y := mX2_leadsJust) (As := [.int v4, .int x13]) (rest := []) dX9_search_88 qX9_67 kX2_leadsJust rfl g27 vc2 rfl (okX2_leadsJust N (sr v2 0) v4 x13 S20 x24 S25 h26) (by decide) hu rfl (Nat.le_of_ble_eq_true rfl) ?_
        refine r_if_ne (tgt := 114) dX9_search_91 (by decide) (fun c28 => ?_) (fun c28 => ?_)
        · rw [if_neg c28] at h
          obtain ⟨x29, hx29⟩ : ∃ y : Int32, y = (v5 + 1 : Int32) := ⟨_, rfl⟩
          replace h := lt_e hx29 h
          refine r_iinc (x := v5) (v := x29) (L' := [some (.ref 7), some (.ref 5), some (.ref v2), some (.int v3), some (.int v4), some (.int x29), some (.int x13)]) dX9_search_114 rfl (by rw [hx29]; rfl) (Nat.le_of_ble_eq_true rfl) rfl rfl ?_
          refine r_goto (tgt := 41) dX9_search_117 (by decide) ?_
          refine r_drop [true, true, true, true, true, true, false] rfl ?_
          exact ih _ _ _ _ h k0
        · rw [if_pos c28] at h
          refine r_aload_n (x := 7) dX9_search_94 rfl ?_
          refine r_aload_n (x := 5) dX9_search_95 rfl ?_
          refine r_aload_n (x := v2) dX9_search_96 rfl ?_
          obtain ⟨g30, h⟩ := gd_e h
          refine r_getfield (o := v2) (v := .ref (sr v2 2)) dX9_search_97 lX9_38 g30.1 g30.2 rfl ?_
          obtain ⟨x31, S32, h33, h⟩ := bI_e h
          refine r_cVI (y := mX9_fits) (As := [.ref 5, .ref (sr v2 2)]) (rest := []) dX9_search_100 qX9_42 kX9_fits rfl ob7 vc9 rfl (okX9_fits N (sr v2 2) S25 x31 S32 h33) (by decide) hu rfl (Nat.le_of_ble_eq_true rfl) ?_
          refine r_if_eq (tgt := 114) dX9_search_103 (by decide) (fun c34 => ?_) (fun c34 => ?_)
          · rw [if_pos c34] at h
            obtain ⟨x35, hx35⟩ : ∃ y : Int32, y = (v5 + 1 : Int32) := ⟨_, rfl⟩
            replace h := lt_e hx35 h
            refine r_iinc (x := v5) (v := x35) (L' := [some (.ref 7), some (.ref 5), some (.ref v2), some (.int v3), some (.int v4), some (.int x35), some (.int x13)]) dX9_search_114 rfl (by rw [hx35]; rfl) (Nat.le_of_ble_eq_true rfl) rfl rfl ?_
            refine r_goto (tgt := 41) dX9_search_117 (by decide) ?_
            refine r_drop [true, true, true, true, true, true, false] rfl ?_
            exact ih _ _ _ _ h k0
          · rw [if_neg c34] at h
            refine r_aload_n (x := 7) dX9_search_106 rfl ?_
            refine r_iload (x := v4) dX9_search_107 rfl ?_
            refine r_iload (x := x13) dX9_search_109 rfl ?_
            obtain ⟨S37, h38, h⟩ := bV_e h
            refine r_cVV (y := mX9_keepFound) (As := [.int v4, .int x13]) (rest := []) dX9_search_111 qX9_71 kX9_keepFound rfl ob7 vc9 rfl (okX9_keepFound N v4 x13 S32 S37 h38) (by decide) hu rfl (Nat.le_of_ble_eq_true rfl) ?_
            obtain ⟨x39, hx39⟩ : ∃ y : Int32, y = (v5 + 1 : Int32) := ⟨_, rfl⟩
            replace h := lt_e hx39 h
            refine r_iinc (x := v5) (v := x39) (L' := [some (.ref 7), some (.ref 5), some (.ref v2), some (.int v3), some (.int v4), some (.int x39), some (.int x13)]) dX9_search_114 rfl (by rw [hx39]; rfl) (Nat.le_of_ble_eq_true rfl) rfl rfl ?_
            refine r_goto (tgt := 41) dX9_search_117 (by decide) ?_
            refine r_drop [true, true, true, true, true, true, false] rfl ?_
            exact ih _ _ _ _ h k0
      refine r_icmp_ge (tgt := 58) dX9_search_50 (by decide) (fun c12 => ?_) (fun c12 => ?_)
      · refine r_iconst (v := (-1)) dX9_search_58 rfl ?_
        exact r_tope (by rw [hx13, if_pos c12]) keyx13
      · refine r_iload (x := v5) dX9_search_53 rfl ?_
        refine r_goto (tgt := 59) dX9_search_55 (by decide) ?_
        exact r_tope (by rw [hx13, if_neg c12]) keyx13
def fX9_search_29 (N : Nat) (v2 : Nat) (v3 : Int32) : Nat → Int32 → PS → Option (Int32 × PS)
  | 0, _, _ => none
  | n + 1, v4, S =>
    (if v3 ≤ v4 then
      some (v4, S)
    else
      lt ((v4 + 1) : Int32) fun x10 =>
      bT (fX9_search_41 N v2 v3 v4 N x10 S) fun q40 =>
      lt (q40.1 : Int32) fun x41 =>
      lt (q40.2 : PS) fun S42 =>
      lt (v4 + 1 : Int32) fun x45 =>
      fX9_search_29 N v2 v3 n x45 S42)
set_option maxHeartbeats 4000000 in
set_option maxRecDepth 100000 in
theorem okX9_search_29 (N : Nat) (v2 : Nat) (v3 : Int32) (Q : OQ) (u : Nat) (hu : u ≤ 0) : ∀ (n : Nat) (v4 : Int32) (S : PS) (y4 : Int32) (T : PS), fX9_search_29 N v2 v3 n v4 S = some (y4, T) → WP [] mX9_search 5 0 Q 126 [some (.ref 7), some (.ref 5), some (.ref v2), some (.int v3), some (.int y4), none, none] [] T u → WP [] mX9_search 5 0 Q 29 [some (.ref 7), some (.ref 5), some (.ref v2), some (.int v3), some (.int v4), none, none] [] S u := by
  intro n
  induction n with
  | zero => intro v4 S y4 T h; rw [fX9_search_29] at h; cases h
  | succ n ih =>
    intro v4 S y4 T h k0
    rw [fX9_search_29] at h
    refine r_iload (x := v4) dX9_search_29 rfl ?_
    refine r_iload_n (x := v3) dX9_search_31 rfl ?_
    refine r_icmp_ge (tgt := 126) dX9_search_32 (by decide) (fun c9 => ?_) (fun c9 => ?_)
    · rw [if_pos c9] at h
      cases h
      exact k0
    · rw [if_neg c9] at h
      refine r_iload (x := v4) dX9_search_35 rfl ?_
      refine r_iconst (v := 1) dX9_search_37 rfl ?_
      refine r_iadd dX9_search_38 ?_
      refine r_topi (fun x10 hx10 => ?_)
      replace h := lt_e hx10 h
      refine r_istore (L' := [some (.ref 7), some (.ref 5), some (.ref v2), some (.int v3), some (.int v4), some (.int x10), none]) dX9_search_39 (Nat.le_of_ble_eq_true rfl) rfl rfl ?_
      obtain ⟨⟨x41, S42⟩, h44, h⟩ := bT_e h
      dsimp only at h
      replace h := pl_s (pl_s (h))
      refine okX9_search_41 N v2 v3 v4 Q u hu _ _ _ _ _ h44 ?_
      obtain ⟨x45, hx45⟩ : ∃ y : Int32, y = (v4 + 1 : Int32) := ⟨_, rfl⟩
      replace h := lt_e hx45 h
      refine r_iinc (x := v4) (v := x45) (L' := [some (.ref 7), some (.ref 5), some (.ref v2), some (.int v3), some (.int x45), some (.int x41), none]) dX9_search_120 rfl (by rw [hx45]; rfl) (Nat.le_of_ble_eq_true rfl) rfl rfl ?_
      refine r_goto (tgt := 29) dX9_search_123 (by decide) ?_
      refine r_drop [true, true, true, true, true, false, true] rfl ?_
      exact ih _ _ _ _ h k0
def fX9_search (N : Nat) (p1 : Nat) (S : PS) : Option PS :=
  lt ((S.2.2 5 3) : Nat) fun o1 =>
  gd (obj o1 1) <|
  lt ((S.1 o1 4) : Int32) fun x3 =>
  lt ((u2 S.1 7 2 0, S.2) : PS) fun S4 =>
  lt ((u2 S4.1 7 3 (-1), S4.2) : PS) fun S5 =>
  bV (fJ7_fill_d0a16 N 33 0 S5) fun S7 =>
  bT (fX9_search_29 N p1 x3 N 0 S7) fun q46 =>
  lt (q46.1 : Int32) fun x47 =>
  lt (q46.2 : PS) fun S48 =>
  some S48
set_option maxHeartbeats 4000000 in
set_option maxRecDepth 100000 in
theorem okX9_search (N : Nat) (p1 : Nat) (S : PS) (T : PS) (h : fX9_search N p1 S = some T) : CT mX9_search 5 0 [.ref 7, .ref 5, .ref p1] S (qV T) := by
  refine ct_of [some (.ref 7), some (.ref 5), some (.ref p1), none, none, none, none] rfl (fun _ => rfl) (fun _ => Nat.le_of_ble_eq_true rfl) ?_
  unfold fX9_search at h
  refine r_aload_n (x := 5) dX9_search_0 rfl ?_
  refine r_getfield (o := 5) (v := .ref (S.2.2 5 3)) dX9_search_1 lX9_46 ck5 nC5 rfl ?_
  refine r_topr (fun o1 ho1 => ?_)
  replace h := lt_e ho1 h
  obtain ⟨g2, h⟩ := gd_e h
  refine r_getfield (o := o1) (v := .int (S.1 o1 4)) dX9_search_4 lX9_50 g2.1 g2.2 rfl ?_
  refine r_topi (fun x3 hx3 => ?_)
  replace h := lt_e hx3 h
  refine r_istore_n (L' := [some (.ref 7), some (.ref 5), some (.ref p1), some (.int x3), none, none, none]) dX9_search_7 (Nat.le_of_ble_eq_true rfl) rfl rfl ?_
  refine r_aload_n (x := 7) dX9_search_8 rfl ?_
  refine r_iconst (v := 0) dX9_search_9 rfl ?_
  refine r_putI dX9_search_10 lX9_19 ck7 nC7 ?_
  refine r_topS (fun S4 hS4 => ?_)
  replace h := lt_e hS4 h
  refine r_aload_n (x := 7) dX9_search_13 rfl ?_
  refine r_iconst (v := (-1)) dX9_search_14 rfl ?_
  refine r_putI dX9_search_15 lX9_23 ck7 nC7 ?_
  refine r_topS (fun S5 hS5 => ?_)
  replace h := lt_e hS5 h
  refine r_aload_n (x := 7) dX9_search_18 rfl ?_
  refine r_getfield (o := 7) (v := .ref 33) dX9_search_19 lX9_15 ck7 nC7 rfl ?_
  refine r_lconst (v := 0) dX9_search_22 rfl ?_
  obtain ⟨S7, h8, h⟩ := bV_e h
  refine r_cSV (y := mJ7_fill_d0a16) (As := [.ref 33, .long 0]) (rest := []) dX9_search_23 qX9_54 kJ7_fill_d0a16 rfl (okJ7_fill_d0a16 N 33 0 S5 S7 h8) (by decide) (Nat.zero_le _) rfl (Nat.le_of_ble_eq_true rfl) ?_
  refine r_iconst (v := 0) dX9_search_26 rfl ?_
  refine r_istore (L' := [some (.ref 7), some (.ref 5), some (.ref p1), some (.int x3), some (.int 0), none, none]) dX9_search_27 (Nat.le_of_ble_eq_true rfl) rfl rfl ?_
  obtain ⟨⟨x47, S48⟩, h50, h⟩ := bT_e h
  dsimp only at h
  replace h := pl_s (pl_s (h))
  refine okX9_search_29 N p1 x3 (qV T) 0 (Nat.zero_le _) _ _ _ _ _ h50 ?_
  cases h
  exact r_return dX9_search_126 rfl (Nat.zero_le _) ⟨rfl, rfl⟩
def fX11_hours (N : Nat) (p0 : Int32) (S : PS) : Option (Int32 × PS) :=
  (if p0 < 1 then
    bI (fX11_refuseAct N  S) fun x2 S3 =>
    some (x2, S3)
  else
    (if 20 < p0 then
      bI (fX11_refuseAct N  S) fun x6 S7 =>
      some (x6, S7)
    else
      (if ((S.1 18 6) + p0) ≤ 9999 then
        bV (fX0_keep N 8 18 S) fun S11 =>
        bV (fX3_workOn N 18 S11) fun S14 =>
        bV (fX3_goOn N p0 S14) fun S17 =>
        some ((S17.1 18 6), S17)
      else
        bI (fX11_refuseAct N  S) fun x19 S20 =>
        some (x19, S20))))
set_option maxHeartbeats 4000000 in
set_option maxRecDepth 100000 in
theorem okX11_hours (N : Nat) (p0 : Int32) (S : PS) (r : Int32) (T : PS) (h : fX11_hours N p0 S = some (r, T)) : CT mX11_hours 5 0 [.ref 0, .int p0] S (qI r T) := by
  refine ct_of [some (.ref 0), some (.int p0)] rfl (fun _ => rfl) (fun _ => Nat.le_of_ble_eq_true rfl) ?_
  unfold fX11_hours at h
  refine r_iload_n (x := p0) dX11_hours_0 rfl ?_
  refine r_iconst (v := 1) dX11_hours_1 rfl ?_
  refine r_icmp_lt (tgt := 29) dX11_hours_2 (by decide) (fun c1 => ?_) (fun c1 => ?_)
  · rw [if_pos c1] at h
    refine r_aload_n (x := 0) dX11_hours_29 rfl ?_
    obtain ⟨x2, S3, h4, h⟩ := bI_e h
    refine r_cVI (y := mX11_refuseAct) (As := []) (rest := []) dX11_hours_30 qX11_182 kX11_refuseAct rfl ob0 vc11 rfl (okX11_refuseAct N  S x2 S3 h4) (by decide) (Nat.zero_le _) rfl (Nat.le_of_ble_eq_true rfl) ?_
    cases h
    exact r_ireturn dX11_hours_33 rfl (Nat.zero_le _) ⟨rfl, rfl⟩
  · rw [if_neg c1] at h
    refine r_iload_n (x := p0) dX11_hours_5 rfl ?_
    refine r_bipush (v := 20) dX11_hours_6 rfl ?_
    refine r_icmp_gt (tgt := 29) dX11_hours_8 (by decide) (fun c5 => ?_) (fun c5 => ?_)
    · rw [if_pos c5] at h
      refine r_aload_n (x := 0) dX11_hours_29 rfl ?_
      obtain ⟨x6, S7, h8, h⟩ := bI_e h
      refine r_cVI (y := mX11_refuseAct) (As := []) (rest := []) dX11_hours_30 qX11_182 kX11_refuseAct rfl ob0 vc11 rfl (okX11_refuseAct N  S x6 S7 h8) (by decide) (Nat.zero_le _) rfl (Nat.le_of_ble_eq_true rfl) ?_
      cases h
      exact r_ireturn dX11_hours_33 rfl (Nat.zero_le _) ⟨rfl, rfl⟩
    · rw [if_neg c5] at h
      refine r_aload_n (x := 0) dX11_hours_11 rfl ?_
      refine r_getfield (o := 0) (v := .ref 3) dX11_hours_12 lX11_19 ck0 nC0 rfl ?_
      refine r_getfield (o := 3) (v := .ref 18) dX11_hours_15 lX11_116 ck3 nC3 rfl ?_
      refine r_getfield (o := 18) (v := .int (S.1 18 6)) dX11_hours_18 lX11_118 ck18 nC18 rfl ?_
      refine r_iload_n (x := p0) dX11_hours_21 rfl ?_
      refine r_iadd dX11_hours_22 ?_
      refine r_sipush (v := 9999) dX11_hours_23 rfl ?_
      refine r_icmp_le (tgt := 34) dX11_hours_26 (by decide) (fun c9 => ?_) (fun c9 => ?_)
      · rw [if_pos c9] at h
        refine r_aload_n (x := 0) dX11_hours_34 rfl ?_
        refine r_getfield (o := 0) (v := .ref 3) dX11_hours_35 lX11_19 ck0 nC0 rfl ?_
        refine r_getfield (o := 3) (v := .ref 8) dX11_hours_38 lX11_139 ck3 nC3 rfl ?_
        refine r_aload_n (x := 0) dX11_hours_41 rfl ?_
        refine r_getfield (o := 0) (v := .ref 3) dX11_hours_42 lX11_19 ck0 nC0 rfl ?_
        refine r_getfield (o := 3) (v := .ref 18) dX11_hours_45 lX11_116 ck3 nC3 rfl ?_
        obtain ⟨S11, h12, h⟩ := bV_e h
        refine r_cVV (y := mX0_keep) (As := [.ref 18]) (rest := []) dX11_hours_48 qX11_185 kX0_keep rfl ob8 vc0 rfl (okX0_keep N 8 18 S S11 h12) (by decide) (Nat.zero_le _) rfl (Nat.le_of_ble_eq_true rfl) ?_
        refine r_aload_n (x := 0) dX11_hours_51 rfl ?_
        refine r_getfield (o := 0) (v := .ref 5) dX11_hours_52 lX11_29 ck0 nC0 rfl ?_
        refine r_aload_n (x := 0) dX11_hours_55 rfl ?_
        refine r_getfield (o := 0) (v := .ref 3) dX11_hours_56 lX11_19 ck0 nC0 rfl ?_
        refine r_getfield (o := 3) (v := .ref 18) dX11_hours_59 lX11_116 ck3 nC3 rfl ?_
        obtain ⟨S14, h15, h⟩ := bV_e h
        refine r_cVV (y := mX3_workOn) (As := [.ref 18]) (rest := []) dX11_hours_62 qX11_188 kX3_workOn rfl ob5 vc3 rfl (okX3_workOn N 18 S11 S14 h15) (by decide) (Nat.zero_le _) rfl (Nat.le_of_ble_eq_true rfl) ?_
        refine r_aload_n (x := 0) dX11_hours_65 rfl ?_
        refine r_getfield (o := 0) (v := .ref 5) dX11_hours_66 lX11_29 ck0 nC0 rfl ?_
        refine r_iload_n (x := p0) dX11_hours_69 rfl ?_
        obtain ⟨S17, h18, h⟩ := bV_e h
        refine r_cVV (y := mX3_goOn) (As := [.int p0]) (rest := []) dX11_hours_70 qX11_191 kX3_goOn rfl ob5 vc3 rfl (okX3_goOn N p0 S14 S17 h18) (by decide) (Nat.zero_le _) rfl (Nat.le_of_ble_eq_true rfl) ?_
        refine r_aload_n (x := 0) dX11_hours_73 rfl ?_
        refine r_getfield (o := 0) (v := .ref 3) dX11_hours_74 lX11_19 ck0 nC0 rfl ?_
        refine r_getfield (o := 3) (v := .ref 18) dX11_hours_77 lX11_116 ck3 nC3 rfl ?_
        refine r_getfield (o := 18) (v := .int (S17.1 18 6)) dX11_hours_80 lX11_118 ck18 nC18 rfl ?_
        cases h
        exact r_ireturn dX11_hours_83 rfl (Nat.zero_le _) ⟨rfl, rfl⟩
      · rw [if_neg c9] at h
        refine r_aload_n (x := 0) dX11_hours_29 rfl ?_
        obtain ⟨x19, S20, h21, h⟩ := bI_e h
        refine r_cVI (y := mX11_refuseAct) (As := []) (rest := []) dX11_hours_30 qX11_182 kX11_refuseAct rfl ob0 vc11 rfl (okX11_refuseAct N  S x19 S20 h21) (by decide) (Nat.zero_le _) rfl (Nat.le_of_ble_eq_true rfl) ?_
        cases h
        exact r_ireturn dX11_hours_33 rfl (Nat.zero_le _) ⟨rfl, rfl⟩
def fX11_lookAhead (N : Nat) (p0 : Int32) (S : PS) : Option PS :=
  bV (fX3_workOnCopy N 18 S) fun S2 =>
  bV (fX3_goOn N p0 S2) fun S5 =>
  some S5
set_option maxHeartbeats 4000000 in
set_option maxRecDepth 100000 in
theorem okX11_lookAhead (N : Nat) (p0 : Int32) (S : PS) (T : PS) (h : fX11_lookAhead N p0 S = some T) : CT mX11_lookAhead 5 0 [.ref 0, .int p0] S (qV T) := by
  refine ct_of [some (.ref 0), some (.int p0)] rfl (fun _ => rfl) (fun _ => Nat.le_of_ble_eq_true rfl) ?_
  unfold fX11_lookAhead at h
  refine r_aload_n (x := 0) dX11_lookAhead_0 rfl ?_
  refine r_getfield (o := 0) (v := .ref 5) dX11_lookAhead_1 lX11_29 ck0 nC0 rfl ?_
  refine r_aload_n (x := 0) dX11_lookAhead_4 rfl ?_
  refine r_getfield (o := 0) (v := .ref 3) dX11_lookAhead_5 lX11_19 ck0 nC0 rfl ?_
  refine r_getfield (o := 3) (v := .ref 18) dX11_lookAhead_8 lX11_116 ck3 nC3 rfl ?_
  obtain ⟨S2, h3, h⟩ := bV_e h
  refine r_cVV (y := mX3_workOnCopy) (As := [.ref 18]) (rest := []) dX11_lookAhead_11 qX11_362 kX3_workOnCopy rfl ob5 vc3 rfl (okX3_workOnCopy N 18 S S2 h3) (by decide) (Nat.zero_le _) rfl (Nat.le_of_ble_eq_true rfl) ?_
  refine r_aload_n (x := 0) dX11_lookAhead_14 rfl ?_
  refine r_getfield (o := 0) (v := .ref 5) dX11_lookAhead_15 lX11_29 ck0 nC0 rfl ?_
  refine r_iload_n (x := p0) dX11_lookAhead_18 rfl ?_
  obtain ⟨S5, h6, h⟩ := bV_e h
  refine r_cVV (y := mX3_goOn) (As := [.int p0]) (rest := []) dX11_lookAhead_19 qX11_191 kX3_goOn rfl ob5 vc3 rfl (okX3_goOn N p0 S2 S5 h6) (by decide) (Nat.zero_le _) rfl (Nat.le_of_ble_eq_true rfl) ?_
  cases h
  exact r_return dX11_lookAhead_22 rfl (Nat.zero_le _) ⟨rfl, rfl⟩
def fX11_firstHourOfAll_7 (N : Nat) (v1 : Int32) : Nat → Int32 → PS → Option (Nat × Int32 × PS)
  | 0, _, _ => none
  | n + 1, v2, S =>
    (if 200 < v2 then
      some (0, v2, S)
    else
      bV (fX3_goOn N 1 S) fun S6 =>
      (if ((S6.1 5 5) &&& v1) = v1 then
        some (1, v2, S6)
      else
        lt (v2 + 1 : Int32) fun x9 =>
        fX11_firstHourOfAll_7 N v1 n x9 S6))
set_option maxHeartbeats 4000000 in
set_option maxRecDepth 100000 in
theorem okX11_firstHourOfAll_7 (N : Nat) (v1 : Int32) (Q : OQ) (u : Nat) (hu : u ≤ 0) : ∀ (n : Nat) (v2 : Int32) (S : PS) (tg : Nat) (y2 : Int32) (T : PS), fX11_firstHourOfAll_7 N v1 n v2 S = some (tg, y2, T) → (tg = 0 → WP [] mX11_firstHourOfAll 6 0 Q 43 [some (.ref 0), some (.int v1), some (.int y2)] [] T u) → (tg = 1 → WP [] mX11_firstHourOfAll 6 0 Q 35 [some (.ref 0), some (.int v1), some (.int y2)] [] T u) → WP [] mX11_firstHourOfAll 6 0 Q 7 [some (.ref 0), some (.int v1), some (.int v2)] [] S u := by
  intro n
  induction n with
  | zero => intro v2 S tg y2 T h; rw [fX11_firstHourOfAll_7] at h; cases h
  | succ n ih =>
    intro v2 S tg y2 T h k0 k1
    rw [fX11_firstHourOfAll_7] at h
    refine r_iload_n (x := v2) dX11_firstHourOfAll_7 rfl ?_
    refine r_sipush (v := 200) dX11_firstHourOfAll_8 rfl ?_
    refine r_icmp_gt (tgt := 43) dX11_firstHourOfAll_11 (by decide) (fun c4 => ?_) (fun c4 => ?_)
    · rw [if_pos c4] at h
      cases h
      exact k0 rfl
    · rw [if_neg c4] at h
      refine r_aload_n (x := 0) dX11_firstHourOfAll_14 rfl ?_
      refine r_getfield (o := 0) (v := .ref 5) dX11_firstHourOfAll_15 lX11_29 ck0 nC0 rfl ?_
      refine r_iconst (v := 1) dX11_firstHourOfAll_18 rfl ?_
      obtain ⟨S6, h7, h⟩ := bV_e h
      refine r_cVV (y := mX3_goOn) (As := [.int 1]) (rest := []) dX11_firstHourOfAll_19 qX11_191 kX3_goOn rfl ob5 vc3 rfl (okX3_goOn N 1 S S6 h7) (by decide) hu rfl (Nat.le_of_ble_eq_true rfl) ?_
      refine r_aload_n (x := 0) dX11_firstHourOfAll_22 rfl ?_
      refine r_getfield (o := 0) (v := .ref 5) dX11_firstHourOfAll_23 lX11_29 ck0 nC0 rfl ?_
      refine r_getfield (o := 5) (v := .int (S6.1 5 5)) dX11_firstHourOfAll_26 lX11_221 ck5 nC5 rfl ?_
      refine r_iload_n (x := v1) dX11_firstHourOfAll_29 rfl ?_
      refine r_iand dX11_firstHourOfAll_30 ?_
      refine r_iload_n (x := v1) dX11_firstHourOfAll_31 rfl ?_
      refine r_icmp_ne (tgt := 37) dX11_firstHourOfAll_32 (by decide) (fun c8 => ?_) (fun c8 => ?_)
      · rw [if_neg c8] at h
        obtain ⟨x9, hx9⟩ : ∃ y : Int32, y = (v2 + 1 : Int32) := ⟨_, rfl⟩
        replace h := lt_e hx9 h
        refine r_iinc (x := v2) (v := x9) (L' := [some (.ref 0), some (.int v1), some (.int x9)]) dX11_firstHourOfAll_37 rfl (by rw [hx9]; rfl) (Nat.le_of_ble_eq_true rfl) rfl rfl ?_
        refine r_goto (tgt := 7) dX11_firstHourOfAll_40 (by decide) ?_
        exact ih _ _ _ _ _ h k0 k1
      · rw [if_pos c8] at h
        cases h
        exact k1 rfl
def fX11_firstHourOfAll (N : Nat) (p0 : Int32) (S : PS) : Option (Int32 × PS) :=
  bV (fX11_lookAhead N 0 S) fun S2 =>
  bT (fX11_firstHourOfAll_7 N p0 N 1 S2) fun q10 =>
  lt (q10.1 : Nat) fun t13 =>
  lt (q10.2.1 : Int32) fun x11 =>
  lt (q10.2.2 : PS) fun S12 =>
  (if t13 = 0 then
    some ((-1), S12)
  else 
    some (x11, S12))
set_option maxHeartbeats 4000000 in
set_option maxRecDepth 100000 in
theorem okX11_firstHourOfAll (N : Nat) (p0 : Int32) (S : PS) (r : Int32) (T : PS) (h : fX11_firstHourOfAll N p0 S = some (r, T)) : CT mX11_firstHourOfAll 6 0 [.ref 0, .int p0] S (qI r T) := by
  refine ct_of [some (.ref 0), some (.int p0), none] rfl (fun _ => rfl) (fun _ => Nat.le_of_ble_eq_true rfl) ?_
  unfold fX11_firstHourOfAll at h
  refine r_aload_n (x := 0) dX11_firstHourOfAll_0 rfl ?_
  refine r_iconst (v := 0) dX11_firstHourOfAll_1 rfl ?_
  obtain ⟨S2, h3, h⟩ := bV_e h
  refine r_cVV (y := mX11_lookAhead) (As := [.int 0]) (rest := []) dX11_firstHourOfAll_2 qX11_217 kX11_lookAhead rfl ob0 vc11 rfl (okX11_lookAhead N 0 S S2 h3) (by decide) (Nat.zero_le _) rfl (Nat.le_of_ble_eq_true rfl) ?_
  refine r_iconst (v := 1) dX11_firstHourOfAll_5 rfl ?_
  refine r_istore_n (L' := [some (.ref 0), some (.int p0), some (.int 1)]) dX11_firstHourOfAll_6 (Nat.le_of_ble_eq_true rfl) rfl rfl ?_
  obtain ⟨⟨t13, x11, S12⟩, h14, h⟩ := bT_e h
  dsimp only at h
  replace h := pl_s (pl_s (pl_s (h)))
  refine okX11_firstHourOfAll_7 N p0 (qI r T) 0 (Nat.zero_le _) _ _ _ _ _ _ h14 (fun et13 => ?_) (fun et13 => ?_)
  · rw [if_pos et13] at h
    refine r_iconst (v := (-1)) dX11_firstHourOfAll_43 rfl ?_
    cases h
    exact r_ireturn dX11_firstHourOfAll_44 rfl (Nat.zero_le _) ⟨rfl, rfl⟩
  · rw [if_neg (by rw [et13]; decide)] at h
    refine r_iload_n (x := x11) dX11_firstHourOfAll_35 rfl ?_
    cases h
    exact r_ireturn dX11_firstHourOfAll_36 rfl (Nat.zero_le _) ⟨rfl, rfl⟩
def fX11_longestSilence_12 (N : Nat) (v1 : Int32) : Nat → Int32 → Int32 → Int32 → PS → Option (Int32 × Int32 × Int32 × PS)
  | 0, _, _, _, _ => none
  | n + 1, v2, v3, v4, S =>
    (if v1 ≤ v4 then
      some (v2, v3, v4, S)
    else
      bV (fX3_goOn N 1 S) fun S6 =>
      lt ((if (S6.1 5 5) = 0 then (v3 + 1) else 0) : Int32) fun x9 =>
      lt ((if v2 < x9 then x9 else v2) : Int32) fun x10 =>
      lt (v4 + 1 : Int32) fun x11 =>
      fX11_longestSilence_12 N v1 n x10 x9 x11 S6)
set_option maxHeartbeats 4000000 in
set_option maxRecDepth 100000 in
theorem okX11_longestSilence_12 (N : Nat) (v1 : Int32) (Q : OQ) (u : Nat) (hu : u ≤ 0) : ∀ (n : Nat) (v2 : Int32) (v3 : Int32) (v4 : Int32) (S : PS) (y2 : Int32) (y3 : Int32) (y4 : Int32) (T : PS), fX11_longestSilence_12 N v1 n v2 v3 v4 S = some (y2, y3, y4, T) → WP [] mX11_longestSilence 6 0 Q 56 [some (.ref 0), some (.int v1), some (.int y2), some (.int y3), some (.int y4)] [] T u → WP [] mX11_longestSilence 6 0 Q 12 [some (.ref 0), some (.int v1), some (.int v2), some (.int v3), some (.int v4)] [] S u := by
  intro n
  induction n with
  | zero => intro v2 v3 v4 S y2 y3 y4 T h; rw [fX11_longestSilence_12] at h; cases h
  | succ n ih =>
    intro v2 v3 v4 S y2 y3 y4 T h k0
    rw [fX11_longestSilence_12] at h
    refine r_iload (x := v4) dX11_longestSilence_12 rfl ?_
    refine r_iload_n (x := v1) dX11_longestSilence_14 rfl ?_
    refine r_icmp_ge (tgt := 56) dX11_longestSilence_15 (by decide) (fun c4 => ?_) (fun c4 => ?_)
    · rw [if_pos c4] at h
      cases h
      exact k0
    · rw [if_neg c4] at h
      refine r_aload_n (x := 0) dX11_longestSilence_18 rfl ?_
      refine r_getfield (o := 0) (v := .ref 5) dX11_longestSilence_19 lX11_29 ck0 nC0 rfl ?_
      refine r_iconst (v := 1) dX11_longestSilence_22 rfl ?_
      obtain ⟨S6, h7, h⟩ := bV_e h
      refine r_cVV (y := mX3_goOn) (As := [.int 1]) (rest := []) dX11_longestSilence_23 qX11_191 kX3_goOn rfl ob5 vc3 rfl (okX3_goOn N 1 S S6 h7) (by decide) hu rfl (Nat.le_of_ble_eq_true rfl) ?_
      refine r_aload_n (x := 0) dX11_longestSilence_26 rfl ?_
      refine r_getfield (o := 0) (v := .ref 5) dX11_longestSilence_27 lX11_29 ck0 nC0 rfl ?_
      refine r_getfield (o := 5) (v := .int (S6.1 5 5)) dX11_longestSilence_30 lX11_221 ck5 nC5 rfl ?_
      obtain ⟨x9, hx9⟩ : ∃ y : Int32, y = ((if (S6.1 5 5) = 0 then (v3 + 1) else 0) : Int32) := ⟨_, rfl⟩
      replace h := lt_e hx9 h
      have keyx9 : WP [] mX11_longestSilence 6 0 Q 43 [some (.ref 0), some (.int v1), some (.int v2), some (.int v3), some (.int v4)] (.int x9 :: []) S6 u := by
        refine r_istore_n (L' := [some (.ref 0), some (.int v1), some (.int v2), some (.int x9), some (.int v4)]) dX11_longestSilence_43 (Nat.le_of_ble_eq_true rfl) rfl rfl ?_
        refine r_iload_n (x := v2) dX11_longestSilence_44 rfl ?_
        refine r_iload_n (x := x9) dX11_longestSilence_45 rfl ?_
        refine r_mmax dX11_longestSilence_46 qX11_344 (by decide) hu (Nat.le_of_ble_eq_true rfl) ?_
        refine r_topi (fun x10 hx10 => ?_)
        replace h := lt_e hx10 h
        refine r_istore_n (L' := [some (.ref 0), some (.int v1), some (.int x10), some (.int x9), some (.int v4)]) dX11_longestSilence_49 (Nat.le_of_ble_eq_true rfl) rfl rfl ?_
        obtain ⟨x11, hx11⟩ : ∃ y : Int32, y = (v4 + 1 : Int32) := ⟨_, rfl⟩
        replace h := lt_e hx11 h
        refine r_iinc (x := v4) (v := x11) (L' := [some (.ref 0), some (.int v1), some (.int x10), some (.int x9), some (.int x11)]) dX11_longestSilence_50 rfl (by rw [hx11]; rfl) (Nat.le_of_ble_eq_true rfl) rfl rfl ?_
        refine r_goto (tgt := 12) dX11_longestSilence_53 (by decide) ?_
        exact ih _ _ _ _ _ _ _ _ h k0
      refine r_if_ne (tgt := 42) dX11_longestSilence_33 (by decide) (fun c8 => ?_) (fun c8 => ?_)
      · refine r_iconst (v := 0) dX11_longestSilence_42 rfl ?_
        exact r_tope (by rw [hx9, if_neg c8]) keyx9
      · refine r_iload_n (x := v3) dX11_longestSilence_36 rfl ?_
        refine r_iconst (v := 1) dX11_longestSilence_37 rfl ?_
        refine r_iadd dX11_longestSilence_38 ?_
        refine r_goto (tgt := 43) dX11_longestSilence_39 (by decide) ?_
        exact r_tope (by rw [hx9, if_pos c8]) keyx9
def fX11_longestSilence (N : Nat) (p0 : Int32) (S : PS) : Option (Int32 × PS) :=
  bV (fX11_lookAhead N 0 S) fun S2 =>
  bT (fX11_longestSilence_12 N p0 N 0 0 0 S2) fun q12 =>
  lt (q12.1 : Int32) fun x13 =>
  lt (q12.2.1 : Int32) fun x14 =>
  lt (q12.2.2.1 : Int32) fun x15 =>
  lt (q12.2.2.2 : PS) fun S16 =>
  some (x13, S16)
set_option maxHeartbeats 4000000 in
set_option maxRecDepth 100000 in
theorem okX11_longestSilence (N : Nat) (p0 : Int32) (S : PS) (r : Int32) (T : PS) (h : fX11_longestSilence N p0 S = some (r, T)) : CT mX11_longestSilence 6 0 [.ref 0, .int p0] S (qI r T) := by
  refine ct_of [some (.ref 0), some (.int p0), none, none, none] rfl (fun _ => rfl) (fun _ => Nat.le_of_ble_eq_true rfl) ?_
  unfold fX11_longestSilence at h
  refine r_iconst (v := 0) dX11_longestSilence_0 rfl ?_
  refine r_istore_n (L' := [some (.ref 0), some (.int p0), some (.int 0), none, none]) dX11_longestSilence_1 (Nat.le_of_ble_eq_true rfl) rfl rfl ?_
  refine r_iconst (v := 0) dX11_longestSilence_2 rfl ?_
  refine r_istore_n (L' := [some (.ref 0), some (.int p0), some (.int 0), some (.int 0), none]) dX11_longestSilence_3 (Nat.le_of_ble_eq_true rfl) rfl rfl ?_
  refine r_aload_n (x := 0) dX11_longestSilence_4 rfl ?_
  refine r_iconst (v := 0) dX11_longestSilence_5 rfl ?_
  obtain ⟨S2, h3, h⟩ := bV_e h
  refine r_cVV (y := mX11_lookAhead) (As := [.int 0]) (rest := []) dX11_longestSilence_6 qX11_217 kX11_lookAhead rfl ob0 vc11 rfl (okX11_lookAhead N 0 S S2 h3) (by decide) (Nat.zero_le _) rfl (Nat.le_of_ble_eq_true rfl) ?_
  refine r_iconst (v := 0) dX11_longestSilence_9 rfl ?_
  refine r_istore (L' := [some (.ref 0), some (.int p0), some (.int 0), some (.int 0), some (.int 0)]) dX11_longestSilence_10 (Nat.le_of_ble_eq_true rfl) rfl rfl ?_
  obtain ⟨⟨x13, x14, x15, S16⟩, h18, h⟩ := bT_e h
  dsimp only at h
  replace h := pl_s (pl_s (pl_s (pl_s (h))))
  refine okX11_longestSilence_12 N p0 (qI r T) 0 (Nat.zero_le _) _ _ _ _ _ _ _ _ _ h18 ?_
  refine r_iload_n (x := x13) dX11_longestSilence_56 rfl ?_
  cases h
  exact r_ireturn dX11_longestSilence_57 rfl (Nat.zero_le _) ⟨rfl, rfl⟩
def fX11_loudestHour_12 (N : Nat) (v1 : Int32) : Nat → Int32 → Int32 → Int32 → PS → Option (Int32 × Int32 × Int32 × PS)
  | 0, _, _, _, _ => none
  | n + 1, v2, v3, v4, S =>
    (if v1 < v4 then
      some (v2, v3, v4, S)
    else
      bV (fX3_goOn N 1 S) fun S6 =>
      bI (fJ6_bitCount_0f7a4 N (S6.1 5 5) S6) fun x8 S9 =>
      (if x8 ≤ v3 then
        lt (v4 + 1 : Int32) fun x12 =>
        fX11_loudestHour_12 N v1 n v2 v3 x12 S9
      else
        lt (v4 + 1 : Int32) fun x13 =>
        fX11_loudestHour_12 N v1 n v4 x8 x13 S9))
set_option maxHeartbeats 4000000 in
set_option maxRecDepth 100000 in
theorem okX11_loudestHour_12 (N : Nat) (v1 : Int32) (Q : OQ) (u : Nat) (hu : u ≤ 0) : ∀ (n : Nat) (v2 : Int32) (v3 : Int32) (v4 : Int32) (S : PS) (y2 : Int32) (y3 : Int32) (y4 : Int32) (T : PS), fX11_loudestHour_12 N v1 n v2 v3 v4 S = some (y2, y3, y4, T) → WP [] mX11_loudestHour 6 0 Q 56 [some (.ref 0), some (.int v1), some (.int y2), some (.int y3), some (.int y4), none] [] T u → WP [] mX11_loudestHour 6 0 Q 12 [some (.ref 0), some (.int v1), some (.int v2), some (.int v3), some (.int v4), none] [] S u := by
  intro n
  induction n with
  | zero => intro v2 v3 v4 S y2 y3 y4 T h; rw [fX11_loudestHour_12] at h; cases h
  | succ n ih =>
    intro v2 v3 v4 S y2 y3 y4 T h k0
    rw [fX11_loudestHour_12] at h
    refine r_iload (x := v4) dX11_loudestHour_12 rfl ?_
    refine r_iload_n (x := v1) dX11_loudestHour_14 rfl ?_
    refine r_icmp_gt (tgt := 56) dX11_loudestHour_15 (by decide) (fun c4 => ?_) (fun c4 => ?_)
    · rw [if_pos c4] at h
      cases h
      exact k0
    · rw [if_neg c4] at h
      refine r_aload_n (x := 0) dX11_loudestHour_18 rfl ?_
      refine r_getfield (o := 0) (v := .ref 5) dX11_loudestHour_19 lX11_29 ck0 nC0 rfl ?_
      refine r_iconst (v := 1) dX11_loudestHour_22 rfl ?_
      obtain ⟨S6, h7, h⟩ := bV_e h
      refine r_cVV (y := mX3_goOn) (As := [.int 1]) (rest := []) dX11_loudestHour_23 qX11_191 kX3_goOn rfl ob5 vc3 rfl (okX3_goOn N 1 S S6 h7) (by decide) hu rfl (Nat.le_of_ble_eq_true rfl) ?_
      refine r_aload_n (x := 0) dX11_loudestHour_26 rfl ?_
      refine r_getfield (o := 0) (v := .ref 5) dX11_loudestHour_27 lX11_29 ck0 nC0 rfl ?_
      refine r_getfield (o := 5) (v := .int (S6.1 5 5)) dX11_loudestHour_30 lX11_221 ck5 nC5 rfl ?_
      obtain ⟨x8, S9, h10, h⟩ := bI_e h
      refine r_cSI (y := mJ6_bitCount_0f7a4) (As := [.int (S6.1 5 5)]) (rest := []) dX11_loudestHour_33 qX11_313 kJ6_bitCount_0f7a4 rfl (okJ6_bitCount_0f7a4 N (S6.1 5 5) S6 x8 S9 h10) (by decide) hu rfl (Nat.le_of_ble_eq_true rfl) ?_
      refine r_istore (L' := [some (.ref 0), some (.int v1), some (.int v2), some (.int v3), some (.int v4), some (.int x8)]) dX11_loudestHour_36 (Nat.le_of_ble_eq_true rfl) rfl rfl ?_
      refine r_iload (x := x8) dX11_loudestHour_38 rfl ?_
      refine r_iload_n (x := v3) dX11_loudestHour_40 rfl ?_
      refine r_icmp_le (tgt := 50) dX11_loudestHour_41 (by decide) (fun c11 => ?_) (fun c11 => ?_)
      · rw [if_pos c11] at h
        obtain ⟨x12, hx12⟩ : ∃ y : Int32, y = (v4 + 1 : Int32) := ⟨_, rfl⟩
        replace h := lt_e hx12 h
        refine r_iinc (x := v4) (v := x12) (L' := [some (.ref 0), some (.int v1), some (.int v2), some (.int v3), some (.int x12), some (.int x8)]) dX11_loudestHour_50 rfl (by rw [hx12]; rfl) (Nat.le_of_ble_eq_true rfl) rfl rfl ?_
        refine r_goto (tgt := 12) dX11_loudestHour_53 (by decide) ?_
        refine r_drop [true, true, true, true, true, false] rfl ?_
        exact ih _ _ _ _ _ _ _ _ h k0
      · rw [if_neg c11] at h
        refine r_iload (x := v4) dX11_loudestHour_44 rfl ?_
        refine r_istore_n (L' := [some (.ref 0), some (.int v1), some (.int v4), some (.int v3), some (.int v4), some (.int x8)]) dX11_loudestHour_46 (Nat.le_of_ble_eq_true rfl) rfl rfl ?_
        refine r_iload (x := x8) dX11_loudestHour_47 rfl ?_
        refine r_istore_n (L' := [some (.ref 0), some (.int v1), some (.int v4), some (.int x8), some (.int v4), some (.int x8)]) dX11_loudestHour_49 (Nat.le_of_ble_eq_true rfl) rfl rfl ?_
        obtain ⟨x13, hx13⟩ : ∃ y : Int32, y = (v4 + 1 : Int32) := ⟨_, rfl⟩
        replace h := lt_e hx13 h
        refine r_iinc (x := v4) (v := x13) (L' := [some (.ref 0), some (.int v1), some (.int v4), some (.int x8), some (.int x13), some (.int x8)]) dX11_loudestHour_50 rfl (by rw [hx13]; rfl) (Nat.le_of_ble_eq_true rfl) rfl rfl ?_
        refine r_goto (tgt := 12) dX11_loudestHour_53 (by decide) ?_
        refine r_drop [true, true, true, true, true, false] rfl ?_
        exact ih _ _ _ _ _ _ _ _ h k0
def fX11_loudestHour (N : Nat) (p0 : Int32) (S : PS) : Option (Int32 × PS) :=
  bV (fX11_lookAhead N 0 S) fun S2 =>
  bT (fX11_loudestHour_12 N p0 N (-1) (-1) 1 S2) fun q14 =>
  lt (q14.1 : Int32) fun x15 =>
  lt (q14.2.1 : Int32) fun x16 =>
  lt (q14.2.2.1 : Int32) fun x17 =>
  lt (q14.2.2.2 : PS) fun S18 =>
  some (x15, S18)
set_option maxHeartbeats 4000000 in
set_option maxRecDepth 100000 in
theorem okX11_loudestHour (N : Nat) (p0 : Int32) (S : PS) (r : Int32) (T : PS) (h : fX11_loudestHour N p0 S = some (r, T)) : CT mX11_loudestHour 6 0 [.ref 0, .int p0] S (qI r T) := by
  refine ct_of [some (.ref 0), some (.int p0), none, none, none, none] rfl (fun _ => rfl) (fun _ => Nat.le_of_ble_eq_true rfl) ?_
  unfold fX11_loudestHour at h
  refine r_iconst (v := (-1)) dX11_loudestHour_0 rfl ?_
  refine r_istore_n (L' := [some (.ref 0), some (.int p0), some (.int (-1)), none, none, none]) dX11_loudestHour_1 (Nat.le_of_ble_eq_true rfl) rfl rfl ?_
  refine r_iconst (v := (-1)) dX11_loudestHour_2 rfl ?_
  refine r_istore_n (L' := [some (.ref 0), some (.int p0), some (.int (-1)), some (.int (-1)), none, none]) dX11_loudestHour_3 (Nat.le_of_ble_eq_true rfl) rfl rfl ?_
  refine r_aload_n (x := 0) dX11_loudestHour_4 rfl ?_
  refine r_iconst (v := 0) dX11_loudestHour_5 rfl ?_
  obtain ⟨S2, h3, h⟩ := bV_e h
  refine r_cVV (y := mX11_lookAhead) (As := [.int 0]) (rest := []) dX11_loudestHour_6 qX11_217 kX11_lookAhead rfl ob0 vc11 rfl (okX11_lookAhead N 0 S S2 h3) (by decide) (Nat.zero_le _) rfl (Nat.le_of_ble_eq_true rfl) ?_
  refine r_iconst (v := 1) dX11_loudestHour_9 rfl ?_
  refine r_istore (L' := [some (.ref 0), some (.int p0), some (.int (-1)), some (.int (-1)), some (.int 1), none]) dX11_loudestHour_10 (Nat.le_of_ble_eq_true rfl) rfl rfl ?_
  obtain ⟨⟨x15, x16, x17, S18⟩, h20, h⟩ := bT_e h
  dsimp only at h
  replace h := pl_s (pl_s (pl_s (pl_s (h))))
  refine okX11_loudestHour_12 N p0 (qI r T) 0 (Nat.zero_le _) _ _ _ _ _ _ _ _ _ h20 ?_
  refine r_iload_n (x := x15) dX11_loudestHour_56 rfl ?_
  cases h
  exact r_ireturn dX11_loudestHour_57 rfl (Nat.zero_le _) ⟨rfl, rfl⟩
def fX11_playAll_2 (N : Nat) (v1 : Int32) (v2 : Int32) : Nat → Int32 → PS → Option (Int32 × PS)
  | 0, _, _ => none
  | n + 1, v3, S =>
    (if 4 ≤ v3 then
      some (v3, S)
    else
      lt ((v3 >>> ((1 : Int32) &&& 31)) : Int32) fun x2 =>
      lt ((v3 &&& 1) : Int32) fun x3 =>
      bV (fX11_lookAhead N 0 S) fun S5 =>
      (if x2 = 1 then
        lt ((S5.2.2 5 4) : Nat) fun o38 =>
        gd (obj o38 2) <|
        bV (fX2_setPlugged N o38 v1 1 S5) fun S40 =>
        (if x3 = 1 then
          lt ((S40.2.2 5 4) : Nat) fun o56 =>
          gd (obj o56 2) <|
          bV (fX2_setPlugged N o56 v2 1 S40) fun S58 =>
          bV (fX3_goOn N 12 S58) fun S62 =>
          gd (inr v1 9) <|
          gd (inr v2 9) <|
          gd (inr v3 4) <|
          lt ((u2 S62.1 24 (ix v3) (((S62.1 28 (ix v1)) - ((S62.1 28 (ix v2)) / 2)) - x2), S62.2) : PS) fun S67 =>
          gd (inr v2 9) <|
          gd (inr v1 9) <|
          gd (inr v3 4) <|
          lt ((u2 S67.1 25 (ix v3) (((S67.1 28 (ix v2)) - ((S67.1 28 (ix v1)) / 2)) - x3), S67.2) : PS) fun S71 =>
          lt (v3 + 1 : Int32) fun x72 =>
          fX11_playAll_2 N v1 v2 n x72 S71
        else
          bV (fX3_goOn N 12 S40) fun S45 =>
          gd (inr v1 9) <|
          gd (inr v2 9) <|
          gd (inr v3 4) <|
          lt ((u2 S45.1 24 (ix v3) (((S45.1 28 (ix v1)) - ((S45.1 28 (ix v2)) / 2)) - x2), S45.2) : PS) fun S50 =>
          gd (inr v2 9) <|
          gd (inr v1 9) <|
          gd (inr v3 4) <|
          lt ((u2 S50.1 25 (ix v3) (((S50.1 28 (ix v2)) - ((S50.1 28 (ix v1)) / 2)) - x3), S50.2) : PS) fun S54 =>
          lt (v3 + 1 : Int32) fun x55 =>
          fX11_playAll_2 N v1 v2 n x55 S54)
      else
        (if x3 = 1 then
          lt ((S5.2.2 5 4) : Nat) fun o21 =>
          gd (obj o21 2) <|
          bV (fX2_setPlugged N o21 v2 1 S5) fun S23 =>
          bV (fX3_goOn N 12 S23) fun S27 =>
          gd (inr v1 9) <|
          gd (inr v2 9) <|
          gd (inr v3 4) <|
          lt ((u2 S27.1 24 (ix v3) (((S27.1 28 (ix v1)) - ((S27.1 28 (ix v2)) / 2)) - x2), S27.2) : PS) fun S32 =>
          gd (inr v2 9) <|
          gd (inr v1 9) <|
          gd (inr v3 4) <|
          lt ((u2 S32.1 25 (ix v3) (((S32.1 28 (ix v2)) - ((S32.1 28 (ix v1)) / 2)) - x3), S32.2) : PS) fun S36 =>
          lt (v3 + 1 : Int32) fun x37 =>
          fX11_playAll_2 N v1 v2 n x37 S36
        else
          bV (fX3_goOn N 12 S5) fun S10 =>
          gd (inr v1 9) <|
          gd (inr v2 9) <|
          gd (inr v3 4) <|
          lt ((u2 S10.1 24 (ix v3) (((S10.1 28 (ix v1)) - ((S10.1 28 (ix v2)) / 2)) - x2), S10.2) : PS) fun S15 =>
          gd (inr v2 9) <|
          gd (inr v1 9) <|
          gd (inr v3 4) <|
          lt ((u2 S15.1 25 (ix v3) (((S15.1 28 (ix v2)) - ((S15.1 28 (ix v1)) / 2)) - x3), S15.2) : PS) fun S19 =>
          lt (v3 + 1 : Int32) fun x20 =>
          fX11_playAll_2 N v1 v2 n x20 S19)))
set_option maxHeartbeats 4000000 in
set_option maxRecDepth 100000 in
theorem okX11_playAll_2 (N : Nat) (v1 : Int32) (v2 : Int32) (Q : OQ) (u : Nat) (hu : u ≤ 0) : ∀ (n : Nat) (v3 : Int32) (S : PS) (y3 : Int32) (T : PS), fX11_playAll_2 N v1 v2 n v3 S = some (y3, T) → WP [] mX11_playAll 6 0 Q 133 [some (.ref 0), some (.int v1), some (.int v2), some (.int y3), none, none] [] T u → WP [] mX11_playAll 6 0 Q 2 [some (.ref 0), some (.int v1), some (.int v2), some (.int v3), none, none] [] S u := by
  intro n
  induction n with
  | zero => intro v3 S y3 T h; rw [fX11_playAll_2] at h; cases h
  | succ n ih =>
    intro v3 S y3 T h k0
    rw [fX11_playAll_2] at h
    refine r_iload_n (x := v3) dX11_playAll_2 rfl ?_
    refine r_iconst (v := 4) dX11_playAll_3 rfl ?_
    refine r_icmp_ge (tgt := 133) dX11_playAll_4 (by decide) (fun c1 => ?_) (fun c1 => ?_)
    · rw [if_pos c1] at h
      cases h
      exact k0
    · rw [if_neg c1] at h
      refine r_iload_n (x := v3) dX11_playAll_7 rfl ?_
      refine r_iconst (v := 1) dX11_playAll_8 rfl ?_
      refine r_ishr dX11_playAll_9 ?_
      refine r_topi (fun x2 hx2 => ?_)
      replace h := lt_e hx2 h
      refine r_istore (L' := [some (.ref 0), some (.int v1), some (.int v2), some (.int v3), some (.int x2), none]) dX11_playAll_10 (Nat.le_of_ble_eq_true rfl) rfl rfl ?_
      refine r_iload_n (x := v3) dX11_playAll_12 rfl ?_
      refine r_iconst (v := 1) dX11_playAll_13 rfl ?_
      refine r_iand dX11_playAll_14 ?_
      refine r_topi (fun x3 hx3 => ?_)
      replace h := lt_e hx3 h
      refine r_istore (L' := [some (.ref 0), some (.int v1), some (.int v2), some (.int v3), some (.int x2), some (.int x3)]) dX11_playAll_15 (Nat.le_of_ble_eq_true rfl) rfl rfl ?_
      refine r_aload_n (x := 0) dX11_playAll_17 rfl ?_
      refine r_iconst (v := 0) dX11_playAll_18 rfl ?_
      obtain ⟨S5, h6, h⟩ := bV_e h
      refine r_cVV (y := mX11_lookAhead) (As := [.int 0]) (rest := []) dX11_playAll_19 qX11_217 kX11_lookAhead rfl ob0 vc11 rfl (okX11_lookAhead N 0 S S5 h6) (by decide) hu rfl (Nat.le_of_ble_eq_true rfl) ?_
      refine r_iload (x := x2) dX11_playAll_22 rfl ?_
      refine r_iconst (v := 1) dX11_playAll_24 rfl ?_
      refine r_icmp_ne (tgt := 40) dX11_playAll_25 (by decide) (fun c7 => ?_) (fun c7 => ?_)
      · rw [if_neg c7] at h
        refine r_iload (x := x3) dX11_playAll_40 rfl ?_
        refine r_iconst (v := 1) dX11_playAll_42 rfl ?_
        refine r_icmp_ne (tgt := 58) dX11_playAll_43 (by decide) (fun c8 => ?_) (fun c8 => ?_)
        · rw [if_neg c8] at h
          refine r_aload_n (x := 0) dX11_playAll_58 rfl ?_
          refine r_getfield (o := 0) (v := .ref 5) dX11_playAll_59 lX11_29 ck0 nC0 rfl ?_
          refine r_bipush (v := 12) dX11_playAll_62 rfl ?_
          obtain ⟨S10, h11, h⟩ := bV_e h
          refine r_cVV (y := mX3_goOn) (As := [.int 12]) (rest := []) dX11_playAll_64 qX11_191 kX3_goOn rfl ob5 vc3 rfl (okX3_goOn N 12 S5 S10 h11) (by decide) hu rfl (Nat.le_of_ble_eq_true rfl) ?_
          refine r_aload_n (x := 0) dX11_playAll_67 rfl ?_
          refine r_getfield (o := 0) (v := .ref 24) dX11_playAll_68 lX11_51 ck0 nC0 rfl ?_
          refine r_iload_n (x := v3) dX11_playAll_71 rfl ?_
          refine r_aload_n (x := 0) dX11_playAll_72 rfl ?_
          refine r_getfield (o := 0) (v := .ref 5) dX11_playAll_73 lX11_29 ck0 nC0 rfl ?_
          refine r_getfield (o := 5) (v := .ref 28) dX11_playAll_76 lX11_208 ck5 nC5 rfl ?_
          refine r_iload_n (x := v1) dX11_playAll_79 rfl ?_
          obtain ⟨g12, h⟩ := gd_e h
          refine r_iaload (a := 28) dX11_playAll_80 ck28 nC28 (inr_IX g12) ?_
          refine r_aload_n (x := 0) dX11_playAll_81 rfl ?_
          refine r_getfield (o := 0) (v := .ref 5) dX11_playAll_82 lX11_29 ck0 nC0 rfl ?_
          refine r_getfield (o := 5) (v := .ref 28) dX11_playAll_85 lX11_208 ck5 nC5 rfl ?_
          refine r_iload_n (x := v2) dX11_playAll_88 rfl ?_
          obtain ⟨g13, h⟩ := gd_e h
          refine r_iaload (a := 28) dX11_playAll_89 ck28 nC28 (inr_IX g13) ?_
          refine r_iconst (v := 2) dX11_playAll_90 rfl ?_
          refine r_idiv dX11_playAll_91 (by decide) ?_
          refine r_isub dX11_playAll_92 ?_
          refine r_iload (x := x2) dX11_playAll_93 rfl ?_
          refine r_isub dX11_playAll_95 ?_
          obtain ⟨g14, h⟩ := gd_e h
          refine r_iastore (a := 24) dX11_playAll_96 ck24 nC24 (inr_IX g14) ?_
          refine r_topS (fun S15 hS15 => ?_)
          replace h := lt_e hS15 h
          refine r_aload_n (x := 0) dX11_playAll_97 rfl ?_
          refine r_getfield (o := 0) (v := .ref 25) dX11_playAll_98 lX11_54 ck0 nC0 rfl ?_
          refine r_iload_n (x := v3) dX11_playAll_101 rfl ?_
          refine r_aload_n (x := 0) dX11_playAll_102 rfl ?_
          refine r_getfield (o := 0) (v := .ref 5) dX11_playAll_103 lX11_29 ck0 nC0 rfl ?_
          refine r_getfield (o := 5) (v := .ref 28) dX11_playAll_106 lX11_208 ck5 nC5 rfl ?_
          refine r_iload_n (x := v2) dX11_playAll_109 rfl ?_
          obtain ⟨g16, h⟩ := gd_e h
          refine r_iaload (a := 28) dX11_playAll_110 ck28 nC28 (inr_IX g16) ?_
          refine r_aload_n (x := 0) dX11_playAll_111 rfl ?_
          refine r_getfield (o := 0) (v := .ref 5) dX11_playAll_112 lX11_29 ck0 nC0 rfl ?_
          refine r_getfield (o := 5) (v := .ref 28) dX11_playAll_115 lX11_208 ck5 nC5 rfl ?_
          refine r_iload_n (x := v1) dX11_playAll_118 rfl ?_
          obtain ⟨g17, h⟩ := gd_e h
          refine r_iaload (a := 28) dX11_playAll_119 ck28 nC28 (inr_IX g17) ?_
          refine r_iconst (v := 2) dX11_playAll_120 rfl ?_
          refine r_idiv dX11_playAll_121 (by decide) ?_
          refine r_isub dX11_playAll_122 ?_
          refine r_iload (x := x3) dX11_playAll_123 rfl ?_
          refine r_isub dX11_playAll_125 ?_
          obtain ⟨g18, h⟩ := gd_e h
          refine r_iastore (a := 25) dX11_playAll_126 ck25 nC25 (inr_IX g18) ?_
          refine r_topS (fun S19 hS19 => ?_)
          replace h := lt_e hS19 h
          obtain ⟨x20, hx20⟩ : ∃ y : Int32, y = (v3 + 1 : Int32) := ⟨_, rfl⟩
          replace h := lt_e hx20 h
          refine r_iinc (x := v3) (v := x20) (L' := [some (.ref 0), some (.int v1), some (.int v2), some (.int x20), some (.int x2), some (.int x3)]) dX11_playAll_127 rfl (by rw [hx20]; rfl) (Nat.le_of_ble_eq_true rfl) rfl rfl ?_
          refine r_goto (tgt := 2) dX11_playAll_130 (by decide) ?_
          refine r_drop [true, true, true, true, false, false] rfl ?_
          exact ih _ _ _ _ h k0
        · rw [if_pos c8] at h
          refine r_aload_n (x := 0) dX11_playAll_46 rfl ?_
          refine r_getfield (o := 0) (v := .ref 5) dX11_playAll_47 lX11_29 ck0 nC0 rfl ?_
          refine r_getfield (o := 5) (v := .ref (S5.2.2 5 4)) dX11_playAll_50 lX11_220 ck5 nC5 rfl ?_
          refine r_topr (fun o21 ho21 => ?_)
          replace h := lt_e ho21 h
          refine r_iload_n (x := v2) dX11_playAll_53 rfl ?_
          refine r_iconst (v := 1) dX11_playAll_54 rfl ?_
          obtain ⟨g25, h⟩ := gd_e h
          obtain ⟨S23, h24, h⟩ := bV_e h
          refine r_cVV (y := mX2_setPlugged) (As := [.int v2, .int 1]) (rest := []) dX11_playAll_55 qX11_201 kX2_setPlugged rfl g25 vc2 rfl (okX2_setPlugged N o21 v2 1 S5 S23 h24) (by decide) hu rfl (Nat.le_of_ble_eq_true rfl) ?_
          refine r_aload_n (x := 0) dX11_playAll_58 rfl ?_
          refine r_getfield (o := 0) (v := .ref 5) dX11_playAll_59 lX11_29 ck0 nC0 rfl ?_
          refine r_bipush (v := 12) dX11_playAll_62 rfl ?_
          obtain ⟨S27, h28, h⟩ := bV_e h
          refine r_cVV (y := mX3_goOn) (As := [.int 12]) (rest := []) dX11_playAll_64 qX11_191 kX3_goOn rfl ob5 vc3 rfl (okX3_goOn N 12 S23 S27 h28) (by decide) hu rfl (Nat.le_of_ble_eq_true rfl) ?_
          refine r_aload_n (x := 0) dX11_playAll_67 rfl ?_
          refine r_getfield (o := 0) (v := .ref 24) dX11_playAll_68 lX11_51 ck0 nC0 rfl ?_
          refine r_iload_n (x := v3) dX11_playAll_71 rfl ?_
          refine r_aload_n (x := 0) dX11_playAll_72 rfl ?_
          refine r_getfield (o := 0) (v := .ref 5) dX11_playAll_73 lX11_29 ck0 nC0 rfl ?_
          refine r_getfield (o := 5) (v := .ref 28) dX11_playAll_76 lX11_208 ck5 nC5 rfl ?_
          refine r_iload_n (x := v1) dX11_playAll_79 rfl ?_
          obtain ⟨g29, h⟩ := gd_e h
          refine r_iaload (a := 28) dX11_playAll_80 ck28 nC28 (inr_IX g29) ?_
          refine r_aload_n (x := 0) dX11_playAll_81 rfl ?_
          refine r_getfield (o := 0) (v := .ref 5) dX11_playAll_82 lX11_29 ck0 nC0 rfl ?_
          refine r_getfield (o := 5) (v := .ref 28) dX11_playAll_85 lX11_208 ck5 nC5 rfl ?_
          refine r_iload_n (x := v2) dX11_playAll_88 rfl ?_
          obtain ⟨g30, h⟩ := gd_e h
          refine r_iaload (a := 28) dX11_playAll_89 ck28 nC28 (inr_IX g30) ?_
          refine r_iconst (v := 2) dX11_playAll_90 rfl ?_
          refine r_idiv dX11_playAll_91 (by decide) ?_
          refine r_isub dX11_playAll_92 ?_
          refine r_iload (x := x2) dX11_playAll_93 rfl ?_
          refine r_isub dX11_playAll_95 ?_
          obtain ⟨g31, h⟩ := gd_e h
          refine r_iastore (a := 24) dX11_playAll_96 ck24 nC24 (inr_IX g31) ?_
          refine r_topS (fun S32 hS32 => ?_)
          replace h := lt_e hS32 h
          refine r_aload_n (x := 0) dX11_playAll_97 rfl ?_
          refine r_getfield (o := 0) (v := .ref 25) dX11_playAll_98 lX11_54 ck0 nC0 rfl ?_
          refine r_iload_n (x := v3) dX11_playAll_101 rfl ?_
          refine r_aload_n (x := 0) dX11_playAll_102 rfl ?_
          refine r_getfield (o := 0) (v := .ref 5) dX11_playAll_103 lX11_29 ck0 nC0 rfl ?_
          refine r_getfield (o := 5) (v := .ref 28) dX11_playAll_106 lX11_208 ck5 nC5 rfl ?_
          refine r_iload_n (x := v2) dX11_playAll_109 rfl ?_
          obtain ⟨g33, h⟩ := gd_e h
          refine r_iaload (a := 28) dX11_playAll_110 ck28 nC28 (inr_IX g33) ?_
          refine r_aload_n (x := 0) dX11_playAll_111 rfl ?_
          refine r_getfield (o := 0) (v := .ref 5) dX11_playAll_112 lX11_29 ck0 nC0 rfl ?_
          refine r_getfield (o := 5) (v := .ref 28) dX11_playAll_115 lX11_208 ck5 nC5 rfl ?_
          refine r_iload_n (x := v1) dX11_playAll_118 rfl ?_
          obtain ⟨g34, h⟩ := gd_e h
          refine r_iaload (a := 28) dX11_playAll_119 ck28 nC28 (inr_IX g34) ?_
          refine r_iconst (v := 2) dX11_playAll_120 rfl ?_
          refine r_idiv dX11_playAll_121 (by decide) ?_
          refine r_isub dX11_playAll_122 ?_
          refine r_iload (x := x3) dX11_playAll_123 rfl ?_
          refine r_isub dX11_playAll_125 ?_
          obtain ⟨g35, h⟩ := gd_e h
          refine r_iastore (a := 25) dX11_playAll_126 ck25 nC25 (inr_IX g35) ?_
          refine r_topS (fun S36 hS36 => ?_)
          replace h := lt_e hS36 h
          obtain ⟨x37, hx37⟩ : ∃ y : Int32, y = (v3 + 1 : Int32) := ⟨_, rfl⟩
          replace h := lt_e hx37 h
          refine r_iinc (x := v3) (v := x37) (L' := [some (.ref 0), some (.int v1), some (.int v2), some (.int x37), some (.int x2), some (.int x3)]) dX11_playAll_127 rfl (by rw [hx37]; rfl) (Nat.le_of_ble_eq_true rfl) rfl rfl ?_
          refine r_goto (tgt := 2) dX11_playAll_130 (by decide) ?_
          refine r_drop [true, true, true, true, false, false] rfl ?_
          exact ih _ _ _ _ h k0
      · rw [if_pos c7] at h
        refine r_aload_n (x := 0) dX11_playAll_28 rfl ?_
        refine r_getfield (o := 0) (v := .ref 5) dX11_playAll_29 lX11_29 ck0 nC0 rfl ?_
        refine r_getfield (o := 5) (v := .ref (S5.2.2 5 4)) dX11_playAll_32 lX11_220 ck5 nC5 rfl ?_
        refine r_topr (fun o38 ho38 => ?_)
        replace h := lt_e ho38 h
        refine r_iload_n (x := v1) dX11_playAll_35 rfl ?_
        refine r_iconst (v := 1) dX11_playAll_36 rfl ?_
        obtain ⟨g42, h⟩ := gd_e h
        obtain ⟨S40, h41, h⟩ := bV_e h
        refine r_cVV (y := mX2_setPlugged) (As := [.int v1, .int 1]) (rest := []) dX11_playAll_37 qX11_201 kX2_setPlugged rfl g42 vc2 rfl (okX2_setPlugged N o38 v1 1 S5 S40 h41) (by decide) hu rfl (Nat.le_of_ble_eq_true rfl) ?_
        refine r_iload (x := x3) dX11_playAll_40 rfl ?_
        refine r_iconst (v := 1) dX11_playAll_42 rfl ?_
        refine r_icmp_ne (tgt := 58) dX11_playAll_43 (by decide) (fun c43 => ?_) (fun c43 => ?_)
        · rw [if_neg c43] at h
          refine r_aload_n (x := 0) dX11_playAll_58 rfl ?_
          refine r_getfield (o := 0) (v := .ref 5) dX11_playAll_59 lX11_29 ck0 nC0 rfl ?_
          refine r_bipush (v := 12) dX11_playAll_62 rfl ?_
          obtain ⟨S45, h46, h⟩ := bV_e h
          refine r_cVV (y := mX3_goOn) (As := [.int 12]) (rest := []) dX11_playAll_64 qX11_191 kX3_goOn rfl ob5 vc3 rfl (okX3_goOn N 12 S40 S45 h46) (by decide) hu rfl (Nat.le_of_ble_eq_true rfl) ?_
          refine r_aload_n (x := 0) dX11_playAll_67 rfl ?_
          refine r_getfield (o := 0) (v := .ref 24) dX11_playAll_68 lX11_51 ck0 nC0 rfl ?_
          refine r_iload_n (x := v3) dX11_playAll_71 rfl ?_
          refine r_aload_n (x := 0) dX11_playAll_72 rfl ?_
          refine r_getfield (o := 0) (v := .ref 5) dX11_playAll_73 lX11_29 ck0 nC0 rfl ?_
          refine r_getfield (o := 5) (v := .ref 28) dX11_playAll_76 lX11_208 ck5 nC5 rfl ?_
          refine r_iload_n (x := v1) dX11_playAll_79 rfl ?_
          obtain ⟨g47, h⟩ := gd_e h
          refine r_iaload (a := 28) dX11_playAll_80 ck28 nC28 (inr_IX g47) ?_
          refine r_aload_n (x := 0) dX11_playAll_81 rfl ?_
          refine r_getfield (o := 0) (v := .ref 5) dX11_playAll_82 lX11_29 ck0 nC0 rfl ?_
          refine r_getfield (o := 5) (v := .ref 28) dX11_playAll_85 lX11_208 ck5 nC5 rfl ?_
          refine r_iload_n (x := v2) dX11_playAll_88 rfl ?_
          obtain ⟨g48, h⟩ := gd_e h
          refine r_iaload (a := 28) dX11_playAll_89 ck28 nC28 (inr_IX g48) ?_
          refine r_iconst (v := 2) dX11_playAll_90 rfl ?_
          refine r_idiv dX11_playAll_91 (by decide) ?_
          refine r_isub dX11_playAll_92 ?_
          refine r_iload (x := x2) dX11_playAll_93 rfl ?_
          refine r_isub dX11_playAll_95 ?_
          obtain ⟨g49, h⟩ := gd_e h
          refine r_iastore (a := 24) dX11_playAll_96 ck24 nC24 (inr_IX g49) ?_
          refine r_topS (fun S50 hS50 => ?_)
          replace h := lt_e hS50 h
          refine r_aload_n (x := 0) dX11_playAll_97 rfl ?_
          refine r_getfield (o := 0) (v := .ref 25) dX11_playAll_98 lX11_54 ck0 nC0 rfl ?_
          refine r_iload_n (x := v3) dX11_playAll_101 rfl ?_
          refine r_aload_n (x := 0) dX11_playAll_102 rfl ?_
          refine r_getfield (o := 0) (v := .ref 5) dX11_playAll_103 lX11_29 ck0 nC0 rfl ?_
          refine r_getfield (o := 5) (v := .ref 28) dX11_playAll_106 lX11_208 ck5 nC5 rfl ?_
          refine r_iload_n (x := v2) dX11_playAll_109 rfl ?_
          obtain ⟨g51, h⟩ := gd_e h
          refine r_iaload (a := 28) dX11_playAll_110 ck28 nC28 (inr_IX g51) ?_
          refine r_aload_n (x := 0) dX11_playAll_111 rfl ?_
          refine r_getfield (o := 0) (v := .ref 5) dX11_playAll_112 lX11_29 ck0 nC0 rfl ?_
          refine r_getfield (o := 5) (v := .ref 28) dX11_playAll_115 lX11_208 ck5 nC5 rfl ?_
          refine r_iload_n (x := v1) dX11_playAll_118 rfl ?_
          obtain ⟨g52, h⟩ := gd_e h
          refine r_iaload (a := 28) dX11_playAll_119 ck28 nC28 (inr_IX g52) ?_
          refine r_iconst (v := 2) dX11_playAll_120 rfl ?_
          refine r_idiv dX11_playAll_121 (by decide) ?_
          refine r_isub dX11_playAll_122 ?_
          refine r_iload (x := x3) dX11_playAll_123 rfl ?_
          refine r_isub dX11_playAll_125 ?_
          obtain ⟨g53, h⟩ := gd_e h
          refine r_iastore (a := 25) dX11_playAll_126 ck25 nC25 (inr_IX g53) ?_
          refine r_topS (fun S54 hS54 => ?_)
          replace h := lt_e hS54 h
          obtain ⟨x55, hx55⟩ : ∃ y : Int32, y = (v3 + 1 : Int32) := ⟨_, rfl⟩
          replace h := lt_e hx55 h
          refine r_iinc (x := v3) (v := x55) (L' := [some (.ref 0), some (.int v1), some (.int v2), some (.int x55), some (.int x2), some (.int x3)]) dX11_playAll_127 rfl (by rw [hx55]; rfl) (Nat.le_of_ble_eq_true rfl) rfl rfl ?_
          refine r_goto (tgt := 2) dX11_playAll_130 (by decide) ?_
          refine r_drop [true, true, true, true, false, false] rfl ?_
          exact ih _ _ _ _ h k0
        · rw [if_pos c43] at h
          refine r_aload_n (x := 0) dX11_playAll_46 rfl ?_
          refine r_getfield (o := 0) (v := .ref 5) dX11_playAll_47 lX11_29 ck0 nC0 rfl ?_
          refine r_getfield (o := 5) (v := .ref (S40.2.2 5 4)) dX11_playAll_50 lX11_220 ck5 nC5 rfl ?_
          refine r_topr (fun o56 ho56 => ?_)
          replace h := lt_e ho56 h
          refine r_iload_n (x := v2) dX11_playAll_53 rfl ?_
          refine r_iconst (v := 1) dX11_playAll_54 rfl ?_
          obtain ⟨g60, h⟩ := gd_e h
          obtain ⟨S58, h59, h⟩ := bV_e h
          refine r_cVV (y := mX2_setPlugged) (As := [.int v2, .int 1]) (rest := []) dX11_playAll_55 qX11_201 kX2_setPlugged rfl g60 vc2 rfl (okX2_setPlugged N o56 v2 1 S40 S58 h59) (by decide) hu rfl (Nat.le_of_ble_eq_true rfl) ?_
          refine r_aload_n (x := 0) dX11_playAll_58 rfl ?_
          refine r_getfield (o := 0) (v := .ref 5) dX11_playAll_59 lX11_29 ck0 nC0 rfl ?_
          refine r_bipush (v := 12) dX11_playAll_62 rfl ?_
          obtain ⟨S62, h63, h⟩ := bV_e h
          refine r_cVV (y := mX3_goOn) (As := [.int 12]) (rest := []) dX11_playAll_64 qX11_191 kX3_goOn rfl ob5 vc3 rfl (okX3_goOn N 12 S58 S62 h63) (by decide) hu rfl (Nat.le_of_ble_eq_true rfl) ?_
          refine r_aload_n (x := 0) dX11_playAll_67 rfl ?_
          refine r_getfield (o := 0) (v := .ref 24) dX11_playAll_68 lX11_51 ck0 nC0 rfl ?_
          refine r_iload_n (x := v3) dX11_playAll_71 rfl ?_
          refine r_aload_n (x := 0) dX11_playAll_72 rfl ?_
          refine r_getfield (o := 0) (v := .ref 5) dX11_playAll_73 lX11_29 ck0 nC0 rfl ?_
          refine r_getfield (o := 5) (v := .ref 28) dX11_playAll_76 lX11_208 ck5 nC5 rfl ?_
          refine r_iload_n (x := v1) dX11_playAll_79 rfl ?_
          obtain ⟨g64, h⟩ := gd_e h
          refine r_iaload (a := 28) dX11_playAll_80 ck28 nC28 (inr_IX g64) ?_
          refine r_aload_n (x := 0) dX11_playAll_81 rfl ?_
          refine r_getfield (o := 0) (v := .ref 5) dX11_playAll_82 lX11_29 ck0 nC0 rfl ?_
          refine r_getfield (o := 5) (v := .ref 28) dX11_playAll_85 lX11_208 ck5 nC5 rfl ?_
          refine r_iload_n (x := v2) dX11_playAll_88 rfl ?_
          obtain ⟨g65, h⟩ := gd_e h
          refine r_iaload (a := 28) dX11_playAll_89 ck28 nC28 (inr_IX g65) ?_
          refine r_iconst (v := 2) dX11_playAll_90 rfl ?_
          refine r_idiv dX11_playAll_91 (by decide) ?_
          refine r_isub dX11_playAll_92 ?_
          refine r_iload (x := x2) dX11_playAll_93 rfl ?_
          refine r_isub dX11_playAll_95 ?_
          obtain ⟨g66, h⟩ := gd_e h
          refine r_iastore (a := 24) dX11_playAll_96 ck24 nC24 (inr_IX g66) ?_
          refine r_topS (fun S67 hS67 => ?_)
          replace h := lt_e hS67 h
          refine r_aload_n (x := 0) dX11_playAll_97 rfl ?_
          refine r_getfield (o := 0) (v := .ref 25) dX11_playAll_98 lX11_54 ck0 nC0 rfl ?_
          refine r_iload_n (x := v3) dX11_playAll_101 rfl ?_
          refine r_aload_n (x := 0) dX11_playAll_102 rfl ?_
          refine r_getfield (o := 0) (v := .ref 5) dX11_playAll_103 lX11_29 ck0 nC0 rfl ?_
          refine r_getfield (o := 5) (v := .ref 28) dX11_playAll_106 lX11_208 ck5 nC5 rfl ?_
          refine r_iload_n (x := v2) dX11_playAll_109 rfl ?_
          obtain ⟨g68, h⟩ := gd_e h
          refine r_iaload (a := 28) dX11_playAll_110 ck28 nC28 (inr_IX g68) ?_
          refine r_aload_n (x := 0) dX11_playAll_111 rfl ?_
          refine r_getfield (o := 0) (v := .ref 5) dX11_playAll_112 lX11_29 ck0 nC0 rfl ?_
          refine r_getfield (o := 5) (v := .ref 28) dX11_playAll_115 lX11_208 ck5 nC5 rfl ?_
          refine r_iload_n (x := v1) dX11_playAll_118 rfl ?_
          obtain ⟨g69, h⟩ := gd_e h
          refine r_iaload (a := 28) dX11_playAll_119 ck28 nC28 (inr_IX g69) ?_
          refine r_iconst (v := 2) dX11_playAll_120 rfl ?_
          refine r_idiv dX11_playAll_121 (by decide) ?_
          refine r_isub dX11_playAll_122 ?_
          refine r_iload (x := x3) dX11_playAll_123 rfl ?_
          refine r_isub dX11_playAll_125 ?_
          obtain ⟨g70, h⟩ := gd_e h
          refine r_iastore (a := 25) dX11_playAll_126 ck25 nC25 (inr_IX g70) ?_
          refine r_topS (fun S71 hS71 => ?_)
          replace h := lt_e hS71 h
          obtain ⟨x72, hx72⟩ : ∃ y : Int32, y = (v3 + 1 : Int32) := ⟨_, rfl⟩
          replace h := lt_e hx72 h
          refine r_iinc (x := v3) (v := x72) (L' := [some (.ref 0), some (.int v1), some (.int v2), some (.int x72), some (.int x2), some (.int x3)]) dX11_playAll_127 rfl (by rw [hx72]; rfl) (Nat.le_of_ble_eq_true rfl) rfl rfl ?_
          refine r_goto (tgt := 2) dX11_playAll_130 (by decide) ?_
          refine r_drop [true, true, true, true, false, false] rfl ?_
          exact ih _ _ _ _ h k0
def fX11_playAll (N : Nat) (p0 : Int32) (p1 : Int32) (S : PS) : Option PS :=
  bT (fX11_playAll_2 N p0 p1 N 0 S) fun q73 =>
  lt (q73.1 : Int32) fun x74 =>
  lt (q73.2 : PS) fun S75 =>
  some S75
set_option maxHeartbeats 4000000 in
set_option maxRecDepth 100000 in
theorem okX11_playAll (N : Nat) (p0 : Int32) (p1 : Int32) (S : PS) (T : PS) (h : fX11_playAll N p0 p1 S = some T) : CT mX11_playAll 6 0 [.ref 0, .int p0, .int p1] S (qV T) := by
  refine ct_of [some (.ref 0), some (.int p0), some (.int p1), none, none, none] rfl (fun _ => rfl) (fun _ => Nat.le_of_ble_eq_true rfl) ?_
  unfold fX11_playAll at h
  refine r_iconst (v := 0) dX11_playAll_0 rfl ?_
  refine r_istore_n (L' := [some (.ref 0), some (.int p0), some (.int p1), some (.int 0), none, none]) dX11_playAll_1 (Nat.le_of_ble_eq_true rfl) rfl rfl ?_
  obtain ⟨⟨x74, S75⟩, h77, h⟩ := bT_e h
  dsimp only at h
  replace h := pl_s (pl_s (h))
  refine okX11_playAll_2 N p0 p1 (qV T) 0 (Nat.zero_le _) _ _ _ _ _ h77 ?_
  cases h
  exact r_return dX11_playAll_133 rfl (Nat.zero_le _) ⟨rfl, rfl⟩
def fX11_round_7 (N : Nat)  : Nat → Int32 → PS → Option (Nat × Int32 × PS)
  | 0, _, _ => none
  | n + 1, v1, S =>
    (if 200 < v1 then
      some (0, v1, S)
    else
      bV (fX3_goOn N 1 S) fun S6 =>
      lt ((S6.2.2 5 4) : Nat) fun o8 =>
      gd (obj o8 2) <|
      bI (fX2_filledAs N o8 18 S6) fun x9 S10 =>
      (if x9 = 0 then
        lt (v1 + 1 : Int32) fun x14 =>
        fX11_round_7 N  n x14 S10
      else
        some (1, v1, S10)))
set_option maxHeartbeats 4000000 in
set_option maxRecDepth 100000 in
theorem okX11_round_7 (N : Nat)  (Q : OQ) (u : Nat) (hu : u ≤ 0) : ∀ (n : Nat) (v1 : Int32) (S : PS) (tg : Nat) (y1 : Int32) (T : PS), fX11_round_7 N  n v1 S = some (tg, y1, T) → (tg = 0 → WP [] mX11_round 6 0 Q 50 [some (.ref 0), some (.int y1)] [] T u) → (tg = 1 → WP [] mX11_round 6 0 Q 42 [some (.ref 0), some (.int y1)] [] T u) → WP [] mX11_round 6 0 Q 7 [some (.ref 0), some (.int v1)] [] S u := by
  intro n
  induction n with
  | zero => intro v1 S tg y1 T h; rw [fX11_round_7] at h; cases h
  | succ n ih =>
    intro v1 S tg y1 T h k0 k1
    rw [fX11_round_7] at h
    refine r_iload_n (x := v1) dX11_round_7 rfl ?_
    refine r_sipush (v := 200) dX11_round_8 rfl ?_
    refine r_icmp_gt (tgt := 50) dX11_round_11 (by decide) (fun c4 => ?_) (fun c4 => ?_)
    · rw [if_pos c4] at h
      cases h
      exact k0 rfl
    · rw [if_neg c4] at h
      refine r_aload_n (x := 0) dX11_round_14 rfl ?_
      refine r_getfield (o := 0) (v := .ref 5) dX11_round_15 lX11_29 ck0 nC0 rfl ?_
      refine r_iconst (v := 1) dX11_round_18 rfl ?_
      obtain ⟨S6, h7, h⟩ := bV_e h
      refine r_cVV (y := mX3_goOn) (As := [.int 1]) (rest := []) dX11_round_19 qX11_191 kX3_goOn rfl ob5 vc3 rfl (okX3_goOn N 1 S S6 h7) (by decide) hu rfl (Nat.le_of_ble_eq_true rfl) ?_
      refine r_aload_n (x := 0) dX11_round_22 rfl ?_
      refine r_getfield (o := 0) (v := .ref 5) dX11_round_23 lX11_29 ck0 nC0 rfl ?_
      refine r_getfield (o := 5) (v := .ref (S6.2.2 5 4)) dX11_round_26 lX11_220 ck5 nC5 rfl ?_
      refine r_topr (fun o8 ho8 => ?_)
      replace h := lt_e ho8 h
      refine r_aload_n (x := 0) dX11_round_29 rfl ?_
      refine r_getfield (o := 0) (v := .ref 3) dX11_round_30 lX11_19 ck0 nC0 rfl ?_
      refine r_getfield (o := 3) (v := .ref 18) dX11_round_33 lX11_116 ck3 nC3 rfl ?_
      obtain ⟨g12, h⟩ := gd_e h
      obtain ⟨x9, S10, h11, h⟩ := bI_e h
      refine r_cVI (y := mX2_filledAs) (As := [.ref 18]) (rest := []) dX11_round_36 qX11_327 kX2_filledAs rfl g12 vc2 rfl (okX2_filledAs N o8 18 S6 x9 S10 h11) (by decide) hu rfl (Nat.le_of_ble_eq_true rfl) ?_
      refine r_if_eq (tgt := 44) dX11_round_39 (by decide) (fun c13 => ?_) (fun c13 => ?_)
      · rw [if_pos c13] at h
        obtain ⟨x14, hx14⟩ : ∃ y : Int32, y = (v1 + 1 : Int32) := ⟨_, rfl⟩
        replace h := lt_e hx14 h
        refine r_iinc (x := v1) (v := x14) (L' := [some (.ref 0), some (.int x14)]) dX11_round_44 rfl (by rw [hx14]; rfl) (Nat.le_of_ble_eq_true rfl) rfl rfl ?_
        refine r_goto (tgt := 7) dX11_round_47 (by decide) ?_
        exact ih _ _ _ _ _ h k0 k1
      · rw [if_neg c13] at h
        cases h
        exact k1 rfl
def fX11_round (N : Nat)  (S : PS) : Option (Int32 × PS) :=
  bV (fX11_lookAhead N 0 S) fun S2 =>
  bT (fX11_round_7 N  N 1 S2) fun q15 =>
  lt (q15.1 : Nat) fun t18 =>
  lt (q15.2.1 : Int32) fun x16 =>
  lt (q15.2.2 : PS) fun S17 =>
  (if t18 = 0 then
    some ((-1), S17)
  else 
    some (x16, S17))
set_option maxHeartbeats 4000000 in
set_option maxRecDepth 100000 in
theorem okX11_round (N : Nat)  (S : PS) (r : Int32) (T : PS) (h : fX11_round N  S = some (r, T)) : CT mX11_round 6 0 [.ref 0] S (qI r T) := by
  refine ct_of [some (.ref 0), none] rfl (fun _ => rfl) (fun _ => Nat.le_of_ble_eq_true rfl) ?_
  unfold fX11_round at h
  refine r_aload_n (x := 0) dX11_round_0 rfl ?_
  refine r_iconst (v := 0) dX11_round_1 rfl ?_
  obtain ⟨S2, h3, h⟩ := bV_e h
  refine r_cVV (y := mX11_lookAhead) (As := [.int 0]) (rest := []) dX11_round_2 qX11_217 kX11_lookAhead rfl ob0 vc11 rfl (okX11_lookAhead N 0 S S2 h3) (by decide) (Nat.zero_le _) rfl (Nat.le_of_ble_eq_true rfl) ?_
  refine r_iconst (v := 1) dX11_round_5 rfl ?_
  refine r_istore_n (L' := [some (.ref 0), some (.int 1)]) dX11_round_6 (Nat.le_of_ble_eq_true rfl) rfl rfl ?_
  obtain ⟨⟨t18, x16, S17⟩, h19, h⟩ := bT_e h
  dsimp only at h
  replace h := pl_s (pl_s (pl_s (h)))
  refine okX11_round_7 N  (qI r T) 0 (Nat.zero_le _) _ _ _ _ _ _ h19 (fun et18 => ?_) (fun et18 => ?_)
  · rw [if_pos et18] at h
    refine r_iconst (v := (-1)) dX11_round_50 rfl ?_
    cases h
    exact r_ireturn dX11_round_51 rfl (Nat.zero_le _) ⟨rfl, rfl⟩
  · rw [if_neg (by rw [et18]; decide)] at h
    refine r_iload_n (x := x16) dX11_round_42 rfl ?_
    cases h
    exact r_ireturn dX11_round_43 rfl (Nat.zero_le _) ⟨rfl, rfl⟩
