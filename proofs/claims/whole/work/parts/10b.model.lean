def fX12_isOpened_7 (N : Nat)  : Nat → Int32 → PS → Option (Int32 × PS)
  | 0, _, _ => none
  | n + 1, v1, S =>
    (if v1 < 0 then
      some (v1, S)
    else
      gd (inr v1 950) <|
      bI (fX12_isOpen N (S.1 88 (ix v1)) S) fun x4 S5 =>
      (if x4 = 0 then
        lt (v1 + (-1) : Int32) fun x8 =>
        fX12_isOpened_7 N  n x8 S5
      else
        some (v1, S5)))
set_option maxHeartbeats 4000000 in
set_option maxRecDepth 100000 in
theorem okX12_isOpened_7 (N : Nat)  (Q : OQ) (u : Nat) (hu : u ≤ 0) : ∀ (n : Nat) (v1 : Int32) (S : PS) (y1 : Int32) (T : PS), fX12_isOpened_7 N  n v1 S = some (y1, T) → WP [] mX12_isOpened 1 0 Q 29 [some (.ref 80), some (.int y1)] [] T u → WP [] mX12_isOpened 1 0 Q 7 [some (.ref 80), some (.int v1)] [] S u := by
  intro n
  induction n with
  | zero => intro v1 S y1 T h; rw [fX12_isOpened_7] at h; cases h
  | succ n ih =>
    intro v1 S y1 T h k0
    rw [fX12_isOpened_7] at h
    refine r_iload_n (x := v1) dX12_isOpened_7 rfl ?_
    refine r_if_lt (tgt := 29) dX12_isOpened_8 (by decide) (fun c2 => ?_) (fun c2 => ?_)
    · rw [if_pos c2] at h
      cases h
      exact k0
    · rw [if_neg c2] at h
      refine r_aload_n (x := 80) dX12_isOpened_11 rfl ?_
      refine r_getfield (o := 80) (v := .ref 88) dX12_isOpened_12 lX12_41 ck80 nC80 rfl ?_
      refine r_iload_n (x := v1) dX12_isOpened_15 rfl ?_
      obtain ⟨g3, h⟩ := gd_e h
      refine r_iaload (a := 88) dX12_isOpened_16 ck88 nC88 (inr_IX g3) ?_
      obtain ⟨x4, S5, h6, h⟩ := bI_e h
      refine r_cSI (y := mX12_isOpen) (As := [.int (S.1 88 (ix v1))]) (rest := []) dX12_isOpened_17 qX12_192 kX12_isOpen rfl (okX12_isOpen N (S.1 88 (ix v1)) S x4 S5 h6) (by decide) hu rfl (Nat.le_of_ble_eq_true rfl) ?_
      refine r_if_ne (tgt := 29) dX12_isOpened_20 (by decide) (fun c7 => ?_) (fun c7 => ?_)
      · rw [if_neg c7] at h
        cases h
        exact k0
      · rw [if_pos c7] at h
        obtain ⟨x8, hx8⟩ : ∃ y : Int32, y = (v1 + (-1) : Int32) := ⟨_, rfl⟩
        replace h := lt_e hx8 h
        refine r_iinc (x := v1) (v := x8) (L' := [some (.ref 80), some (.int x8)]) dX12_isOpened_23 rfl (by rw [hx8]; rfl) (Nat.le_of_ble_eq_true rfl) rfl rfl ?_
        refine r_goto (tgt := 7) dX12_isOpened_26 (by decide) ?_
        exact ih _ _ _ _ h k0
def fX12_isOpened (N : Nat)  (S : PS) : Option (Int32 × PS) :=
  lt (((S.1 80 23) - 1) : Int32) fun x1 =>
  bT (fX12_isOpened_7 N  N x1 S) fun q9 =>
  lt (q9.1 : Int32) fun x10 =>
  lt (q9.2 : PS) fun S11 =>
  lt ((if x10 < 0 then 0 else 1) : Int32) fun x15 =>
  gd (b01 x15) <|
  some (x15, S11)
set_option maxHeartbeats 4000000 in
set_option maxRecDepth 100000 in
theorem okX12_isOpened (N : Nat)  (S : PS) (r : Int32) (T : PS) (h : fX12_isOpened N  S = some (r, T)) : CT mX12_isOpened 1 0 [.ref 80] S (qI r T) := by
  refine ct_of [some (.ref 80), none] rfl (fun _ => rfl) (fun _ => Nat.le_of_ble_eq_true rfl) ?_
  unfold fX12_isOpened at h
  refine r_aload_n (x := 80) dX12_isOpened_0 rfl ?_
  refine r_getfield (o := 80) (v := .int (S.1 80 23)) dX12_isOpened_1 lX12_189 ck80 nC80 rfl ?_
  refine r_iconst (v := 1) dX12_isOpened_4 rfl ?_
  refine r_isub dX12_isOpened_5 ?_
  refine r_topi (fun x1 hx1 => ?_)
  replace h := lt_e hx1 h
  refine r_istore_n (L' := [some (.ref 80), some (.int x1)]) dX12_isOpened_6 (Nat.le_of_ble_eq_true rfl) rfl rfl ?_
  obtain ⟨⟨x10, S11⟩, h13, h⟩ := bT_e h
  dsimp only at h
  replace h := pl_s (pl_s (h))
  refine okX12_isOpened_7 N  (qI r T) 0 (Nat.zero_le _) _ _ _ _ _ h13 ?_
  refine r_iload_n (x := x10) dX12_isOpened_29 rfl ?_
  obtain ⟨x15, hx15⟩ : ∃ y : Int32, y = ((if x10 < 0 then 0 else 1) : Int32) := ⟨_, rfl⟩
  replace h := lt_e hx15 h
  have keyx15 : WP [] mX12_isOpened 1 0 (qI r T) 38 [some (.ref 80), some (.int x10)] (.int x15 :: []) S11 0 := by
    obtain ⟨g16, h⟩ := gd_e h
    cases h
    exact r_zreturn dX12_isOpened_38 rfl (nar01 g16) (Nat.zero_le _) ⟨rfl, rfl⟩
  refine r_if_lt (tgt := 37) dX12_isOpened_30 (by decide) (fun c14 => ?_) (fun c14 => ?_)
  · refine r_iconst (v := 0) dX12_isOpened_37 rfl ?_
    exact r_tope (by rw [hx15, if_pos c14]) keyx15
  · refine r_iconst (v := 1) dX12_isOpened_33 rfl ?_
    refine r_goto (tgt := 38) dX12_isOpened_34 (by decide) ?_
    exact r_tope (by rw [hx15, if_neg c14]) keyx15
def fX12_closes (N : Nat)  (S : PS) : Option PS :=
  bV (fX12_drops N 0 S) fun S2 =>
  lt ((u2 S2.1 80 23 ((S2.1 80 23) - 1), S2.2) : PS) fun S4 =>
  lt ((u2 S4.1 80 24 ((S4.1 80 24) - 1), S4.2) : PS) fun S5 =>
  bV (fX12_goes N  S5) fun S7 =>
  some S7
set_option maxHeartbeats 4000000 in
set_option maxRecDepth 100000 in
theorem okX12_closes (N : Nat)  (S : PS) (T : PS) (h : fX12_closes N  S = some T) : CT mX12_closes 2 0 [.ref 80] S (qV T) := by
  refine ct_of [some (.ref 80)] rfl (fun _ => rfl) (fun _ => Nat.le_of_ble_eq_true rfl) ?_
  unfold fX12_closes at h
  refine r_aload_n (x := 80) dX12_closes_0 rfl ?_
  refine r_iconst (v := 0) dX12_closes_1 rfl ?_
  obtain ⟨S2, h3, h⟩ := bV_e h
  refine r_cVV (y := mX12_drops) (As := [.int 0]) (rest := []) dX12_closes_2 qX12_220 kX12_drops rfl ob80 vc12 rfl (okX12_drops N 0 S S2 h3) (by decide) (Nat.zero_le _) rfl (Nat.le_of_ble_eq_true rfl) ?_
  refine r_aload_n (x := 80) dX12_closes_5 rfl ?_
  refine r_dup_ref dX12_closes_6 ?_
  refine r_getfield (o := 80) (v := .int (S2.1 80 23)) dX12_closes_7 lX12_189 ck80 nC80 rfl ?_
  refine r_iconst (v := 1) dX12_closes_10 rfl ?_
  refine r_isub dX12_closes_11 ?_
  refine r_putI dX12_closes_12 lX12_189 ck80 nC80 ?_
  refine r_topS (fun S4 hS4 => ?_)
  replace h := lt_e hS4 h
  refine r_aload_n (x := 80) dX12_closes_15 rfl ?_
  refine r_dup_ref dX12_closes_16 ?_
  refine r_getfield (o := 80) (v := .int (S4.1 80 24)) dX12_closes_17 lX12_205 ck80 nC80 rfl ?_
  refine r_iconst (v := 1) dX12_closes_20 rfl ?_
  refine r_isub dX12_closes_21 ?_
  refine r_putI dX12_closes_22 lX12_205 ck80 nC80 ?_
  refine r_topS (fun S5 hS5 => ?_)
  replace h := lt_e hS5 h
  refine r_aload_n (x := 80) dX12_closes_25 rfl ?_
  obtain ⟨S7, h8, h⟩ := bV_e h
  refine r_cVV (y := mX12_goes) (As := []) (rest := []) dX12_closes_26 qX12_177 kX12_goes rfl ob80 vc12 rfl (okX12_goes N  S5 S7 h8) (by decide) (Nat.zero_le _) rfl (Nat.le_of_ble_eq_true rfl) ?_
  cases h
  exact r_return dX12_closes_29 rfl (Nat.zero_le _) ⟨rfl, rfl⟩
def fX12_expression_29 (N : Nat)  : Nat → Int32 → PS → Option (Int32 × PS)
  | 0, _, _ => none
  | n + 1, v1, S =>
    (if v1 = 0 then
      some (v1, S)
    else
      bI (fX12_isGood N  S) fun x14 S15 =>
      (if x14 = 0 then
        some (v1, S15)
      else
        bI (fX12_knownWord N  S15) fun x18 S19 =>
        (if x18 = 9 then
          lt ((if x18 = 9 then 2 else 1) : Int32) fun x23 =>
          bV (fX12_drops N x23 S19) fun S25 =>
          lt ((if x18 = 9 then 4 else 5) : Int32) fun x28 =>
          bV (fX12_waitsFor N x28 S25) fun S30 =>
          gd (inr (S30.1 80 24) 9) <|
          lt ((u2 S30.1 89 (ix (S30.1 80 24)) 0, S30.2) : PS) fun S33 =>
          bV (fX12_goes N  S33) fun S35 =>
          bV (fX12_operand N 1 S35) fun S38 =>
          fX12_expression_29 N  n v1 S38
        else
          (if x18 = 10 then
            lt ((if x18 = 9 then 2 else 1) : Int32) fun x377 =>
            bV (fX12_drops N x377 S19) fun S379 =>
            lt ((if x18 = 9 then 4 else 5) : Int32) fun x382 =>
            bV (fX12_waitsFor N x382 S379) fun S384 =>
            gd (inr (S384.1 80 24) 9) <|
            lt ((u2 S384.1 89 (ix (S384.1 80 24)) 0, S384.2) : PS) fun S387 =>
            bV (fX12_goes N  S387) fun S389 =>
            bV (fX12_operand N 1 S389) fun S392 =>
            fX12_expression_29 N  n v1 S392
          else
            bI (fX12_isSign N 60 S19) fun x41 S42 =>
            (if x41 = 0 then
              bI (fX12_isSign N 61 S42) fun x161 S162 =>
              (if x161 = 0 then
                bI (fX12_isSign N 43 S162) fun x165 S166 =>
                (if x165 = 0 then
                  bI (fX12_isSign N 45 S166) fun x186 S187 =>
                  (if x186 = 0 then
                    bI (fX12_isSign N 42 S187) fun x190 S191 =>
                    (if x190 = 0 then
                      bI (fX12_isSign N 47 S191) fun x211 S212 =>
                      (if x211 = 0 then
                        bI (fX12_isSign N 41 S212) fun x215 S216 =>
                        (if x215 = 0 then
                          fX12_expression_29 N  n 0 S216
                        else
                          bI (fX12_isOpened N  S216) fun x219 S220 =>
                          (if x219 = 0 then
                            fX12_expression_29 N  n 0 S220
                          else
                            bV (fX12_closes N  S220) fun S224 =>
                            fX12_expression_29 N  n v1 S224))
                      else
                        bV (fX12_drops N 6 S212) fun S227 =>
                        bI (fX12_isSign N 42 S227) fun x229 S230 =>
                        lt ((if x229 = 0 then 11 else 10) : Int32) fun x233 =>
                        bV (fX12_waitsFor N x233 S230) fun S235 =>
                        bV (fX12_goes N  S235) fun S238 =>
                        bV (fX12_operand N 0 S238) fun S241 =>
                        fX12_expression_29 N  n v1 S241)
                    else
                      bV (fX12_drops N 6 S191) fun S195 =>
                      bI (fX12_isSign N 42 S195) fun x197 S198 =>
                      lt ((if x197 = 0 then 11 else 10) : Int32) fun x201 =>
                      bV (fX12_waitsFor N x201 S198) fun S203 =>
                      bV (fX12_goes N  S203) fun S206 =>
                      bV (fX12_operand N 0 S206) fun S209 =>
                      fX12_expression_29 N  n v1 S209)
                  else
                    bV (fX12_drops N 5 S187) fun S244 =>
                    bI (fX12_isSign N 43 S244) fun x246 S247 =>
                    lt ((if x246 = 0 then 9 else 8) : Int32) fun x250 =>
                    bV (fX12_waitsFor N x250 S247) fun S252 =>
                    bV (fX12_goes N  S252) fun S255 =>
                    bV (fX12_operand N 0 S255) fun S258 =>
                    fX12_expression_29 N  n v1 S258)
                else
                  bV (fX12_drops N 5 S166) fun S170 =>
                  bI (fX12_isSign N 43 S170) fun x172 S173 =>
                  lt ((if x172 = 0 then 9 else 8) : Int32) fun x176 =>
                  bV (fX12_waitsFor N x176 S173) fun S178 =>
                  bV (fX12_goes N  S178) fun S181 =>
                  bV (fX12_operand N 0 S181) fun S184 =>
                  fX12_expression_29 N  n v1 S184)
              else
                gd (inr (S162.1 80 24) 9) <|
                (if (S162.1 89 (ix (S162.1 80 24))) = 0 then
                  bV (fX12_drops N 4 S162) fun S358 =>
                  bI (fX12_isSign N 60 S358) fun x360 S361 =>
                  lt ((if x360 = 0 then 7 else 6) : Int32) fun x364 =>
                  bV (fX12_waitsFor N x364 S361) fun S366 =>
                  gd (inr (S366.1 80 24) 9) <|
                  lt ((u2 S366.1 89 (ix (S366.1 80 24)) 1, S366.2) : PS) fun S369 =>
                  bV (fX12_goes N  S369) fun S371 =>
                  bV (fX12_operand N 0 S371) fun S374 =>
                  fX12_expression_29 N  n v1 S374
                else
                  bI (fX12_isSign N 43 S162) fun x262 S263 =>
                  (if x262 = 0 then
                    bI (fX12_isSign N 45 S263) fun x283 S284 =>
                    (if x283 = 0 then
                      bI (fX12_isSign N 42 S284) fun x287 S288 =>
                      (if x287 = 0 then
                        bI (fX12_isSign N 47 S288) fun x308 S309 =>
                        (if x308 = 0 then
                          bI (fX12_isSign N 41 S309) fun x312 S313 =>
                          (if x312 = 0 then
                            fX12_expression_29 N  n 0 S313
                          else
                            bI (fX12_isOpened N  S313) fun x316 S317 =>
                            (if x316 = 0 then
                              fX12_expression_29 N  n 0 S317
                            else
                              bV (fX12_closes N  S317) fun S321 =>
                              fX12_expression_29 N  n v1 S321))
                        else
                          bV (fX12_drops N 6 S309) fun S324 =>
                          bI (fX12_isSign N 42 S324) fun x326 S327 =>
                          lt ((if x326 = 0 then 11 else 10) : Int32) fun x330 =>
                          bV (fX12_waitsFor N x330 S327) fun S332 =>
                          bV (fX12_goes N  S332) fun S335 =>
                          bV (fX12_operand N 0 S335) fun S338 =>
                          fX12_expression_29 N  n v1 S338)
                      else
                        bV (fX12_drops N 6 S288) fun S292 =>
                        bI (fX12_isSign N 42 S292) fun x294 S295 =>
                        lt ((if x294 = 0 then 11 else 10) : Int32) fun x298 =>
                        bV (fX12_waitsFor N x298 S295) fun S300 =>
                        bV (fX12_goes N  S300) fun S303 =>
                        bV (fX12_operand N 0 S303) fun S306 =>
                        fX12_expression_29 N  n v1 S306)
                    else
                      bV (fX12_drops N 5 S284) fun S341 =>
                      bI (fX12_isSign N 43 S341) fun x343 S344 =>
                      lt ((if x343 = 0 then 9 else 8) : Int32) fun x347 =>
                      bV (fX12_waitsFor N x347 S344) fun S349 =>
                      bV (fX12_goes N  S349) fun S352 =>
                      bV (fX12_operand N 0 S352) fun S355 =>
                      fX12_expression_29 N  n v1 S355)
                  else
                    bV (fX12_drops N 5 S263) fun S267 =>
                    bI (fX12_isSign N 43 S267) fun x269 S270 =>
                    lt ((if x269 = 0 then 9 else 8) : Int32) fun x273 =>
                    bV (fX12_waitsFor N x273 S270) fun S275 =>
                    bV (fX12_goes N  S275) fun S278 =>
                    bV (fX12_operand N 0 S278) fun S281 =>
                    fX12_expression_29 N  n v1 S281)))
            else
              gd (inr (S42.1 80 24) 9) <|
              (if (S42.1 89 (ix (S42.1 80 24))) = 0 then
                bV (fX12_drops N 4 S42) fun S143 =>
                bI (fX12_isSign N 60 S143) fun x145 S146 =>
                lt ((if x145 = 0 then 7 else 6) : Int32) fun x149 =>
                bV (fX12_waitsFor N x149 S146) fun S151 =>
                gd (inr (S151.1 80 24) 9) <|
                lt ((u2 S151.1 89 (ix (S151.1 80 24)) 1, S151.2) : PS) fun S154 =>
                bV (fX12_goes N  S154) fun S156 =>
                bV (fX12_operand N 0 S156) fun S159 =>
                fX12_expression_29 N  n v1 S159
              else
                bI (fX12_isSign N 43 S42) fun x47 S48 =>
                (if x47 = 0 then
                  bI (fX12_isSign N 45 S48) fun x68 S69 =>
                  (if x68 = 0 then
                    bI (fX12_isSign N 42 S69) fun x72 S73 =>
                    (if x72 = 0 then
                      bI (fX12_isSign N 47 S73) fun x93 S94 =>
                      (if x93 = 0 then
                        bI (fX12_isSign N 41 S94) fun x97 S98 =>
                        (if x97 = 0 then
                          fX12_expression_29 N  n 0 S98
                        else
                          bI (fX12_isOpened N  S98) fun x101 S102 =>
                          (if x101 = 0 then
                            fX12_expression_29 N  n 0 S102
                          else
                            bV (fX12_closes N  S102) fun S106 =>
                            fX12_expression_29 N  n v1 S106))
                      else
                        bV (fX12_drops N 6 S94) fun S109 =>
                        bI (fX12_isSign N 42 S109) fun x111 S112 =>
                        lt ((if x111 = 0 then 11 else 10) : Int32) fun x115 =>
                        bV (fX12_waitsFor N x115 S112) fun S117 =>
                        bV (fX12_goes N  S117) fun S120 =>
                        bV (fX12_operand N 0 S120) fun S123 =>
                        fX12_expression_29 N  n v1 S123)
                    else
                      bV (fX12_drops N 6 S73) fun S77 =>
                      bI (fX12_isSign N 42 S77) fun x79 S80 =>
                      lt ((if x79 = 0 then 11 else 10) : Int32) fun x83 =>
                      bV (fX12_waitsFor N x83 S80) fun S85 =>
                      bV (fX12_goes N  S85) fun S88 =>
                      bV (fX12_operand N 0 S88) fun S91 =>
                      fX12_expression_29 N  n v1 S91)
                  else
                    bV (fX12_drops N 5 S69) fun S126 =>
                    bI (fX12_isSign N 43 S126) fun x128 S129 =>
                    lt ((if x128 = 0 then 9 else 8) : Int32) fun x132 =>
                    bV (fX12_waitsFor N x132 S129) fun S134 =>
                    bV (fX12_goes N  S134) fun S137 =>
                    bV (fX12_operand N 0 S137) fun S140 =>
                    fX12_expression_29 N  n v1 S140)
                else
                  bV (fX12_drops N 5 S48) fun S52 =>
                  bI (fX12_isSign N 43 S52) fun x54 S55 =>
                  lt ((if x54 = 0 then 9 else 8) : Int32) fun x58 =>
                  bV (fX12_waitsFor N x58 S55) fun S60 =>
                  bV (fX12_goes N  S60) fun S63 =>
                  bV (fX12_operand N 0 S63) fun S66 =>
                  fX12_expression_29 N  n v1 S66)))))))
set_option maxHeartbeats 4000000 in
set_option maxRecDepth 100000 in
theorem okX12_expression_29 (N : Nat)  (Q : OQ) (u : Nat) (hu : u ≤ 0) : ∀ (n : Nat) (v1 : Int32) (S : PS) (y1 : Int32) (T : PS), fX12_expression_29 N  n v1 S = some (y1, T) → WP [] mX12_expression 5 0 Q 325 [some (.ref 80), some (.int y1), none] [] T u → WP [] mX12_expression 5 0 Q 29 [some (.ref 80), some (.int v1), none] [] S u := by
  intro n
  induction n with
  | zero => intro v1 S y1 T h; rw [fX12_expression_29] at h; cases h
  | succ n ih =>
    intro v1 S y1 T h k0
    rw [fX12_expression_29] at h
    refine r_iload_n (x := v1) dX12_expression_29 rfl ?_
    refine r_if_eq (tgt := 325) dX12_expression_30 (by decide) (fun c13 => ?_) (fun c13 => ?_)
    · rw [if_pos c13] at h
      cases h
      exact k0
    · rw [if_neg c13] at h
      refine r_aload_n (x := 80) dX12_expression_33 rfl ?_
      obtain ⟨x14, S15, h16, h⟩ := bI_e h
      refine r_cVI (y := mX12_isGood) (As := []) (rest := []) dX12_expression_34 qX12_173 kX12_isGood rfl ob80 vc12 rfl (okX12_isGood N  S x14 S15 h16) (by decide) hu rfl (Nat.le_of_ble_eq_true rfl) ?_
      refine r_if_eq (tgt := 325) dX12_expression_37 (by decide) (fun c17 => ?_) (fun c17 => ?_)
      · rw [if_pos c17] at h
        cases h
        exact k0
      · rw [if_neg c17] at h
        refine r_aload_n (x := 80) dX12_expression_40 rfl ?_
        obtain ⟨x18, S19, h20, h⟩ := bI_e h
        refine r_cVI (y := mX12_knownWord) (As := []) (rest := []) dX12_expression_41 qX12_201 kX12_knownWord rfl ob80 vc12 rfl (okX12_knownWord N  S15 x18 S19 h20) (by decide) hu rfl (Nat.le_of_ble_eq_true rfl) ?_
        refine r_istore_n (L' := [some (.ref 80), some (.int v1), some (.int x18)]) dX12_expression_44 (Nat.le_of_ble_eq_true rfl) rfl rfl ?_
        refine r_iload_n (x := x18) dX12_expression_45 rfl ?_
        refine r_bipush (v := 9) dX12_expression_46 rfl ?_
        refine r_icmp_eq (tgt := 57) dX12_expression_48 (by decide) (fun c21 => ?_) (fun c21 => ?_)
        · rw [if_pos c21] at h
          refine r_aload_n (x := 80) dX12_expression_57 rfl ?_
          refine r_iload_n (x := x18) dX12_expression_58 rfl ?_
          refine r_bipush (v := 9) dX12_expression_59 rfl ?_
          obtain ⟨x23, hx23⟩ : ∃ y : Int32, y = ((if x18 = 9 then 2 else 1) : Int32) := ⟨_, rfl⟩
          replace h := lt_e hx23 h
          have keyx23 : WP [] mX12_expression 5 0 Q 69 [some (.ref 80), some (.int v1), some (.int x18)] (.int x23 :: [.ref 80]) S19 u := by
            obtain ⟨S25, h26, h⟩ := bV_e h
            refine r_cVV (y := mX12_drops) (As := [.int x23]) (rest := []) dX12_expression_69 qX12_220 kX12_drops rfl ob80 vc12 rfl (okX12_drops N x23 S19 S25 h26) (by decide) hu rfl (Nat.le_of_ble_eq_true rfl) ?_
            refine r_aload_n (x := 80) dX12_expression_72 rfl ?_
            refine r_iload_n (x := x18) dX12_expression_73 rfl ?_
            refine r_bipush (v := 9) dX12_expression_74 rfl ?_
            obtain ⟨x28, hx28⟩ : ∃ y : Int32, y = ((if x18 = 9 then 4 else 5) : Int32) := ⟨_, rfl⟩
            replace h := lt_e hx28 h
            have keyx28 : WP [] mX12_expression 5 0 Q 84 [some (.ref 80), some (.int v1), some (.int x18)] (.int x28 :: [.ref 80]) S25 u := by
              obtain ⟨S30, h31, h⟩ := bV_e h
              refine r_cVV (y := mX12_waitsFor) (As := [.int x28]) (rest := []) dX12_expression_84 qX12_211 kX12_waitsFor rfl ob80 vc12 rfl (okX12_waitsFor N x28 S25 S30 h31) (by decide) hu rfl (Nat.le_of_ble_eq_true rfl) ?_
              refine r_aload_n (x := 80) dX12_expression_87 rfl ?_
              refine r_getfield (o := 80) (v := .ref 89) dX12_expression_88 lX12_44 ck80 nC80 rfl ?_
              refine r_aload_n (x := 80) dX12_expression_91 rfl ?_
              refine r_getfield (o := 80) (v := .int (S30.1 80 24)) dX12_expression_92 lX12_205 ck80 nC80 rfl ?_
              refine r_iconst (v := 0) dX12_expression_95 rfl ?_
              obtain ⟨g32, h⟩ := gd_e h
              refine r_zastore (a := 89) dX12_expression_96 ck89 nC89 (inr_IX g32) (by decide) ?_
              refine r_topS (fun S33 hS33 => ?_)
              replace h := lt_e hS33 h
              refine r_aload_n (x := 80) dX12_expression_97 rfl ?_
              obtain ⟨S35, h36, h⟩ := bV_e h
              refine r_cVV (y := mX12_goes) (As := []) (rest := []) dX12_expression_98 qX12_177 kX12_goes rfl ob80 vc12 rfl (okX12_goes N  S33 S35 h36) (by decide) hu rfl (Nat.le_of_ble_eq_true rfl) ?_
              refine r_aload_n (x := 80) dX12_expression_101 rfl ?_
              refine r_iconst (v := 1) dX12_expression_102 rfl ?_
              obtain ⟨S38, h39, h⟩ := bV_e h
              refine r_cVV (y := mX12_operand) (As := [.int 1]) (rest := []) dX12_expression_103 qX12_223 kX12_operand rfl ob80 vc12 rfl (okX12_operand N 1 S35 S38 h39) (by decide) hu rfl (Nat.le_of_ble_eq_true rfl) ?_
              refine r_goto (tgt := 322) dX12_expression_106 (by decide) ?_
              refine r_goto (tgt := 29) dX12_expression_322 (by decide) ?_
              refine r_drop [true, true, false] rfl ?_
              exact ih _ _ _ _ h k0
            refine r_icmp_ne (tgt := 83) dX12_expression_76 (by decide) (fun c27 => ?_) (fun c27 => ?_)
            · refine r_iconst (v := 5) dX12_expression_83 rfl ?_
              exact r_tope (by rw [hx28, if_neg c27]) keyx28
            · refine r_iconst (v := 4) dX12_expression_79 rfl ?_
              refine r_goto (tgt := 84) dX12_expression_80 (by decide) ?_
              exact r_tope (by rw [hx28, if_pos c27]) keyx28
          refine r_icmp_ne (tgt := 68) dX12_expression_61 (by decide) (fun c22 => ?_) (fun c22 => ?_)
          · refine r_iconst (v := 1) dX12_expression_68 rfl ?_
            exact r_tope (by rw [hx23, if_neg c22]) keyx23
          · refine r_iconst (v := 2) dX12_expression_64 rfl ?_
            refine r_goto (tgt := 69) dX12_expression_65 (by decide) ?_
            exact r_tope (by rw [hx23, if_pos c22]) keyx23
        · rw [if_neg c21] at h
          refine r_iload_n (x := x18) dX12_expression_51 rfl ?_
          refine r_bipush (v := 10) dX12_expression_52 rfl ?_
          refine r_icmp_ne (tgt := 109) dX12_expression_54 (by decide) (fun c40 => ?_) (fun c40 => ?_)
          · rw [if_neg c40] at h
            refine r_aload_n (x := 80) dX12_expression_109 rfl ?_
            refine r_bipush (v := 60) dX12_expression_110 rfl ?_
            obtain ⟨x41, S42, h43, h⟩ := bI_e h
            refine r_cVI (y := mX12_isSign) (As := [.int 60]) (rest := []) dX12_expression_112 qX12_208 kX12_isSign rfl ob80 vc12 rfl (okX12_isSign N 60 S19 x41 S42 h43) (by decide) hu rfl (Nat.le_of_ble_eq_true rfl) ?_
            refine r_if_ne (tgt := 127) dX12_expression_115 (by decide) (fun c44 => ?_) (fun c44 => ?_)
            · rw [if_neg c44] at h
              refine r_aload_n (x := 80) dX12_expression_127 rfl ?_
              refine r_getfield (o := 80) (v := .ref 89) dX12_expression_128 lX12_44 ck80 nC80 rfl ?_
              refine r_aload_n (x := 80) dX12_expression_131 rfl ?_
              refine r_getfield (o := 80) (v := .int (S42.1 80 24)) dX12_expression_132 lX12_205 ck80 nC80 rfl ?_
              obtain ⟨g45, h⟩ := gd_e h
              refine r_zaload (a := 89) dX12_expression_135 ck89 nC89 (inr_IX g45) ?_
              refine r_if_ne (tgt := 186) dX12_expression_136 (by decide) (fun c46 => ?_) (fun c46 => ?_)
              · rw [if_neg c46] at h
                refine r_aload_n (x := 80) dX12_expression_186 rfl ?_
                refine r_bipush (v := 43) dX12_expression_187 rfl ?_
                obtain ⟨x47, S48, h49, h⟩ := bI_e h
                refine r_cVI (y := mX12_isSign) (As := [.int 43]) (rest := []) dX12_expression_189 qX12_208 kX12_isSign rfl ob80 vc12 rfl (okX12_isSign N 43 S42 x47 S48 h49) (by decide) hu rfl (Nat.le_of_ble_eq_true rfl) ?_
                refine r_if_ne (tgt := 204) dX12_expression_192 (by decide) (fun c50 => ?_) (fun c50 => ?_)
                · rw [if_neg c50] at h
                  refine r_aload_n (x := 80) dX12_expression_204 rfl ?_
                  refine r_iconst (v := 5) dX12_expression_205 rfl ?_
                  obtain ⟨S52, h53, h⟩ := bV_e h
                  refine r_cVV (y := mX12_drops) (As := [.int 5]) (rest := []) dX12_expression_206 qX12_220 kX12_drops rfl ob80 vc12 rfl (okX12_drops N 5 S48 S52 h53) (by decide) hu rfl (Nat.le_of_ble_eq_true rfl) ?_
                  refine r_aload_n (x := 80) dX12_expression_209 rfl ?_
                  refine r_aload_n (x := 80) dX12_expression_210 rfl ?_
                  refine r_bipush (v := 43) dX12_expression_211 rfl ?_
                  obtain ⟨x54, S55, h56, h⟩ := bI_e h
                  refine r_cVI (y := mX12_isSign) (As := [.int 43]) (rest := [.ref 80]) dX12_expression_213 qX12_208 kX12_isSign rfl ob80 vc12 rfl (okX12_isSign N 43 S52 x54 S55 h56) (by decide) hu rfl (Nat.le_of_ble_eq_true rfl) ?_
                  obtain ⟨x58, hx58⟩ : ∃ y : Int32, y = ((if x54 = 0 then 9 else 8) : Int32) := ⟨_, rfl⟩
                  replace h := lt_e hx58 h
                  have keyx58 : WP [] mX12_expression 5 0 Q 226 [some (.ref 80), some (.int v1), some (.int x18)] (.int x58 :: [.ref 80]) S55 u := by
                    obtain ⟨S60, h61, h⟩ := bV_e h
                    refine r_cVV (y := mX12_waitsFor) (As := [.int x58]) (rest := []) dX12_expression_226 qX12_211 kX12_waitsFor rfl ob80 vc12 rfl (okX12_waitsFor N x58 S55 S60 h61) (by decide) hu rfl (Nat.le_of_ble_eq_true rfl) ?_
                    refine r_aload_n (x := 80) dX12_expression_229 rfl ?_
                    obtain ⟨S63, h64, h⟩ := bV_e h
                    refine r_cVV (y := mX12_goes) (As := []) (rest := []) dX12_expression_230 qX12_177 kX12_goes rfl ob80 vc12 rfl (okX12_goes N  S60 S63 h64) (by decide) hu rfl (Nat.le_of_ble_eq_true rfl) ?_
                    refine r_aload_n (x := 80) dX12_expression_233 rfl ?_
                    refine r_iconst (v := 0) dX12_expression_234 rfl ?_
                    obtain ⟨S66, h67, h⟩ := bV_e h
                    refine r_cVV (y := mX12_operand) (As := [.int 0]) (rest := []) dX12_expression_235 qX12_223 kX12_operand rfl ob80 vc12 rfl (okX12_operand N 0 S63 S66 h67) (by decide) hu rfl (Nat.le_of_ble_eq_true rfl) ?_
                    refine r_goto (tgt := 322) dX12_expression_238 (by decide) ?_
                    refine r_goto (tgt := 29) dX12_expression_322 (by decide) ?_
                    refine r_drop [true, true, false] rfl ?_
                    exact ih _ _ _ _ h k0
                  refine r_if_eq (tgt := 224) dX12_expression_216 (by decide) (fun c57 => ?_) (fun c57 => ?_)
                  · refine r_bipush (v := 9) dX12_expression_224 rfl ?_
                    exact r_tope (by rw [hx58, if_pos c57]) keyx58
                  · refine r_bipush (v := 8) dX12_expression_219 rfl ?_
                    refine r_goto (tgt := 226) dX12_expression_221 (by decide) ?_
                    exact r_tope (by rw [hx58, if_neg c57]) keyx58
                · rw [if_pos c50] at h
                  refine r_aload_n (x := 80) dX12_expression_195 rfl ?_
                  refine r_bipush (v := 45) dX12_expression_196 rfl ?_
                  obtain ⟨x68, S69, h70, h⟩ := bI_e h
                  refine r_cVI (y := mX12_isSign) (As := [.int 45]) (rest := []) dX12_expression_198 qX12_208 kX12_isSign rfl ob80 vc12 rfl (okX12_isSign N 45 S48 x68 S69 h70) (by decide) hu rfl (Nat.le_of_ble_eq_true rfl) ?_
                  refine r_if_eq (tgt := 241) dX12_expression_201 (by decide) (fun c71 => ?_) (fun c71 => ?_)
                  · rw [if_pos c71] at h
                    refine r_aload_n (x := 80) dX12_expression_241 rfl ?_
                    refine r_bipush (v := 42) dX12_expression_242 rfl ?_
                    obtain ⟨x72, S73, h74, h⟩ := bI_e h
                    refine r_cVI (y := mX12_isSign) (As := [.int 42]) (rest := []) dX12_expression_244 qX12_208 kX12_isSign rfl ob80 vc12 rfl (okX12_isSign N 42 S69 x72 S73 h74) (by decide) hu rfl (Nat.le_of_ble_eq_true rfl) ?_
                    refine r_if_ne (tgt := 259) dX12_expression_247 (by decide) (fun c75 => ?_) (fun c75 => ?_)
                    · rw [if_neg c75] at h
                      refine r_aload_n (x := 80) dX12_expression_259 rfl ?_
                      refine r_bipush (v := 6) dX12_expression_260 rfl ?_
                      obtain ⟨S77, h78, h⟩ := bV_e h
                      refine r_cVV (y := mX12_drops) (As := [.int 6]) (rest := []) dX12_expression_262 qX12_220 kX12_drops rfl ob80 vc12 rfl (okX12_drops N 6 S73 S77 h78) (by decide) hu rfl (Nat.le_of_ble_eq_true rfl) ?_
                      refine r_aload_n (x := 80) dX12_expression_265 rfl ?_
                      refine r_aload_n (x := 80) dX12_expression_266 rfl ?_
                      refine r_bipush (v := 42) dX12_expression_267 rfl ?_
                      obtain ⟨x79, S80, h81, h⟩ := bI_e h
                      refine r_cVI (y := mX12_isSign) (As := [.int 42]) (rest := [.ref 80]) dX12_expression_269 qX12_208 kX12_isSign rfl ob80 vc12 rfl (okX12_isSign N 42 S77 x79 S80 h81) (by decide) hu rfl (Nat.le_of_ble_eq_true rfl) ?_
                      obtain ⟨x83, hx83⟩ : ∃ y : Int32, y = ((if x79 = 0 then 11 else 10) : Int32) := ⟨_, rfl⟩
                      replace h := lt_e hx83 h
                      have keyx83 : WP [] mX12_expression 5 0 Q 282 [some (.ref 80), some (.int v1), some (.int x18)] (.int x83 :: [.ref 80]) S80 u := by
                        obtain ⟨S85, h86, h⟩ := bV_e h
                        refine r_cVV (y := mX12_waitsFor) (As := [.int x83]) (rest := []) dX12_expression_282 qX12_211 kX12_waitsFor rfl ob80 vc12 rfl (okX12_waitsFor N x83 S80 S85 h86) (by decide) hu rfl (Nat.le_of_ble_eq_true rfl) ?_
                        refine r_aload_n (x := 80) dX12_expression_285 rfl ?_
                        obtain ⟨S88, h89, h⟩ := bV_e h
                        refine r_cVV (y := mX12_goes) (As := []) (rest := []) dX12_expression_286 qX12_177 kX12_goes rfl ob80 vc12 rfl (okX12_goes N  S85 S88 h89) (by decide) hu rfl (Nat.le_of_ble_eq_true rfl) ?_
                        refine r_aload_n (x := 80) dX12_expression_289 rfl ?_
                        refine r_iconst (v := 0) dX12_expression_290 rfl ?_
                        obtain ⟨S91, h92, h⟩ := bV_e h
                        refine r_cVV (y := mX12_operand) (As := [.int 0]) (rest := []) dX12_expression_291 qX12_223 kX12_operand rfl ob80 vc12 rfl (okX12_operand N 0 S88 S91 h92) (by decide) hu rfl (Nat.le_of_ble_eq_true rfl) ?_
                        refine r_goto (tgt := 322) dX12_expression_294 (by decide) ?_
                        refine r_goto (tgt := 29) dX12_expression_322 (by decide) ?_
                        refine r_drop [true, true, false] rfl ?_
                        exact ih _ _ _ _ h k0
                      refine r_if_eq (tgt := 280) dX12_expression_272 (by decide) (fun c82 => ?_) (fun c82 => ?_)
                      · refine r_bipush (v := 11) dX12_expression_280 rfl ?_
                        exact r_tope (by rw [hx83, if_pos c82]) keyx83
                      · refine r_bipush (v := 10) dX12_expression_275 rfl ?_
                        refine r_goto (tgt := 282) dX12_expression_277 (by decide) ?_
                        exact r_tope (by rw [hx83, if_neg c82]) keyx83
                    · rw [if_pos c75] at h
                      refine r_aload_n (x := 80) dX12_expression_250 rfl ?_
                      refine r_bipush (v := 47) dX12_expression_251 rfl ?_
                      obtain ⟨x93, S94, h95, h⟩ := bI_e h
                      refine r_cVI (y := mX12_isSign) (As := [.int 47]) (rest := []) dX12_expression_253 qX12_208 kX12_isSign rfl ob80 vc12 rfl (okX12_isSign N 47 S73 x93 S94 h95) (by decide) hu rfl (Nat.le_of_ble_eq_true rfl) ?_
                      refine r_if_eq (tgt := 297) dX12_expression_256 (by decide) (fun c96 => ?_) (fun c96 => ?_)
                      · rw [if_pos c96] at h
                        refine r_aload_n (x := 80) dX12_expression_297 rfl ?_
                        refine r_bipush (v := 41) dX12_expression_298 rfl ?_
                        obtain ⟨x97, S98, h99, h⟩ := bI_e h
                        refine r_cVI (y := mX12_isSign) (As := [.int 41]) (rest := []) dX12_expression_300 qX12_208 kX12_isSign rfl ob80 vc12 rfl (okX12_isSign N 41 S94 x97 S98 h99) (by decide) hu rfl (Nat.le_of_ble_eq_true rfl) ?_
                        refine r_if_eq (tgt := 320) dX12_expression_303 (by decide) (fun c100 => ?_) (fun c100 => ?_)
                        · rw [if_pos c100] at h
                          refine r_iconst (v := 0) dX12_expression_320 rfl ?_
                          refine r_istore_n (L' := [some (.ref 80), some (.int 0), some (.int x18)]) dX12_expression_321 (Nat.le_of_ble_eq_true rfl) rfl rfl ?_
                          refine r_goto (tgt := 29) dX12_expression_322 (by decide) ?_
                          refine r_drop [true, true, false] rfl ?_
                          exact ih _ _ _ _ h k0
                        · rw [if_neg c100] at h
                          refine r_aload_n (x := 80) dX12_expression_306 rfl ?_
                          obtain ⟨x101, S102, h103, h⟩ := bI_e h
                          refine r_cVI (y := mX12_isOpened) (As := []) (rest := []) dX12_expression_307 qX12_227 kX12_isOpened rfl ob80 vc12 rfl (okX12_isOpened N  S98 x101 S102 h103) (by decide) hu rfl (Nat.le_of_ble_eq_true rfl) ?_
                          refine r_if_eq (tgt := 320) dX12_expression_310 (by decide) (fun c104 => ?_) (fun c104 => ?_)
                          · rw [if_pos c104] at h
                            refine r_iconst (v := 0) dX12_expression_320 rfl ?_
                            refine r_istore_n (L' := [some (.ref 80), some (.int 0), some (.int x18)]) dX12_expression_321 (Nat.le_of_ble_eq_true rfl) rfl rfl ?_
                            refine r_goto (tgt := 29) dX12_expression_322 (by decide) ?_
                            refine r_drop [true, true, false] rfl ?_
                            exact ih _ _ _ _ h k0
                          · rw [if_neg c104] at h
                            refine r_aload_n (x := 80) dX12_expression_313 rfl ?_
                            obtain ⟨S106, h107, h⟩ := bV_e h
                            refine r_cVV (y := mX12_closes) (As := []) (rest := []) dX12_expression_314 qX12_230 kX12_closes rfl ob80 vc12 rfl (okX12_closes N  S102 S106 h107) (by decide) hu rfl (Nat.le_of_ble_eq_true rfl) ?_
                            refine r_goto (tgt := 322) dX12_expression_317 (by decide) ?_
                            refine r_goto (tgt := 29) dX12_expression_322 (by decide) ?_
                            refine r_drop [true, true, false] rfl ?_
                            exact ih _ _ _ _ h k0
                      · rw [if_neg c96] at h
                        refine r_aload_n (x := 80) dX12_expression_259 rfl ?_
                        refine r_bipush (v := 6) dX12_expression_260 rfl ?_
                        obtain ⟨S109, h110, h⟩ := bV_e h
                        refine r_cVV (y := mX12_drops) (As := [.int 6]) (rest := []) dX12_expression_262 qX12_220 kX12_drops rfl ob80 vc12 rfl (okX12_drops N 6 S94 S109 h110) (by decide) hu rfl (Nat.le_of_ble_eq_true rfl) ?_
                        refine r_aload_n (x := 80) dX12_expression_265 rfl ?_
                        refine r_aload_n (x := 80) dX12_expression_266 rfl ?_
                        refine r_bipush (v := 42) dX12_expression_267 rfl ?_
                        obtain ⟨x111, S112, h113, h⟩ := bI_e h
                        refine r_cVI (y := mX12_isSign) (As := [.int 42]) (rest := [.ref 80]) dX12_expression_269 qX12_208 kX12_isSign rfl ob80 vc12 rfl (okX12_isSign N 42 S109 x111 S112 h113) (by decide) hu rfl (Nat.le_of_ble_eq_true rfl) ?_
                        obtain ⟨x115, hx115⟩ : ∃ y : Int32, y = ((if x111 = 0 then 11 else 10) : Int32) := ⟨_, rfl⟩
                        replace h := lt_e hx115 h
                        have keyx115 : WP [] mX12_expression 5 0 Q 282 [some (.ref 80), some (.int v1), some (.int x18)] (.int x115 :: [.ref 80]) S112 u := by
                          obtain ⟨S117, h118, h⟩ := bV_e h
                          refine r_cVV (y := mX12_waitsFor) (As := [.int x115]) (rest := []) dX12_expression_282 qX12_211 kX12_waitsFor rfl ob80 vc12 rfl (okX12_waitsFor N x115 S112 S117 h118) (by decide) hu rfl (Nat.le_of_ble_eq_true rfl) ?_
                          refine r_aload_n (x := 80) dX12_expression_285 rfl ?_
                          obtain ⟨S120, h121, h⟩ := bV_e h
                          refine r_cVV (y := mX12_goes) (As := []) (rest := []) dX12_expression_286 qX12_177 kX12_goes rfl ob80 vc12 rfl (okX12_goes N  S117 S120 h121) (by decide) hu rfl (Nat.le_of_ble_eq_true rfl) ?_
                          refine r_aload_n (x := 80) dX12_expression_289 rfl ?_
                          refine r_iconst (v := 0) dX12_expression_290 rfl ?_
                          obtain ⟨S123, h124, h⟩ := bV_e h
                          refine r_cVV (y := mX12_operand) (As := [.int 0]) (rest := []) dX12_expression_291 qX12_223 kX12_operand rfl ob80 vc12 rfl (okX12_operand N 0 S120 S123 h124) (by decide) hu rfl (Nat.le_of_ble_eq_true rfl) ?_
                          refine r_goto (tgt := 322) dX12_expression_294 (by decide) ?_
                          refine r_goto (tgt := 29) dX12_expression_322 (by decide) ?_
                          refine r_drop [true, true, false] rfl ?_
                          exact ih _ _ _ _ h k0
                        refine r_if_eq (tgt := 280) dX12_expression_272 (by decide) (fun c114 => ?_) (fun c114 => ?_)
                        · refine r_bipush (v := 11) dX12_expression_280 rfl ?_
                          exact r_tope (by rw [hx115, if_pos c114]) keyx115
                        · refine r_bipush (v := 10) dX12_expression_275 rfl ?_
                          refine r_goto (tgt := 282) dX12_expression_277 (by decide) ?_
                          exact r_tope (by rw [hx115, if_neg c114]) keyx115
                  · rw [if_neg c71] at h
                    refine r_aload_n (x := 80) dX12_expression_204 rfl ?_
                    refine r_iconst (v := 5) dX12_expression_205 rfl ?_
                    obtain ⟨S126, h127, h⟩ := bV_e h
                    refine r_cVV (y := mX12_drops) (As := [.int 5]) (rest := []) dX12_expression_206 qX12_220 kX12_drops rfl ob80 vc12 rfl (okX12_drops N 5 S69 S126 h127) (by decide) hu rfl (Nat.le_of_ble_eq_true rfl) ?_
                    refine r_aload_n (x := 80) dX12_expression_209 rfl ?_
                    refine r_aload_n (x := 80) dX12_expression_210 rfl ?_
                    refine r_bipush (v := 43) dX12_expression_211 rfl ?_
                    obtain ⟨x128, S129, h130, h⟩ := bI_e h
                    refine r_cVI (y := mX12_isSign) (As := [.int 43]) (rest := [.ref 80]) dX12_expression_213 qX12_208 kX12_isSign rfl ob80 vc12 rfl (okX12_isSign N 43 S126 x128 S129 h130) (by decide) hu rfl (Nat.le_of_ble_eq_true rfl) ?_
                    obtain ⟨x132, hx132⟩ : ∃ y : Int32, y = ((if x128 = 0 then 9 else 8) : Int32) := ⟨_, rfl⟩
                    replace h := lt_e hx132 h
                    have keyx132 : WP [] mX12_expression 5 0 Q 226 [some (.ref 80), some (.int v1), some (.int x18)] (.int x132 :: [.ref 80]) S129 u := by
                      obtain ⟨S134, h135, h⟩ := bV_e h
                      refine r_cVV (y := mX12_waitsFor) (As := [.int x132]) (rest := []) dX12_expression_226 qX12_211 kX12_waitsFor rfl ob80 vc12 rfl (okX12_waitsFor N x132 S129 S134 h135) (by decide) hu rfl (Nat.le_of_ble_eq_true rfl) ?_
                      refine r_aload_n (x := 80) dX12_expression_229 rfl ?_
                      obtain ⟨S137, h138, h⟩ := bV_e h
                      refine r_cVV (y := mX12_goes) (As := []) (rest := []) dX12_expression_230 qX12_177 kX12_goes rfl ob80 vc12 rfl (okX12_goes N  S134 S137 h138) (by decide) hu rfl (Nat.le_of_ble_eq_true rfl) ?_
                      refine r_aload_n (x := 80) dX12_expression_233 rfl ?_
                      refine r_iconst (v := 0) dX12_expression_234 rfl ?_
                      obtain ⟨S140, h141, h⟩ := bV_e h
                      refine r_cVV (y := mX12_operand) (As := [.int 0]) (rest := []) dX12_expression_235 qX12_223 kX12_operand rfl ob80 vc12 rfl (okX12_operand N 0 S137 S140 h141) (by decide) hu rfl (Nat.le_of_ble_eq_true rfl) ?_
                      refine r_goto (tgt := 322) dX12_expression_238 (by decide) ?_
                      refine r_goto (tgt := 29) dX12_expression_322 (by decide) ?_
                      refine r_drop [true, true, false] rfl ?_
                      exact ih _ _ _ _ h k0
                    refine r_if_eq (tgt := 224) dX12_expression_216 (by decide) (fun c131 => ?_) (fun c131 => ?_)
                    · refine r_bipush (v := 9) dX12_expression_224 rfl ?_
                      exact r_tope (by rw [hx132, if_pos c131]) keyx132
                    · refine r_bipush (v := 8) dX12_expression_219 rfl ?_
                      refine r_goto (tgt := 226) dX12_expression_221 (by decide) ?_
                      exact r_tope (by rw [hx132, if_neg c131]) keyx132
              · rw [if_pos c46] at h
                refine r_aload_n (x := 80) dX12_expression_139 rfl ?_
                refine r_iconst (v := 4) dX12_expression_140 rfl ?_
                obtain ⟨S143, h144, h⟩ := bV_e h
                refine r_cVV (y := mX12_drops) (As := [.int 4]) (rest := []) dX12_expression_141 qX12_220 kX12_drops rfl ob80 vc12 rfl (okX12_drops N 4 S42 S143 h144) (by decide) hu rfl (Nat.le_of_ble_eq_true rfl) ?_
                refine r_aload_n (x := 80) dX12_expression_144 rfl ?_
                refine r_aload_n (x := 80) dX12_expression_145 rfl ?_
                refine r_bipush (v := 60) dX12_expression_146 rfl ?_
                obtain ⟨x145, S146, h147, h⟩ := bI_e h
                refine r_cVI (y := mX12_isSign) (As := [.int 60]) (rest := [.ref 80]) dX12_expression_148 qX12_208 kX12_isSign rfl ob80 vc12 rfl (okX12_isSign N 60 S143 x145 S146 h147) (by decide) hu rfl (Nat.le_of_ble_eq_true rfl) ?_
                obtain ⟨x149, hx149⟩ : ∃ y : Int32, y = ((if x145 = 0 then 7 else 6) : Int32) := ⟨_, rfl⟩
                replace h := lt_e hx149 h
                have keyx149 : WP [] mX12_expression 5 0 Q 161 [some (.ref 80), some (.int v1), some (.int x18)] (.int x149 :: [.ref 80]) S146 u := by
                  obtain ⟨S151, h152, h⟩ := bV_e h
                  refine r_cVV (y := mX12_waitsFor) (As := [.int x149]) (rest := []) dX12_expression_161 qX12_211 kX12_waitsFor rfl ob80 vc12 rfl (okX12_waitsFor N x149 S146 S151 h152) (by decide) hu rfl (Nat.le_of_ble_eq_true rfl) ?_
                  refine r_aload_n (x := 80) dX12_expression_164 rfl ?_
                  refine r_getfield (o := 80) (v := .ref 89) dX12_expression_165 lX12_44 ck80 nC80 rfl ?_
                  refine r_aload_n (x := 80) dX12_expression_168 rfl ?_
                  refine r_getfield (o := 80) (v := .int (S151.1 80 24)) dX12_expression_169 lX12_205 ck80 nC80 rfl ?_
                  refine r_iconst (v := 1) dX12_expression_172 rfl ?_
                  obtain ⟨g153, h⟩ := gd_e h
                  refine r_zastore (a := 89) dX12_expression_173 ck89 nC89 (inr_IX g153) (by decide) ?_
                  refine r_topS (fun S154 hS154 => ?_)
                  replace h := lt_e hS154 h
                  refine r_aload_n (x := 80) dX12_expression_174 rfl ?_
                  obtain ⟨S156, h157, h⟩ := bV_e h
                  refine r_cVV (y := mX12_goes) (As := []) (rest := []) dX12_expression_175 qX12_177 kX12_goes rfl ob80 vc12 rfl (okX12_goes N  S154 S156 h157) (by decide) hu rfl (Nat.le_of_ble_eq_true rfl) ?_
                  refine r_aload_n (x := 80) dX12_expression_178 rfl ?_
                  refine r_iconst (v := 0) dX12_expression_179 rfl ?_
                  obtain ⟨S159, h160, h⟩ := bV_e h
                  refine r_cVV (y := mX12_operand) (As := [.int 0]) (rest := []) dX12_expression_180 qX12_223 kX12_operand rfl ob80 vc12 rfl (okX12_operand N 0 S156 S159 h160) (by decide) hu rfl (Nat.le_of_ble_eq_true rfl) ?_
                  refine r_goto (tgt := 322) dX12_expression_183 (by decide) ?_
                  refine r_goto (tgt := 29) dX12_expression_322 (by decide) ?_
                  refine r_drop [true, true, false] rfl ?_
                  exact ih _ _ _ _ h k0
                refine r_if_eq (tgt := 159) dX12_expression_151 (by decide) (fun c148 => ?_) (fun c148 => ?_)
                · refine r_bipush (v := 7) dX12_expression_159 rfl ?_
                  exact r_tope (by rw [hx149, if_pos c148]) keyx149
                · refine r_bipush (v := 6) dX12_expression_154 rfl ?_
                  refine r_goto (tgt := 161) dX12_expression_156 (by decide) ?_
                  exact r_tope (by rw [hx149, if_neg c148]) keyx149
            · rw [if_pos c44] at h
              refine r_aload_n (x := 80) dX12_expression_118 rfl ?_
              refine r_bipush (v := 61) dX12_expression_119 rfl ?_
              obtain ⟨x161, S162, h163, h⟩ := bI_e h
              refine r_cVI (y := mX12_isSign) (As := [.int 61]) (rest := []) dX12_expression_121 qX12_208 kX12_isSign rfl ob80 vc12 rfl (okX12_isSign N 61 S42 x161 S162 h163) (by decide) hu rfl (Nat.le_of_ble_eq_true rfl) ?_
              refine r_if_eq (tgt := 186) dX12_expression_124 (by decide) (fun c164 => ?_) (fun c164 => ?_)
              · rw [if_pos c164] at h
                refine r_aload_n (x := 80) dX12_expression_186 rfl ?_
                refine r_bipush (v := 43) dX12_expression_187 rfl ?_
                obtain ⟨x165, S166, h167, h⟩ := bI_e h
                refine r_cVI (y := mX12_isSign) (As := [.int 43]) (rest := []) dX12_expression_189 qX12_208 kX12_isSign rfl ob80 vc12 rfl (okX12_isSign N 43 S162 x165 S166 h167) (by decide) hu rfl (Nat.le_of_ble_eq_true rfl) ?_
                refine r_if_ne (tgt := 204) dX12_expression_192 (by decide) (fun c168 => ?_) (fun c168 => ?_)
                · rw [if_neg c168] at h
                  refine r_aload_n (x := 80) dX12_expression_204 rfl ?_
                  refine r_iconst (v := 5) dX12_expression_205 rfl ?_
                  obtain ⟨S170, h171, h⟩ := bV_e h
                  refine r_cVV (y := mX12_drops) (As := [.int 5]) (rest := []) dX12_expression_206 qX12_220 kX12_drops rfl ob80 vc12 rfl (okX12_drops N 5 S166 S170 h171) (by decide) hu rfl (Nat.le_of_ble_eq_true rfl) ?_
                  refine r_aload_n (x := 80) dX12_expression_209 rfl ?_
                  refine r_aload_n (x := 80) dX12_expression_210 rfl ?_
                  refine r_bipush (v := 43) dX12_expression_211 rfl ?_
                  obtain ⟨x172, S173, h174, h⟩ := bI_e h
                  refine r_cVI (y := mX12_isSign) (As := [.int 43]) (rest := [.ref 80]) dX12_expression_213 qX12_208 kX12_isSign rfl ob80 vc12 rfl (okX12_isSign N 43 S170 x172 S173 h174) (by decide) hu rfl (Nat.le_of_ble_eq_true rfl) ?_
                  obtain ⟨x176, hx176⟩ : ∃ y : Int32, y = ((if x172 = 0 then 9 else 8) : Int32) := ⟨_, rfl⟩
                  replace h := lt_e hx176 h
                  have keyx176 : WP [] mX12_expression 5 0 Q 226 [some (.ref 80), some (.int v1), some (.int x18)] (.int x176 :: [.ref 80]) S173 u := by
                    obtain ⟨S178, h179, h⟩ := bV_e h
                    refine r_cVV (y := mX12_waitsFor) (As := [.int x176]) (rest := []) dX12_expression_226 qX12_211 kX12_waitsFor rfl ob80 vc12 rfl (okX12_waitsFor N x176 S173 S178 h179) (by decide) hu rfl (Nat.le_of_ble_eq_true rfl) ?_
                    refine r_aload_n (x := 80) dX12_expression_229 rfl ?_
                    obtain ⟨S181, h182, h⟩ := bV_e h
                    refine r_cVV (y := mX12_goes) (As := []) (rest := []) dX12_expression_230 qX12_177 kX12_goes rfl ob80 vc12 rfl (okX12_goes N  S178 S181 h182) (by decide) hu rfl (Nat.le_of_ble_eq_true rfl) ?_
                    refine r_aload_n (x := 80) dX12_expression_233 rfl ?_
                    refine r_iconst (v := 0) dX12_expression_234 rfl ?_
                    obtain ⟨S184, h185, h⟩ := bV_e h
                    refine r_cVV (y := mX12_operand) (As := [.int 0]) (rest := []) dX12_expression_235 qX12_223 kX12_operand rfl ob80 vc12 rfl (okX12_operand N 0 S181 S184 h185) (by decide) hu rfl (Nat.le_of_ble_eq_true rfl) ?_
                    refine r_goto (tgt := 322) dX12_expression_238 (by decide) ?_
                    refine r_goto (tgt := 29) dX12_expression_322 (by decide) ?_
                    refine r_drop [true, true, false] rfl ?_
                    exact ih _ _ _ _ h k0
                  refine r_if_eq (tgt := 224) dX12_expression_216 (by decide) (fun c175 => ?_) (fun c175 => ?_)
                  · refine r_bipush (v := 9) dX12_expression_224 rfl ?_
                    exact r_tope (by rw [hx176, if_pos c175]) keyx176
                  · refine r_bipush (v := 8) dX12_expression_219 rfl ?_
                    refine r_goto (tgt := 226) dX12_expression_221 (by decide) ?_
                    exact r_tope (by rw [hx176, if_neg c175]) keyx176
                · rw [if_pos c168] at h
                  refine r_aload_n (x := 80) dX12_expression_195 rfl ?_
                  refine r_bipush (v := 45) dX12_expression_196 rfl ?_
                  obtain ⟨x186, S187, h188, h⟩ := bI_e h
                  refine r_cVI (y := mX12_isSign) (As := [.int 45]) (rest := []) dX12_expression_198 qX12_208 kX12_isSign rfl ob80 vc12 rfl (okX12_isSign N 45 S166 x186 S187 h188) (by decide) hu rfl (Nat.le_of_ble_eq_true rfl) ?_
                  refine r_if_eq (tgt := 241) dX12_expression_201 (by decide) (fun c189 => ?_) (fun c189 => ?_)
                  · rw [if_pos c189] at h
                    refine r_aload_n (x := 80) dX12_expression_241 rfl ?_
                    refine r_bipush (v := 42) dX12_expression_242 rfl ?_
                    obtain ⟨x190, S191, h192, h⟩ := bI_e h
                    refine r_cVI (y := mX12_isSign) (As := [.int 42]) (rest := []) dX12_expression_244 qX12_208 kX12_isSign rfl ob80 vc12 rfl (okX12_isSign N 42 S187 x190 S191 h192) (by decide) hu rfl (Nat.le_of_ble_eq_true rfl) ?_
                    refine r_if_ne (tgt := 259) dX12_expression_247 (by decide) (fun c193 => ?_) (fun c193 => ?_)
                    · rw [if_neg c193] at h
                      refine r_aload_n (x := 80) dX12_expression_259 rfl ?_
                      refine r_bipush (v := 6) dX12_expression_260 rfl ?_
                      obtain ⟨S195, h196, h⟩ := bV_e h
                      refine r_cVV (y := mX12_drops) (As := [.int 6]) (rest := []) dX12_expression_262 qX12_220 kX12_drops rfl ob80 vc12 rfl (okX12_drops N 6 S191 S195 h196) (by decide) hu rfl (Nat.le_of_ble_eq_true rfl) ?_
                      refine r_aload_n (x := 80) dX12_expression_265 rfl ?_
                      refine r_aload_n (x := 80) dX12_expression_266 rfl ?_
                      refine r_bipush (v := 42) dX12_expression_267 rfl ?_
                      obtain ⟨x197, S198, h199, h⟩ := bI_e h
                      refine r_cVI (y := mX12_isSign) (As := [.int 42]) (rest := [.ref 80]) dX12_expression_269 qX12_208 kX12_isSign rfl ob80 vc12 rfl (okX12_isSign N 42 S195 x197 S198 h199) (by decide) hu rfl (Nat.le_of_ble_eq_true rfl) ?_
                      obtain ⟨x201, hx201⟩ : ∃ y : Int32, y = ((if x197 = 0 then 11 else 10) : Int32) := ⟨_, rfl⟩
                      replace h := lt_e hx201 h
                      have keyx201 : WP [] mX12_expression 5 0 Q 282 [some (.ref 80), some (.int v1), some (.int x18)] (.int x201 :: [.ref 80]) S198 u := by
                        obtain ⟨S203, h204, h⟩ := bV_e h
                        refine r_cVV (y := mX12_waitsFor) (As := [.int x201]) (rest := []) dX12_expression_282 qX12_211 kX12_waitsFor rfl ob80 vc12 rfl (okX12_waitsFor N x201 S198 S203 h204) (by decide) hu rfl (Nat.le_of_ble_eq_true rfl) ?_
                        refine r_aload_n (x := 80) dX12_expression_285 rfl ?_
                        obtain ⟨S206, h207, h⟩ := bV_e h
                        refine r_cVV (y := mX12_goes) (As := []) (rest := []) dX12_expression_286 qX12_177 kX12_goes rfl ob80 vc12 rfl (okX12_goes N  S203 S206 h207) (by decide) hu rfl (Nat.le_of_ble_eq_true rfl) ?_
                        refine r_aload_n (x := 80) dX12_expression_289 rfl ?_
                        refine r_iconst (v := 0) dX12_expression_290 rfl ?_
                        obtain ⟨S209, h210, h⟩ := bV_e h
                        refine r_cVV (y := mX12_operand) (As := [.int 0]) (rest := []) dX12_expression_291 qX12_223 kX12_operand rfl ob80 vc12 rfl (okX12_operand N 0 S206 S209 h210) (by decide) hu rfl (Nat.le_of_ble_eq_true rfl) ?_
                        refine r_goto (tgt := 322) dX12_expression_294 (by decide) ?_
                        refine r_goto (tgt := 29) dX12_expression_322 (by decide) ?_
                        refine r_drop [true, true, false] rfl ?_
                        exact ih _ _ _ _ h k0
                      refine r_if_eq (tgt := 280) dX12_expression_272 (by decide) (fun c200 => ?_) (fun c200 => ?_)
                      · refine r_bipush (v := 11) dX12_expression_280 rfl ?_
                        exact r_tope (by rw [hx201, if_pos c200]) keyx201
                      · refine r_bipush (v := 10) dX12_expression_275 rfl ?_
                        refine r_goto (tgt := 282) dX12_expression_277 (by decide) ?_
                        exact r_tope (by rw [hx201, if_neg c200]) keyx201
                    · rw [if_pos c193] at h
                      refine r_aload_n (x := 80) dX12_expression_250 rfl ?_
                      refine r_bipush (v := 47) dX12_expression_251 rfl ?_
                      obtain ⟨x211, S212, h213, h⟩ := bI_e h
                      refine r_cVI (y := mX12_isSign) (As := [.int 47]) (rest := []) dX12_expression_253 qX12_208 kX12_isSign rfl ob80 vc12 rfl (okX12_isSign N 47 S191 x211 S212 h213) (by decide) hu rfl (Nat.le_of_ble_eq_true rfl) ?_
                      refine r_if_eq (tgt := 297) dX12_expression_256 (by decide) (fun c214 => ?_) (fun c214 => ?_)
                      · rw [if_pos c214] at h
                        refine r_aload_n (x := 80) dX12_expression_297 rfl ?_
                        refine r_bipush (v := 41) dX12_expression_298 rfl ?_
                        obtain ⟨x215, S216, h217, h⟩ := bI_e h
                        refine r_cVI (y := mX12_isSign) (As := [.int 41]) (rest := []) dX12_expression_300 qX12_208 kX12_isSign rfl ob80 vc12 rfl (okX12_isSign N 41 S212 x215 S216 h217) (by decide) hu rfl (Nat.le_of_ble_eq_true rfl) ?_
                        refine r_if_eq (tgt := 320) dX12_expression_303 (by decide) (fun c218 => ?_) (fun c218 => ?_)
                        · rw [if_pos c218] at h
                          refine r_iconst (v := 0) dX12_expression_320 rfl ?_
                          refine r_istore_n (L' := [some (.ref 80), some (.int 0), some (.int x18)]) dX12_expression_321 (Nat.le_of_ble_eq_true rfl) rfl rfl ?_
                          refine r_goto (tgt := 29) dX12_expression_322 (by decide) ?_
                          refine r_drop [true, true, false] rfl ?_
                          exact ih _ _ _ _ h k0
                        · rw [if_neg c218] at h
                          refine r_aload_n (x := 80) dX12_expression_306 rfl ?_
                          obtain ⟨x219, S220, h221, h⟩ := bI_e h
                          refine r_cVI (y := mX12_isOpened) (As := []) (rest := []) dX12_expression_307 qX12_227 kX12_isOpened rfl ob80 vc12 rfl (okX12_isOpened N  S216 x219 S220 h221) (by decide) hu rfl (Nat.le_of_ble_eq_true rfl) ?_
                          refine r_if_eq (tgt := 320) dX12_expression_310 (by decide) (fun c222 => ?_) (fun c222 => ?_)
                          · rw [if_pos c222] at h
                            refine r_iconst (v := 0) dX12_expression_320 rfl ?_
                            refine r_istore_n (L' := [some (.ref 80), some (.int 0), some (.int x18)]) dX12_expression_321 (Nat.le_of_ble_eq_true rfl) rfl rfl ?_
                            refine r_goto (tgt := 29) dX12_expression_322 (by decide) ?_
                            refine r_drop [true, true, false] rfl ?_
                            exact ih _ _ _ _ h k0
                          · rw [if_neg c222] at h
                            refine r_aload_n (x := 80) dX12_expression_313 rfl ?_
                            obtain ⟨S224, h225, h⟩ := bV_e h
                            refine r_cVV (y := mX12_closes) (As := []) (rest := []) dX12_expression_314 qX12_230 kX12_closes rfl ob80 vc12 rfl (okX12_closes N  S220 S224 h225) (by decide) hu rfl (Nat.le_of_ble_eq_true rfl) ?_
                            refine r_goto (tgt := 322) dX12_expression_317 (by decide) ?_
                            refine r_goto (tgt := 29) dX12_expression_322 (by decide) ?_
                            refine r_drop [true, true, false] rfl ?_
                            exact ih _ _ _ _ h k0
                      · rw [if_neg c214] at h
                        refine r_aload_n (x := 80) dX12_expression_259 rfl ?_
                        refine r_bipush (v := 6) dX12_expression_260 rfl ?_
                        obtain ⟨S227, h228, h⟩ := bV_e h
                        refine r_cVV (y := mX12_drops) (As := [.int 6]) (rest := []) dX12_expression_262 qX12_220 kX12_drops rfl ob80 vc12 rfl (okX12_drops N 6 S212 S227 h228) (by decide) hu rfl (Nat.le_of_ble_eq_true rfl) ?_
                        refine r_aload_n (x := 80) dX12_expression_265 rfl ?_
                        refine r_aload_n (x := 80) dX12_expression_266 rfl ?_
                        refine r_bipush (v := 42) dX12_expression_267 rfl ?_
                        obtain ⟨x229, S230, h231, h⟩ := bI_e h
                        refine r_cVI (y := mX12_isSign) (As := [.int 42]) (rest := [.ref 80]) dX12_expression_269 qX12_208 kX12_isSign rfl ob80 vc12 rfl (okX12_isSign N 42 S227 x229 S230 h231) (by decide) hu rfl (Nat.le_of_ble_eq_true rfl) ?_
                        obtain ⟨x233, hx233⟩ : ∃ y : Int32, y = ((if x229 = 0 then 11 else 10) : Int32) := ⟨_, rfl⟩
                        replace h := lt_e hx233 h
                        have keyx233 : WP [] mX12_expression 5 0 Q 282 [some (.ref 80), some (.int v1), some (.int x18)] (.int x233 :: [.ref 80]) S230 u := by
                          obtain ⟨S235, h236, h⟩ := bV_e h
                          refine r_cVV (y := mX12_waitsFor) (As := [.int x233]) (rest := []) dX12_expression_282 qX12_211 kX12_waitsFor rfl ob80 vc12 rfl (okX12_waitsFor N x233 S230 S235 h236) (by decide) hu rfl (Nat.le_of_ble_eq_true rfl) ?_
                          refine r_aload_n (x := 80) dX12_expression_285 rfl ?_
                          obtain ⟨S238, h239, h⟩ := bV_e h
                          refine r_cVV (y := mX12_goes) (As := []) (rest := []) dX12_expression_286 qX12_177 kX12_goes rfl ob80 vc12 rfl (okX12_goes N  S235 S238 h239) (by decide) hu rfl (Nat.le_of_ble_eq_true rfl) ?_
                          refine r_aload_n (x := 80) dX12_expression_289 rfl ?_
                          refine r_iconst (v := 0) dX12_expression_290 rfl ?_
                          obtain ⟨S241, h242, h⟩ := bV_e h
                          refine r_cVV (y := mX12_operand) (As := [.int 0]) (rest := []) dX12_expression_291 qX12_223 kX12_operand rfl ob80 vc12 rfl (okX12_operand N 0 S238 S241 h242) (by decide) hu rfl (Nat.le_of_ble_eq_true rfl) ?_
                          refine r_goto (tgt := 322) dX12_expression_294 (by decide) ?_
                          refine r_goto (tgt := 29) dX12_expression_322 (by decide) ?_
                          refine r_drop [true, true, false] rfl ?_
                          exact ih _ _ _ _ h k0
                        refine r_if_eq (tgt := 280) dX12_expression_272 (by decide) (fun c232 => ?_) (fun c232 => ?_)
                        · refine r_bipush (v := 11) dX12_expression_280 rfl ?_
                          exact r_tope (by rw [hx233, if_pos c232]) keyx233
                        · refine r_bipush (v := 10) dX12_expression_275 rfl ?_
                          refine r_goto (tgt := 282) dX12_expression_277 (by decide) ?_
                          exact r_tope (by rw [hx233, if_neg c232]) keyx233
                  · rw [if_neg c189] at h
                    refine r_aload_n (x := 80) dX12_expression_204 rfl ?_
                    refine r_iconst (v := 5) dX12_expression_205 rfl ?_
                    obtain ⟨S244, h245, h⟩ := bV_e h
                    refine r_cVV (y := mX12_drops) (As := [.int 5]) (rest := []) dX12_expression_206 qX12_220 kX12_drops rfl ob80 vc12 rfl (okX12_drops N 5 S187 S244 h245) (by decide) hu rfl (Nat.le_of_ble_eq_true rfl) ?_
                    refine r_aload_n (x := 80) dX12_expression_209 rfl ?_
                    refine r_aload_n (x := 80) dX12_expression_210 rfl ?_
                    refine r_bipush (v := 43) dX12_expression_211 rfl ?_
                    obtain ⟨x246, S247, h248, h⟩ := bI_e h
                    refine r_cVI (y := mX12_isSign) (As := [.int 43]) (rest := [.ref 80]) dX12_expression_213 qX12_208 kX12_isSign rfl ob80 vc12 rfl (okX12_isSign N 43 S244 x246 S247 h248) (by decide) hu rfl (Nat.le_of_ble_eq_true rfl) ?_
                    obtain ⟨x250, hx250⟩ : ∃ y : Int32, y = ((if x246 = 0 then 9 else 8) : Int32) := ⟨_, rfl⟩
                    replace h := lt_e hx250 h
                    have keyx250 : WP [] mX12_expression 5 0 Q 226 [some (.ref 80), some (.int v1), some (.int x18)] (.int x250 :: [.ref 80]) S247 u := by
                      obtain ⟨S252, h253, h⟩ := bV_e h
                      refine r_cVV (y := mX12_waitsFor) (As := [.int x250]) (rest := []) dX12_expression_226 qX12_211 kX12_waitsFor rfl ob80 vc12 rfl (okX12_waitsFor N x250 S247 S252 h253) (by decide) hu rfl (Nat.le_of_ble_eq_true rfl) ?_
                      refine r_aload_n (x := 80) dX12_expression_229 rfl ?_
                      obtain ⟨S255, h256, h⟩ := bV_e h
                      refine r_cVV (y := mX12_goes) (As := []) (rest := []) dX12_expression_230 qX12_177 kX12_goes rfl ob80 vc12 rfl (okX12_goes N  S252 S255 h256) (by decide) hu rfl (Nat.le_of_ble_eq_true rfl) ?_
                      refine r_aload_n (x := 80) dX12_expression_233 rfl ?_
                      refine r_iconst (v := 0) dX12_expression_234 rfl ?_
                      obtain ⟨S258, h259, h⟩ := bV_e h
                      refine r_cVV (y := mX12_operand) (As := [.int 0]) (rest := []) dX12_expression_235 qX12_223 kX12_operand rfl ob80 vc12 rfl (okX12_operand N 0 S255 S258 h259) (by decide) hu rfl (Nat.le_of_ble_eq_true rfl) ?_
                      refine r_goto (tgt := 322) dX12_expression_238 (by decide) ?_
                      refine r_goto (tgt := 29) dX12_expression_322 (by decide) ?_
                      refine r_drop [true, true, false] rfl ?_
                      exact ih _ _ _ _ h k0
                    refine r_if_eq (tgt := 224) dX12_expression_216 (by decide) (fun c249 => ?_) (fun c249 => ?_)
                    · refine r_bipush (v := 9) dX12_expression_224 rfl ?_
                      exact r_tope (by rw [hx250, if_pos c249]) keyx250
                    · refine r_bipush (v := 8) dX12_expression_219 rfl ?_
                      refine r_goto (tgt := 226) dX12_expression_221 (by decide) ?_
                      exact r_tope (by rw [hx250, if_neg c249]) keyx250
              · rw [if_neg c164] at h
                refine r_aload_n (x := 80) dX12_expression_127 rfl ?_
                refine r_getfield (o := 80) (v := .ref 89) dX12_expression_128 lX12_44 ck80 nC80 rfl ?_
                refine r_aload_n (x := 80) dX12_expression_131 rfl ?_
                refine r_getfield (o := 80) (v := .int (S162.1 80 24)) dX12_expression_132 lX12_205 ck80 nC80 rfl ?_
                obtain ⟨g260, h⟩ := gd_e h
                refine r_zaload (a := 89) dX12_expression_135 ck89 nC89 (inr_IX g260) ?_
                refine r_if_ne (tgt := 186) dX12_expression_136 (by decide) (fun c261 => ?_) (fun c261 => ?_)
                · rw [if_neg c261] at h
                  refine r_aload_n (x := 80) dX12_expression_186 rfl ?_
                  refine r_bipush (v := 43) dX12_expression_187 rfl ?_
                  obtain ⟨x262, S263, h264, h⟩ := bI_e h
                  refine r_cVI (y := mX12_isSign) (As := [.int 43]) (rest := []) dX12_expression_189 qX12_208 kX12_isSign rfl ob80 vc12 rfl (okX12_isSign N 43 S162 x262 S263 h264) (by decide) hu rfl (Nat.le_of_ble_eq_true rfl) ?_
                  refine r_if_ne (tgt := 204) dX12_expression_192 (by decide) (fun c265 => ?_) (fun c265 => ?_)
                  · rw [if_neg c265] at h
                    refine r_aload_n (x := 80) dX12_expression_204 rfl ?_
                    refine r_iconst (v := 5) dX12_expression_205 rfl ?_
                    obtain ⟨S267, h268, h⟩ := bV_e h
                    refine r_cVV (y := mX12_drops) (As := [.int 5]) (rest := []) dX12_expression_206 qX12_220 kX12_drops rfl ob80 vc12 rfl (okX12_drops N 5 S263 S267 h268) (by decide) hu rfl (Nat.le_of_ble_eq_true rfl) ?_
                    refine r_aload_n (x := 80) dX12_expression_209 rfl ?_
                    refine r_aload_n (x := 80) dX12_expression_210 rfl ?_
                    refine r_bipush (v := 43) dX12_expression_211 rfl ?_
                    obtain ⟨x269, S270, h271, h⟩ := bI_e h
                    refine r_cVI (y := mX12_isSign) (As := [.int 43]) (rest := [.ref 80]) dX12_expression_213 qX12_208 kX12_isSign rfl ob80 vc12 rfl (okX12_isSign N 43 S267 x269 S270 h271) (by decide) hu rfl (Nat.le_of_ble_eq_true rfl) ?_
                    obtain ⟨x273, hx273⟩ : ∃ y : Int32, y = ((if x269 = 0 then 9 else 8) : Int32) := ⟨_, rfl⟩
                    replace h := lt_e hx273 h
                    have keyx273 : WP [] mX12_expression 5 0 Q 226 [some (.ref 80), some (.int v1), some (.int x18)] (.int x273 :: [.ref 80]) S270 u := by
                      obtain ⟨S275, h276, h⟩ := bV_e h
                      refine r_cVV (y := mX12_waitsFor) (As := [.int x273]) (rest := []) dX12_expression_226 qX12_211 kX12_waitsFor rfl ob80 vc12 rfl (okX12_waitsFor N x273 S270 S275 h276) (by decide) hu rfl (Nat.le_of_ble_eq_true rfl) ?_
                      refine r_aload_n (x := 80) dX12_expression_229 rfl ?_
                      obtain ⟨S278, h279, h⟩ := bV_e h
                      refine r_cVV (y := mX12_goes) (As := []) (rest := []) dX12_expression_230 qX12_177 kX12_goes rfl ob80 vc12 rfl (okX12_goes N  S275 S278 h279) (by decide) hu rfl (Nat.le_of_ble_eq_true rfl) ?_
                      refine r_aload_n (x := 80) dX12_expression_233 rfl ?_
                      refine r_iconst (v := 0) dX12_expression_234 rfl ?_
                      obtain ⟨S281, h282, h⟩ := bV_e h
                      refine r_cVV (y := mX12_operand) (As := [.int 0]) (rest := []) dX12_expression_235 qX12_223 kX12_operand rfl ob80 vc12 rfl (okX12_operand N 0 S278 S281 h282) (by decide) hu rfl (Nat.le_of_ble_eq_true rfl) ?_
                      refine r_goto (tgt := 322) dX12_expression_238 (by decide) ?_
                      refine r_goto (tgt := 29) dX12_expression_322 (by decide) ?_
                      refine r_drop [true, true, false] rfl ?_
                      exact ih _ _ _ _ h k0
                    refine r_if_eq (tgt := 224) dX12_expression_216 (by decide) (fun c272 => ?_) (fun c272 => ?_)
                    · refine r_bipush (v := 9) dX12_expression_224 rfl ?_
                      exact r_tope (by rw [hx273, if_pos c272]) keyx273
                    · refine r_bipush (v := 8) dX12_expression_219 rfl ?_
                      refine r_goto (tgt := 226) dX12_expression_221 (by decide) ?_
                      exact r_tope (by rw [hx273, if_neg c272]) keyx273
                  · rw [if_pos c265] at h
                    refine r_aload_n (x := 80) dX12_expression_195 rfl ?_
                    refine r_bipush (v := 45) dX12_expression_196 rfl ?_
                    obtain ⟨x283, S284, h285, h⟩ := bI_e h
                    refine r_cVI (y := mX12_isSign) (As := [.int 45]) (rest := []) dX12_expression_198 qX12_208 kX12_isSign rfl ob80 vc12 rfl (okX12_isSign N 45 S263 x283 S284 h285) (by decide) hu rfl (Nat.le_of_ble_eq_true rfl) ?_
                    refine r_if_eq (tgt := 241) dX12_expression_201 (by decide) (fun c286 => ?_) (fun c286 => ?_)
                    · rw [if_pos c286] at h
                      refine r_aload_n (x := 80) dX12_expression_241 rfl ?_
                      refine r_bipush (v := 42) dX12_expression_242 rfl ?_
                      obtain ⟨x287, S288, h289, h⟩ := bI_e h
                      refine r_cVI (y := mX12_isSign) (As := [.int 42]) (rest := []) dX12_expression_244 qX12_208 kX12_isSign rfl ob80 vc12 rfl (okX12_isSign N 42 S284 x287 S288 h289) (by decide) hu rfl (Nat.le_of_ble_eq_true rfl) ?_
                      refine r_if_ne (tgt := 259) dX12_expression_247 (by decide) (fun c290 => ?_) (fun c290 => ?_)
                      · rw [if_neg c290] at h
                        refine r_aload_n (x := 80) dX12_expression_259 rfl ?_
                        refine r_bipush (v := 6) dX12_expression_260 rfl ?_
                        obtain ⟨S292, h293, h⟩ := bV_e h
                        refine r_cVV (y := mX12_drops) (As := [.int 6]) (rest := []) dX12_expression_262 qX12_220 kX12_drops rfl ob80 vc12 rfl (okX12_drops N 6 S288 S292 h293) (by decide) hu rfl (Nat.le_of_ble_eq_true rfl) ?_
                        refine r_aload_n (x := 80) dX12_expression_265 rfl ?_
                        refine r_aload_n (x := 80) dX12_expression_266 rfl ?_
                        refine r_bipush (v := 42) dX12_expression_267 rfl ?_
                        obtain ⟨x294, S295, h296, h⟩ := bI_e h
                        refine r_cVI (y := mX12_isSign) (As := [.int 42]) (rest := [.ref 80]) dX12_expression_269 qX12_208 kX12_isSign rfl ob80 vc12 rfl (okX12_isSign N 42 S292 x294 S295 h296) (by decide) hu rfl (Nat.le_of_ble_eq_true rfl) ?_
                        obtain ⟨x298, hx298⟩ : ∃ y : Int32, y = ((if x294 = 0 then 11 else 10) : Int32) := ⟨_, rfl⟩
                        replace h := lt_e hx298 h
                        have keyx298 : WP [] mX12_expression 5 0 Q 282 [some (.ref 80), some (.int v1), some (.int x18)] (.int x298 :: [.ref 80]) S295 u := by
                          obtain ⟨S300, h301, h⟩ := bV_e h
                          refine r_cVV (y := mX12_waitsFor) (As := [.int x298]) (rest := []) dX12_expression_282 qX12_211 kX12_waitsFor rfl ob80 vc12 rfl (okX12_waitsFor N x298 S295 S300 h301) (by decide) hu rfl (Nat.le_of_ble_eq_true rfl) ?_
                          refine r_aload_n (x := 80) dX12_expression_285 rfl ?_
                          obtain ⟨S303, h304, h⟩ := bV_e h
                          refine r_cVV (y := mX12_goes) (As := []) (rest := []) dX12_expression_286 qX12_177 kX12_goes rfl ob80 vc12 rfl (okX12_goes N  S300 S303 h304) (by decide) hu rfl (Nat.le_of_ble_eq_true rfl) ?_
                          refine r_aload_n (x := 80) dX12_expression_289 rfl ?_
                          refine r_iconst (v := 0) dX12_expression_290 rfl ?_
                          obtain ⟨S306, h307, h⟩ := bV_e h
                          refine r_cVV (y := mX12_operand) (As := [.int 0]) (rest := []) dX12_expression_291 qX12_223 kX12_operand rfl ob80 vc12 rfl (okX12_operand N 0 S303 S306 h307) (by decide) hu rfl (Nat.le_of_ble_eq_true rfl) ?_
                          refine r_goto (tgt := 322) dX12_expression_294 (by decide) ?_
                          refine r_goto (tgt := 29) dX12_expression_322 (by decide) ?_
                          refine r_drop [true, true, false] rfl ?_
                          exact ih _ _ _ _ h k0
                        refine r_if_eq (tgt := 280) dX12_expression_272 (by decide) (fun c297 => ?_) (fun c297 => ?_)
                        · refine r_bipush (v := 11) dX12_expression_280 rfl ?_
                          exact r_tope (by rw [hx298, if_pos c297]) keyx298
                        · refine r_bipush (v := 10) dX12_expression_275 rfl ?_
                          refine r_goto (tgt := 282) dX12_expression_277 (by decide) ?_
                          exact r_tope (by rw [hx298, if_neg c297]) keyx298
                      · rw [if_pos c290] at h
                        refine r_aload_n (x := 80) dX12_expression_250 rfl ?_
                        refine r_bipush (v := 47) dX12_expression_251 rfl ?_
                        obtain ⟨x308, S309, h310, h⟩ := bI_e h
                        refine r_cVI (y := mX12_isSign) (As := [.int 47]) (rest := []) dX12_expression_253 qX12_208 kX12_isSign rfl ob80 vc12 rfl (okX12_isSign N 47 S288 x308 S309 h310) (by decide) hu rfl (Nat.le_of_ble_eq_true rfl) ?_
                        refine r_if_eq (tgt := 297) dX12_expression_256 (by decide) (fun c311 => ?_) (fun c311 => ?_)
                        · rw [if_pos c311] at h
                          refine r_aload_n (x := 80) dX12_expression_297 rfl ?_
                          refine r_bipush (v := 41) dX12_expression_298 rfl ?_
                          obtain ⟨x312, S313, h314, h⟩ := bI_e h
                          refine r_cVI (y := mX12_isSign) (As := [.int 41]) (rest := []) dX12_expression_300 qX12_208 kX12_isSign rfl ob80 vc12 rfl (okX12_isSign N 41 S309 x312 S313 h314) (by decide) hu rfl (Nat.le_of_ble_eq_true rfl) ?_
                          refine r_if_eq (tgt := 320) dX12_expression_303 (by decide) (fun c315 => ?_) (fun c315 => ?_)
                          · rw [if_pos c315] at h
                            refine r_iconst (v := 0) dX12_expression_320 rfl ?_
                            refine r_istore_n (L' := [some (.ref 80), some (.int 0), some (.int x18)]) dX12_expression_321 (Nat.le_of_ble_eq_true rfl) rfl rfl ?_
                            refine r_goto (tgt := 29) dX12_expression_322 (by decide) ?_
                            refine r_drop [true, true, false] rfl ?_
                            exact ih _ _ _ _ h k0
                          · rw [if_neg c315] at h
                            refine r_aload_n (x := 80) dX12_expression_306 rfl ?_
                            obtain ⟨x316, S317, h318, h⟩ := bI_e h
                            refine r_cVI (y := mX12_isOpened) (As := []) (rest := []) dX12_expression_307 qX12_227 kX12_isOpened rfl ob80 vc12 rfl (okX12_isOpened N  S313 x316 S317 h318) (by decide) hu rfl (Nat.le_of_ble_eq_true rfl) ?_
                            refine r_if_eq (tgt := 320) dX12_expression_310 (by decide) (fun c319 => ?_) (fun c319 => ?_)
                            · rw [if_pos c319] at h
                              refine r_iconst (v := 0) dX12_expression_320 rfl ?_
                              refine r_istore_n (L' := [some (.ref 80), some (.int 0), some (.int x18)]) dX12_expression_321 (Nat.le_of_ble_eq_true rfl) rfl rfl ?_
                              refine r_goto (tgt := 29) dX12_expression_322 (by decide) ?_
                              refine r_drop [true, true, false] rfl ?_
                              exact ih _ _ _ _ h k0
                            · rw [if_neg c319] at h
                              refine r_aload_n (x := 80) dX12_expression_313 rfl ?_
                              obtain ⟨S321, h322, h⟩ := bV_e h
                              refine r_cVV (y := mX12_closes) (As := []) (rest := []) dX12_expression_314 qX12_230 kX12_closes rfl ob80 vc12 rfl (okX12_closes N  S317 S321 h322) (by decide) hu rfl (Nat.le_of_ble_eq_true rfl) ?_
                              refine r_goto (tgt := 322) dX12_expression_317 (by decide) ?_
                              refine r_goto (tgt := 29) dX12_expression_322 (by decide) ?_
                              refine r_drop [true, true, false] rfl ?_
                              exact ih _ _ _ _ h k0
                        · rw [if_neg c311] at h
                          refine r_aload_n (x := 80) dX12_expression_259 rfl ?_
                          refine r_bipush (v := 6) dX12_expression_260 rfl ?_
                          obtain ⟨S324, h325, h⟩ := bV_e h
                          refine r_cVV (y := mX12_drops) (As := [.int 6]) (rest := []) dX12_expression_262 qX12_220 kX12_drops rfl ob80 vc12 rfl (okX12_drops N 6 S309 S324 h325) (by decide) hu rfl (Nat.le_of_ble_eq_true rfl) ?_
                          refine r_aload_n (x := 80) dX12_expression_265 rfl ?_
                          refine r_aload_n (x := 80) dX12_expression_266 rfl ?_
                          refine r_bipush (v := 42) dX12_expression_267 rfl ?_
                          obtain ⟨x326, S327, h328, h⟩ := bI_e h
                          refine r_cVI (y := mX12_isSign) (As := [.int 42]) (rest := [.ref 80]) dX12_expression_269 qX12_208 kX12_isSign rfl ob80 vc12 rfl (okX12_isSign N 42 S324 x326 S327 h328) (by decide) hu rfl (Nat.le_of_ble_eq_true rfl) ?_
                          obtain ⟨x330, hx330⟩ : ∃ y : Int32, y = ((if x326 = 0 then 11 else 10) : Int32) := ⟨_, rfl⟩
                          replace h := lt_e hx330 h
                          have keyx330 : WP [] mX12_expression 5 0 Q 282 [some (.ref 80), some (.int v1), some (.int x18)] (.int x330 :: [.ref 80]) S327 u := by
                            obtain ⟨S332, h333, h⟩ := bV_e h
                            refine r_cVV (y := mX12_waitsFor) (As := [.int x330]) (rest := []) dX12_expression_282 qX12_211 kX12_waitsFor rfl ob80 vc12 rfl (okX12_waitsFor N x330 S327 S332 h333) (by decide) hu rfl (Nat.le_of_ble_eq_true rfl) ?_
                            refine r_aload_n (x := 80) dX12_expression_285 rfl ?_
                            obtain ⟨S335, h336, h⟩ := bV_e h
                            refine r_cVV (y := mX12_goes) (As := []) (rest := []) dX12_expression_286 qX12_177 kX12_goes rfl ob80 vc12 rfl (okX12_goes N  S332 S335 h336) (by decide) hu rfl (Nat.le_of_ble_eq_true rfl) ?_
                            refine r_aload_n (x := 80) dX12_expression_289 rfl ?_
                            refine r_iconst (v := 0) dX12_expression_290 rfl ?_
                            obtain ⟨S338, h339, h⟩ := bV_e h
                            refine r_cVV (y := mX12_operand) (As := [.int 0]) (rest := []) dX12_expression_291 qX12_223 kX12_operand rfl ob80 vc12 rfl (okX12_operand N 0 S335 S338 h339) (by decide) hu rfl (Nat.le_of_ble_eq_true rfl) ?_
                            refine r_goto (tgt := 322) dX12_expression_294 (by decide) ?_
                            refine r_goto (tgt := 29) dX12_expression_322 (by decide) ?_
                            refine r_drop [true, true, false] rfl ?_
                            exact ih _ _ _ _ h k0
                          refine r_if_eq (tgt := 280) dX12_expression_272 (by decide) (fun c329 => ?_) (fun c329 => ?_)
                          · refine r_bipush (v := 11) dX12_expression_280 rfl ?_
                            exact r_tope (by rw [hx330, if_pos c329]) keyx330
                          · refine r_bipush (v := 10) dX12_expression_275 rfl ?_
                            refine r_goto (tgt := 282) dX12_expression_277 (by decide) ?_
                            exact r_tope (by rw [hx330, if_neg c329]) keyx330
                    · rw [if_neg c286] at h
                      refine r_aload_n (x := 80) dX12_expression_204 rfl ?_
                      refine r_iconst (v := 5) dX12_expression_205 rfl ?_
                      obtain ⟨S341, h342, h⟩ := bV_e h
                      refine r_cVV (y := mX12_drops) (As := [.int 5]) (rest := []) dX12_expression_206 qX12_220 kX12_drops rfl ob80 vc12 rfl (okX12_drops N 5 S284 S341 h342) (by decide) hu rfl (Nat.le_of_ble_eq_true rfl) ?_
                      refine r_aload_n (x := 80) dX12_expression_209 rfl ?_
                      refine r_aload_n (x := 80) dX12_expression_210 rfl ?_
                      refine r_bipush (v := 43) dX12_expression_211 rfl ?_
                      obtain ⟨x343, S344, h345, h⟩ := bI_e h
                      refine r_cVI (y := mX12_isSign) (As := [.int 43]) (rest := [.ref 80]) dX12_expression_213 qX12_208 kX12_isSign rfl ob80 vc12 rfl (okX12_isSign N 43 S341 x343 S344 h345) (by decide) hu rfl (Nat.le_of_ble_eq_true rfl) ?_
                      obtain ⟨x347, hx347⟩ : ∃ y : Int32, y = ((if x343 = 0 then 9 else 8) : Int32) := ⟨_, rfl⟩
                      replace h := lt_e hx347 h
                      have keyx347 : WP [] mX12_expression 5 0 Q 226 [some (.ref 80), some (.int v1), some (.int x18)] (.int x347 :: [.ref 80]) S344 u := by
                        obtain ⟨S349, h350, h⟩ := bV_e h
                        refine r_cVV (y := mX12_waitsFor) (As := [.int x347]) (rest := []) dX12_expression_226 qX12_211 kX12_waitsFor rfl ob80 vc12 rfl (okX12_waitsFor N x347 S344 S349 h350) (by decide) hu rfl (Nat.le_of_ble_eq_true rfl) ?_
                        refine r_aload_n (x := 80) dX12_expression_229 rfl ?_
                        obtain ⟨S352, h353, h⟩ := bV_e h
                        refine r_cVV (y := mX12_goes) (As := []) (rest := []) dX12_expression_230 qX12_177 kX12_goes rfl ob80 vc12 rfl (okX12_goes N  S349 S352 h353) (by decide) hu rfl (Nat.le_of_ble_eq_true rfl) ?_
                        refine r_aload_n (x := 80) dX12_expression_233 rfl ?_
                        refine r_iconst (v := 0) dX12_expression_234 rfl ?_
                        obtain ⟨S355, h356, h⟩ := bV_e h
                        refine r_cVV (y := mX12_operand) (As := [.int 0]) (rest := []) dX12_expression_235 qX12_223 kX12_operand rfl ob80 vc12 rfl (okX12_operand N 0 S352 S355 h356) (by decide) hu rfl (Nat.le_of_ble_eq_true rfl) ?_
                        refine r_goto (tgt := 322) dX12_expression_238 (by decide) ?_
                        refine r_goto (tgt := 29) dX12_expression_322 (by decide) ?_
                        refine r_drop [true, true, false] rfl ?_
                        exact ih _ _ _ _ h k0
                      refine r_if_eq (tgt := 224) dX12_expression_216 (by decide) (fun c346 => ?_) (fun c346 => ?_)
                      · refine r_bipush (v := 9) dX12_expression_224 rfl ?_
                        exact r_tope (by rw [hx347, if_pos c346]) keyx347
                      · refine r_bipush (v := 8) dX12_expression_219 rfl ?_
                        refine r_goto (tgt := 226) dX12_expression_221 (by decide) ?_
                        exact r_tope (by rw [hx347, if_neg c346]) keyx347
                · rw [if_pos c261] at h
                  refine r_aload_n (x := 80) dX12_expression_139 rfl ?_
                  refine r_iconst (v := 4) dX12_expression_140 rfl ?_
                  obtain ⟨S358, h359, h⟩ := bV_e h
                  refine r_cVV (y := mX12_drops) (As := [.int 4]) (rest := []) dX12_expression_141 qX12_220 kX12_drops rfl ob80 vc12 rfl (okX12_drops N 4 S162 S358 h359) (by decide) hu rfl (Nat.le_of_ble_eq_true rfl) ?_
                  refine r_aload_n (x := 80) dX12_expression_144 rfl ?_
                  refine r_aload_n (x := 80) dX12_expression_145 rfl ?_
                  refine r_bipush (v := 60) dX12_expression_146 rfl ?_
                  obtain ⟨x360, S361, h362, h⟩ := bI_e h
                  refine r_cVI (y := mX12_isSign) (As := [.int 60]) (rest := [.ref 80]) dX12_expression_148 qX12_208 kX12_isSign rfl ob80 vc12 rfl (okX12_isSign N 60 S358 x360 S361 h362) (by decide) hu rfl (Nat.le_of_ble_eq_true rfl) ?_
                  obtain ⟨x364, hx364⟩ : ∃ y : Int32, y = ((if x360 = 0 then 7 else 6) : Int32) := ⟨_, rfl⟩
                  replace h := lt_e hx364 h
                  have keyx364 : WP [] mX12_expression 5 0 Q 161 [some (.ref 80), some (.int v1), some (.int x18)] (.int x364 :: [.ref 80]) S361 u := by
                    obtain ⟨S366, h367, h⟩ := bV_e h
                    refine r_cVV (y := mX12_waitsFor) (As := [.int x364]) (rest := []) dX12_expression_161 qX12_211 kX12_waitsFor rfl ob80 vc12 rfl (okX12_waitsFor N x364 S361 S366 h367) (by decide) hu rfl (Nat.le_of_ble_eq_true rfl) ?_
                    refine r_aload_n (x := 80) dX12_expression_164 rfl ?_
                    refine r_getfield (o := 80) (v := .ref 89) dX12_expression_165 lX12_44 ck80 nC80 rfl ?_
                    refine r_aload_n (x := 80) dX12_expression_168 rfl ?_
                    refine r_getfield (o := 80) (v := .int (S366.1 80 24)) dX12_expression_169 lX12_205 ck80 nC80 rfl ?_
                    refine r_iconst (v := 1) dX12_expression_172 rfl ?_
                    obtain ⟨g368, h⟩ := gd_e h
                    refine r_zastore (a := 89) dX12_expression_173 ck89 nC89 (inr_IX g368) (by decide) ?_
                    refine r_topS (fun S369 hS369 => ?_)
                    replace h := lt_e hS369 h
                    refine r_aload_n (x := 80) dX12_expression_174 rfl ?_
                    obtain ⟨S371, h372, h⟩ := bV_e h
                    refine r_cVV (y := mX12_goes) (As := []) (rest := []) dX12_expression_175 qX12_177 kX12_goes rfl ob80 vc12 rfl (okX12_goes N  S369 S371 h372) (by decide) hu rfl (Nat.le_of_ble_eq_true rfl) ?_
                    refine r_aload_n (x := 80) dX12_expression_178 rfl ?_
                    refine r_iconst (v := 0) dX12_expression_179 rfl ?_
                    obtain ⟨S374, h375, h⟩ := bV_e h
                    refine r_cVV (y := mX12_operand) (As := [.int 0]) (rest := []) dX12_expression_180 qX12_223 kX12_operand rfl ob80 vc12 rfl (okX12_operand N 0 S371 S374 h375) (by decide) hu rfl (Nat.le_of_ble_eq_true rfl) ?_
                    refine r_goto (tgt := 322) dX12_expression_183 (by decide) ?_
                    refine r_goto (tgt := 29) dX12_expression_322 (by decide) ?_
                    refine r_drop [true, true, false] rfl ?_
                    exact ih _ _ _ _ h k0
                  refine r_if_eq (tgt := 159) dX12_expression_151 (by decide) (fun c363 => ?_) (fun c363 => ?_)
                  · refine r_bipush (v := 7) dX12_expression_159 rfl ?_
                    exact r_tope (by rw [hx364, if_pos c363]) keyx364
                  · refine r_bipush (v := 6) dX12_expression_154 rfl ?_
                    refine r_goto (tgt := 161) dX12_expression_156 (by decide) ?_
                    exact r_tope (by rw [hx364, if_neg c363]) keyx364
          · rw [if_pos c40] at h
            refine r_aload_n (x := 80) dX12_expression_57 rfl ?_
            refine r_iload_n (x := x18) dX12_expression_58 rfl ?_
            refine r_bipush (v := 9) dX12_expression_59 rfl ?_
            obtain ⟨x377, hx377⟩ : ∃ y : Int32, y = ((if x18 = 9 then 2 else 1) : Int32) := ⟨_, rfl⟩
            replace h := lt_e hx377 h
            have keyx377 : WP [] mX12_expression 5 0 Q 69 [some (.ref 80), some (.int v1), some (.int x18)] (.int x377 :: [.ref 80]) S19 u := by
              obtain ⟨S379, h380, h⟩ := bV_e h
              refine r_cVV (y := mX12_drops) (As := [.int x377]) (rest := []) dX12_expression_69 qX12_220 kX12_drops rfl ob80 vc12 rfl (okX12_drops N x377 S19 S379 h380) (by decide) hu rfl (Nat.le_of_ble_eq_true rfl) ?_
              refine r_aload_n (x := 80) dX12_expression_72 rfl ?_
              refine r_iload_n (x := x18) dX12_expression_73 rfl ?_
              refine r_bipush (v := 9) dX12_expression_74 rfl ?_
              obtain ⟨x382, hx382⟩ : ∃ y : Int32, y = ((if x18 = 9 then 4 else 5) : Int32) := ⟨_, rfl⟩
              replace h := lt_e hx382 h
              have keyx382 : WP [] mX12_expression 5 0 Q 84 [some (.ref 80), some (.int v1), some (.int x18)] (.int x382 :: [.ref 80]) S379 u := by
                obtain ⟨S384, h385, h⟩ := bV_e h
                refine r_cVV (y := mX12_waitsFor) (As := [.int x382]) (rest := []) dX12_expression_84 qX12_211 kX12_waitsFor rfl ob80 vc12 rfl (okX12_waitsFor N x382 S379 S384 h385) (by decide) hu rfl (Nat.le_of_ble_eq_true rfl) ?_
                refine r_aload_n (x := 80) dX12_expression_87 rfl ?_
                refine r_getfield (o := 80) (v := .ref 89) dX12_expression_88 lX12_44 ck80 nC80 rfl ?_
                refine r_aload_n (x := 80) dX12_expression_91 rfl ?_
                refine r_getfield (o := 80) (v := .int (S384.1 80 24)) dX12_expression_92 lX12_205 ck80 nC80 rfl ?_
                refine r_iconst (v := 0) dX12_expression_95 rfl ?_
                obtain ⟨g386, h⟩ := gd_e h
                refine r_zastore (a := 89) dX12_expression_96 ck89 nC89 (inr_IX g386) (by decide) ?_
                refine r_topS (fun S387 hS387 => ?_)
                replace h := lt_e hS387 h
                refine r_aload_n (x := 80) dX12_expression_97 rfl ?_
                obtain ⟨S389, h390, h⟩ := bV_e h
                refine r_cVV (y := mX12_goes) (As := []) (rest := []) dX12_expression_98 qX12_177 kX12_goes rfl ob80 vc12 rfl (okX12_goes N  S387 S389 h390) (by decide) hu rfl (Nat.le_of_ble_eq_true rfl) ?_
                refine r_aload_n (x := 80) dX12_expression_101 rfl ?_
                refine r_iconst (v := 1) dX12_expression_102 rfl ?_
                obtain ⟨S392, h393, h⟩ := bV_e h
                refine r_cVV (y := mX12_operand) (As := [.int 1]) (rest := []) dX12_expression_103 qX12_223 kX12_operand rfl ob80 vc12 rfl (okX12_operand N 1 S389 S392 h393) (by decide) hu rfl (Nat.le_of_ble_eq_true rfl) ?_
                refine r_goto (tgt := 322) dX12_expression_106 (by decide) ?_
                refine r_goto (tgt := 29) dX12_expression_322 (by decide) ?_
                refine r_drop [true, true, false] rfl ?_
                exact ih _ _ _ _ h k0
              refine r_icmp_ne (tgt := 83) dX12_expression_76 (by decide) (fun c381 => ?_) (fun c381 => ?_)
              · refine r_iconst (v := 5) dX12_expression_83 rfl ?_
                exact r_tope (by rw [hx382, if_neg c381]) keyx382
              · refine r_iconst (v := 4) dX12_expression_79 rfl ?_
                refine r_goto (tgt := 84) dX12_expression_80 (by decide) ?_
                exact r_tope (by rw [hx382, if_pos c381]) keyx382
            refine r_icmp_ne (tgt := 68) dX12_expression_61 (by decide) (fun c376 => ?_) (fun c376 => ?_)
            · refine r_iconst (v := 1) dX12_expression_68 rfl ?_
              exact r_tope (by rw [hx377, if_neg c376]) keyx377
            · refine r_iconst (v := 2) dX12_expression_64 rfl ?_
              refine r_goto (tgt := 69) dX12_expression_65 (by decide) ?_
              exact r_tope (by rw [hx377, if_pos c376]) keyx377
def fX12_expression (N : Nat)  (S : PS) : Option PS :=
  bI (fX12_isGood N  S) fun x1 S2 =>
  (if x1 = 0 then
    some S2
  else
    lt ((u2 S2.1 80 23 0, S2.2) : PS) fun S5 =>
    lt ((u2 S5.1 80 24 0, S5.2) : PS) fun S6 =>
    bV (fX12_deeper N  S6) fun S8 =>
    bV (fX12_operand N 1 S8) fun S11 =>
    bT (fX12_expression_29 N  N 1 S11) fun q394 =>
    lt (q394.1 : Int32) fun x395 =>
    lt (q394.2 : PS) fun S396 =>
    bI (fX12_isGood N  S396) fun x399 S400 =>
    (if x399 = 0 then
      bV (fX12_drops N 0 S400) fun S404 =>
      bV (fX12_puts N 0 S404) fun S407 =>
      some S407
    else
      (if (S400.1 80 24) ≤ 1 then
        bV (fX12_drops N 0 S400) fun S411 =>
        bV (fX12_puts N 0 S411) fun S414 =>
        some S414
      else
        bV (fX12_wrong N 1 S400) fun S417 =>
        bV (fX12_drops N 0 S417) fun S420 =>
        bV (fX12_puts N 0 S420) fun S423 =>
        some S423)))
set_option maxHeartbeats 4000000 in
set_option maxRecDepth 100000 in
theorem okX12_expression (N : Nat)  (S : PS) (T : PS) (h : fX12_expression N  S = some T) : CT mX12_expression 5 0 [.ref 80] S (qV T) := by
  refine ct_of [some (.ref 80), none, none] rfl (fun _ => rfl) (fun _ => Nat.le_of_ble_eq_true rfl) ?_
  unfold fX12_expression at h
  refine r_aload_n (x := 80) dX12_expression_0 rfl ?_
  obtain ⟨x1, S2, h3, h⟩ := bI_e h
  refine r_cVI (y := mX12_isGood) (As := []) (rest := []) dX12_expression_1 qX12_173 kX12_isGood rfl ob80 vc12 rfl (okX12_isGood N  S x1 S2 h3) (by decide) (Nat.zero_le _) rfl (Nat.le_of_ble_eq_true rfl) ?_
  refine r_if_ne (tgt := 8) dX12_expression_4 (by decide) (fun c4 => ?_) (fun c4 => ?_)
  · rw [if_neg c4] at h
    refine r_aload_n (x := 80) dX12_expression_8 rfl ?_
    refine r_iconst (v := 0) dX12_expression_9 rfl ?_
    refine r_putI dX12_expression_10 lX12_189 ck80 nC80 ?_
    refine r_topS (fun S5 hS5 => ?_)
    replace h := lt_e hS5 h
    refine r_aload_n (x := 80) dX12_expression_13 rfl ?_
    refine r_iconst (v := 0) dX12_expression_14 rfl ?_
    refine r_putI dX12_expression_15 lX12_205 ck80 nC80 ?_
    refine r_topS (fun S6 hS6 => ?_)
    replace h := lt_e hS6 h
    refine r_aload_n (x := 80) dX12_expression_18 rfl ?_
    obtain ⟨S8, h9, h⟩ := bV_e h
    refine r_cVV (y := mX12_deeper) (As := []) (rest := []) dX12_expression_19 qX12_214 kX12_deeper rfl ob80 vc12 rfl (okX12_deeper N  S6 S8 h9) (by decide) (Nat.zero_le _) rfl (Nat.le_of_ble_eq_true rfl) ?_
    refine r_aload_n (x := 80) dX12_expression_22 rfl ?_
    refine r_iconst (v := 1) dX12_expression_23 rfl ?_
    obtain ⟨S11, h12, h⟩ := bV_e h
    refine r_cVV (y := mX12_operand) (As := [.int 1]) (rest := []) dX12_expression_24 qX12_223 kX12_operand rfl ob80 vc12 rfl (okX12_operand N 1 S8 S11 h12) (by decide) (Nat.zero_le _) rfl (Nat.le_of_ble_eq_true rfl) ?_
    refine r_iconst (v := 1) dX12_expression_27 rfl ?_
    refine r_istore_n (L' := [some (.ref 80), some (.int 1), none]) dX12_expression_28 (Nat.le_of_ble_eq_true rfl) rfl rfl ?_
    obtain ⟨⟨x395, S396⟩, h398, h⟩ := bT_e h
    dsimp only at h
    replace h := pl_s (pl_s (h))
    refine okX12_expression_29 N  (qV T) 0 (Nat.zero_le _) _ _ _ _ _ h398 ?_
    refine r_aload_n (x := 80) dX12_expression_325 rfl ?_
    obtain ⟨x399, S400, h401, h⟩ := bI_e h
    refine r_cVI (y := mX12_isGood) (As := []) (rest := []) dX12_expression_326 qX12_173 kX12_isGood rfl ob80 vc12 rfl (okX12_isGood N  S396 x399 S400 h401) (by decide) (Nat.zero_le _) rfl (Nat.le_of_ble_eq_true rfl) ?_
    refine r_if_eq (tgt := 345) dX12_expression_329 (by decide) (fun c402 => ?_) (fun c402 => ?_)
    · rw [if_pos c402] at h
      refine r_aload_n (x := 80) dX12_expression_345 rfl ?_
      refine r_iconst (v := 0) dX12_expression_346 rfl ?_
      obtain ⟨S404, h405, h⟩ := bV_e h
      refine r_cVV (y := mX12_drops) (As := [.int 0]) (rest := []) dX12_expression_347 qX12_220 kX12_drops rfl ob80 vc12 rfl (okX12_drops N 0 S400 S404 h405) (by decide) (Nat.zero_le _) rfl (Nat.le_of_ble_eq_true rfl) ?_
      refine r_aload_n (x := 80) dX12_expression_350 rfl ?_
      refine r_iconst (v := 0) dX12_expression_351 rfl ?_
      obtain ⟨S407, h408, h⟩ := bV_e h
      refine r_cVV (y := mX12_puts) (As := [.int 0]) (rest := []) dX12_expression_352 qX12_198 kX12_puts rfl ob80 vc12 rfl (okX12_puts N 0 S404 S407 h408) (by decide) (Nat.zero_le _) rfl (Nat.le_of_ble_eq_true rfl) ?_
      cases h
      exact r_return dX12_expression_355 rfl (Nat.zero_le _) ⟨rfl, rfl⟩
    · rw [if_neg c402] at h
      refine r_aload_n (x := 80) dX12_expression_332 rfl ?_
      refine r_getfield (o := 80) (v := .int (S400.1 80 24)) dX12_expression_333 lX12_205 ck80 nC80 rfl ?_
      refine r_iconst (v := 1) dX12_expression_336 rfl ?_
      refine r_icmp_le (tgt := 345) dX12_expression_337 (by decide) (fun c409 => ?_) (fun c409 => ?_)
      · rw [if_pos c409] at h
        refine r_aload_n (x := 80) dX12_expression_345 rfl ?_
        refine r_iconst (v := 0) dX12_expression_346 rfl ?_
        obtain ⟨S411, h412, h⟩ := bV_e h
        refine r_cVV (y := mX12_drops) (As := [.int 0]) (rest := []) dX12_expression_347 qX12_220 kX12_drops rfl ob80 vc12 rfl (okX12_drops N 0 S400 S411 h412) (by decide) (Nat.zero_le _) rfl (Nat.le_of_ble_eq_true rfl) ?_
        refine r_aload_n (x := 80) dX12_expression_350 rfl ?_
        refine r_iconst (v := 0) dX12_expression_351 rfl ?_
        obtain ⟨S414, h415, h⟩ := bV_e h
        refine r_cVV (y := mX12_puts) (As := [.int 0]) (rest := []) dX12_expression_352 qX12_198 kX12_puts rfl ob80 vc12 rfl (okX12_puts N 0 S411 S414 h415) (by decide) (Nat.zero_le _) rfl (Nat.le_of_ble_eq_true rfl) ?_
        cases h
        exact r_return dX12_expression_355 rfl (Nat.zero_le _) ⟨rfl, rfl⟩
      · rw [if_neg c409] at h
        refine r_aload_n (x := 80) dX12_expression_340 rfl ?_
        refine r_iconst (v := 1) dX12_expression_341 rfl ?_
        obtain ⟨S417, h418, h⟩ := bV_e h
        refine r_cVV (y := mX12_wrong) (As := [.int 1]) (rest := []) dX12_expression_342 qX12_180 kX12_wrong rfl ob80 vc12 rfl (okX12_wrong N 1 S400 S417 h418) (by decide) (Nat.zero_le _) rfl (Nat.le_of_ble_eq_true rfl) ?_
        refine r_aload_n (x := 80) dX12_expression_345 rfl ?_
        refine r_iconst (v := 0) dX12_expression_346 rfl ?_
        obtain ⟨S420, h421, h⟩ := bV_e h
        refine r_cVV (y := mX12_drops) (As := [.int 0]) (rest := []) dX12_expression_347 qX12_220 kX12_drops rfl ob80 vc12 rfl (okX12_drops N 0 S417 S420 h421) (by decide) (Nat.zero_le _) rfl (Nat.le_of_ble_eq_true rfl) ?_
        refine r_aload_n (x := 80) dX12_expression_350 rfl ?_
        refine r_iconst (v := 0) dX12_expression_351 rfl ?_
        obtain ⟨S423, h424, h⟩ := bV_e h
        refine r_cVV (y := mX12_puts) (As := [.int 0]) (rest := []) dX12_expression_352 qX12_198 kX12_puts rfl ob80 vc12 rfl (okX12_puts N 0 S420 S423 h424) (by decide) (Nat.zero_le _) rfl (Nat.le_of_ble_eq_true rfl) ?_
        cases h
        exact r_return dX12_expression_355 rfl (Nat.zero_le _) ⟨rfl, rfl⟩
  · rw [if_pos c4] at h
    cases h
    exact r_return dX12_expression_7 rfl (Nat.zero_le _) ⟨rfl, rfl⟩
def fX12_begins (N : Nat) (p0 : Int32) (p1 : Int32) (S : PS) : Option (Int32 × PS) :=
  (if p0 = 0 then
    (if p1 = 0 then
      bI (fX12_isGood N  S) fun x3 S4 =>
      (if x3 = 0 then
        some (0, S4)
      else
        bV (fX12_goes N  S4) fun S8 =>
        some (1, S8))
    else
      bV (fX12_wrong N 5 S) fun S11 =>
      bI (fX12_isGood N  S11) fun x13 S14 =>
      (if x13 = 0 then
        some (0, S14)
      else
        bV (fX12_goes N  S14) fun S18 =>
        some (1, S18)))
  else
    bV (fX12_wrong N 2 S) fun S21 =>
    (if p1 = 0 then
      bI (fX12_isGood N  S21) fun x24 S25 =>
      (if x24 = 0 then
        some (0, S25)
      else
        bV (fX12_goes N  S25) fun S29 =>
        some (1, S29))
    else
      bV (fX12_wrong N 5 S21) fun S32 =>
      bI (fX12_isGood N  S32) fun x34 S35 =>
      (if x34 = 0 then
        some (0, S35)
      else
        bV (fX12_goes N  S35) fun S39 =>
        some (1, S39))))
set_option maxHeartbeats 4000000 in
set_option maxRecDepth 100000 in
theorem okX12_begins (N : Nat) (p0 : Int32) (p1 : Int32) (S : PS) (r : Int32) (T : PS) (h : fX12_begins N p0 p1 S = some (r, T)) : CT mX12_begins 2 0 [.ref 80, .int p0, .int p1] S (qI r T) := by
  refine ct_of [some (.ref 80), some (.int p0), some (.int p1)] rfl (fun _ => rfl) (fun _ => Nat.le_of_ble_eq_true rfl) ?_
  unfold fX12_begins at h
  refine r_iload_n (x := p0) dX12_begins_0 rfl ?_
  refine r_if_eq (tgt := 9) dX12_begins_1 (by decide) (fun c1 => ?_) (fun c1 => ?_)
  · rw [if_pos c1] at h
    refine r_iload_n (x := p1) dX12_begins_9 rfl ?_
    refine r_if_eq (tgt := 18) dX12_begins_10 (by decide) (fun c2 => ?_) (fun c2 => ?_)
    · rw [if_pos c2] at h
      refine r_aload_n (x := 80) dX12_begins_18 rfl ?_
      obtain ⟨x3, S4, h5, h⟩ := bI_e h
      refine r_cVI (y := mX12_isGood) (As := []) (rest := []) dX12_begins_19 qX12_173 kX12_isGood rfl ob80 vc12 rfl (okX12_isGood N  S x3 S4 h5) (by decide) (Nat.zero_le _) rfl (Nat.le_of_ble_eq_true rfl) ?_
      refine r_if_ne (tgt := 27) dX12_begins_22 (by decide) (fun c6 => ?_) (fun c6 => ?_)
      · rw [if_neg c6] at h
        refine r_aload_n (x := 80) dX12_begins_27 rfl ?_
        obtain ⟨S8, h9, h⟩ := bV_e h
        refine r_cVV (y := mX12_goes) (As := []) (rest := []) dX12_begins_28 qX12_177 kX12_goes rfl ob80 vc12 rfl (okX12_goes N  S4 S8 h9) (by decide) (Nat.zero_le _) rfl (Nat.le_of_ble_eq_true rfl) ?_
        refine r_iconst (v := 1) dX12_begins_31 rfl ?_
        cases h
        exact r_zreturn dX12_begins_32 rfl rfl (Nat.zero_le _) ⟨rfl, rfl⟩
      · rw [if_pos c6] at h
        refine r_iconst (v := 0) dX12_begins_25 rfl ?_
        cases h
        exact r_zreturn dX12_begins_26 rfl rfl (Nat.zero_le _) ⟨rfl, rfl⟩
    · rw [if_neg c2] at h
      refine r_aload_n (x := 80) dX12_begins_13 rfl ?_
      refine r_iconst (v := 5) dX12_begins_14 rfl ?_
      obtain ⟨S11, h12, h⟩ := bV_e h
      refine r_cVV (y := mX12_wrong) (As := [.int 5]) (rest := []) dX12_begins_15 qX12_180 kX12_wrong rfl ob80 vc12 rfl (okX12_wrong N 5 S S11 h12) (by decide) (Nat.zero_le _) rfl (Nat.le_of_ble_eq_true rfl) ?_
      refine r_aload_n (x := 80) dX12_begins_18 rfl ?_
      obtain ⟨x13, S14, h15, h⟩ := bI_e h
      refine r_cVI (y := mX12_isGood) (As := []) (rest := []) dX12_begins_19 qX12_173 kX12_isGood rfl ob80 vc12 rfl (okX12_isGood N  S11 x13 S14 h15) (by decide) (Nat.zero_le _) rfl (Nat.le_of_ble_eq_true rfl) ?_
      refine r_if_ne (tgt := 27) dX12_begins_22 (by decide) (fun c16 => ?_) (fun c16 => ?_)
      · rw [if_neg c16] at h
        refine r_aload_n (x := 80) dX12_begins_27 rfl ?_
        obtain ⟨S18, h19, h⟩ := bV_e h
        refine r_cVV (y := mX12_goes) (As := []) (rest := []) dX12_begins_28 qX12_177 kX12_goes rfl ob80 vc12 rfl (okX12_goes N  S14 S18 h19) (by decide) (Nat.zero_le _) rfl (Nat.le_of_ble_eq_true rfl) ?_
        refine r_iconst (v := 1) dX12_begins_31 rfl ?_
        cases h
        exact r_zreturn dX12_begins_32 rfl rfl (Nat.zero_le _) ⟨rfl, rfl⟩
      · rw [if_pos c16] at h
        refine r_iconst (v := 0) dX12_begins_25 rfl ?_
        cases h
        exact r_zreturn dX12_begins_26 rfl rfl (Nat.zero_le _) ⟨rfl, rfl⟩
  · rw [if_neg c1] at h
    refine r_aload_n (x := 80) dX12_begins_4 rfl ?_
    refine r_iconst (v := 2) dX12_begins_5 rfl ?_
    obtain ⟨S21, h22, h⟩ := bV_e h
    refine r_cVV (y := mX12_wrong) (As := [.int 2]) (rest := []) dX12_begins_6 qX12_180 kX12_wrong rfl ob80 vc12 rfl (okX12_wrong N 2 S S21 h22) (by decide) (Nat.zero_le _) rfl (Nat.le_of_ble_eq_true rfl) ?_
    refine r_iload_n (x := p1) dX12_begins_9 rfl ?_
    refine r_if_eq (tgt := 18) dX12_begins_10 (by decide) (fun c23 => ?_) (fun c23 => ?_)
    · rw [if_pos c23] at h
      refine r_aload_n (x := 80) dX12_begins_18 rfl ?_
      obtain ⟨x24, S25, h26, h⟩ := bI_e h
      refine r_cVI (y := mX12_isGood) (As := []) (rest := []) dX12_begins_19 qX12_173 kX12_isGood rfl ob80 vc12 rfl (okX12_isGood N  S21 x24 S25 h26) (by decide) (Nat.zero_le _) rfl (Nat.le_of_ble_eq_true rfl) ?_
      refine r_if_ne (tgt := 27) dX12_begins_22 (by decide) (fun c27 => ?_) (fun c27 => ?_)
      · rw [if_neg c27] at h
        refine r_aload_n (x := 80) dX12_begins_27 rfl ?_
        obtain ⟨S29, h30, h⟩ := bV_e h
        refine r_cVV (y := mX12_goes) (As := []) (rest := []) dX12_begins_28 qX12_177 kX12_goes rfl ob80 vc12 rfl (okX12_goes N  S25 S29 h30) (by decide) (Nat.zero_le _) rfl (Nat.le_of_ble_eq_true rfl) ?_
        refine r_iconst (v := 1) dX12_begins_31 rfl ?_
        cases h
        exact r_zreturn dX12_begins_32 rfl rfl (Nat.zero_le _) ⟨rfl, rfl⟩
      · rw [if_pos c27] at h
        refine r_iconst (v := 0) dX12_begins_25 rfl ?_
        cases h
        exact r_zreturn dX12_begins_26 rfl rfl (Nat.zero_le _) ⟨rfl, rfl⟩
    · rw [if_neg c23] at h
      refine r_aload_n (x := 80) dX12_begins_13 rfl ?_
      refine r_iconst (v := 5) dX12_begins_14 rfl ?_
      obtain ⟨S32, h33, h⟩ := bV_e h
      refine r_cVV (y := mX12_wrong) (As := [.int 5]) (rest := []) dX12_begins_15 qX12_180 kX12_wrong rfl ob80 vc12 rfl (okX12_wrong N 5 S21 S32 h33) (by decide) (Nat.zero_le _) rfl (Nat.le_of_ble_eq_true rfl) ?_
      refine r_aload_n (x := 80) dX12_begins_18 rfl ?_
      obtain ⟨x34, S35, h36, h⟩ := bI_e h
      refine r_cVI (y := mX12_isGood) (As := []) (rest := []) dX12_begins_19 qX12_173 kX12_isGood rfl ob80 vc12 rfl (okX12_isGood N  S32 x34 S35 h36) (by decide) (Nat.zero_le _) rfl (Nat.le_of_ble_eq_true rfl) ?_
      refine r_if_ne (tgt := 27) dX12_begins_22 (by decide) (fun c37 => ?_) (fun c37 => ?_)
      · rw [if_neg c37] at h
        refine r_aload_n (x := 80) dX12_begins_27 rfl ?_
        obtain ⟨S39, h40, h⟩ := bV_e h
        refine r_cVV (y := mX12_goes) (As := []) (rest := []) dX12_begins_28 qX12_177 kX12_goes rfl ob80 vc12 rfl (okX12_goes N  S35 S39 h40) (by decide) (Nat.zero_le _) rfl (Nat.le_of_ble_eq_true rfl) ?_
        refine r_iconst (v := 1) dX12_begins_31 rfl ?_
        cases h
        exact r_zreturn dX12_begins_32 rfl rfl (Nat.zero_le _) ⟨rfl, rfl⟩
      · rw [if_pos c37] at h
        refine r_iconst (v := 0) dX12_begins_25 rfl ?_
        cases h
        exact r_zreturn dX12_begins_26 rfl rfl (Nat.zero_le _) ⟨rfl, rfl⟩
def fX12_readsCup (N : Nat)  (S : PS) : Option PS :=
  lt ((S.1 80 19) : Int32) fun x1 =>
  bI (fX12_number N 1 30 S) fun x2 S3 =>
  gd (inr (1 + x1) 64) <|
  lt ((u2 S3.1 86 (ix (1 + x1)) x2, S3.2) : PS) fun S6 =>
  gd (inr (1 + x1) 64) <|
  bI (fX12_number N 0 ((S6.1 86 (ix (1 + x1))) - 1) S6) fun x8 S9 =>
  gd (inr (10 + x1) 64) <|
  lt ((u2 S9.1 86 (ix (10 + x1)) x8, S9.2) : PS) fun S12 =>
  bI (fX12_number N 0 20 S12) fun x13 S14 =>
  gd (inr x1 9) <|
  lt ((u2 S14.1 85 (ix x1) x13, S14.2) : PS) fun S17 =>
  gd (inr (19 + x1) 64) <|
  lt ((u2 S17.1 86 (ix (19 + x1)) (-1), S17.2) : PS) fun S19 =>
  gd (inr (28 + x1) 64) <|
  lt ((u2 S19.1 86 (ix (28 + x1)) (-1), S19.2) : PS) fun S21 =>
  gd (inr x1 9) <|
  lt ((u2 S21.1 90 (ix x1) 0, S21.2) : PS) fun S23 =>
  bI (fX12_isGood N  S23) fun x24 S25 =>
  (if x24 = 0 then
    some S25
  else
    lt ((u2 S25.1 80 19 ((S25.1 80 19) + 1), S25.2) : PS) fun S28 =>
    some S28)
set_option maxHeartbeats 4000000 in
set_option maxRecDepth 100000 in
theorem okX12_readsCup (N : Nat)  (S : PS) (T : PS) (h : fX12_readsCup N  S = some T) : CT mX12_readsCup 3 0 [.ref 80] S (qV T) := by
  refine ct_of [some (.ref 80), none] rfl (fun _ => rfl) (fun _ => Nat.le_of_ble_eq_true rfl) ?_
  unfold fX12_readsCup at h
  refine r_aload_n (x := 80) dX12_readsCup_0 rfl ?_
  refine r_getfield (o := 80) (v := .int (S.1 80 19)) dX12_readsCup_1 lX12_183 ck80 nC80 rfl ?_
  refine r_topi (fun x1 hx1 => ?_)
  replace h := lt_e hx1 h
  refine r_istore_n (L' := [some (.ref 80), some (.int x1)]) dX12_readsCup_4 (Nat.le_of_ble_eq_true rfl) rfl rfl ?_
  refine r_aload_n (x := 80) dX12_readsCup_5 rfl ?_
  refine r_getfield (o := 80) (v := .ref 86) dX12_readsCup_6 lX12_35 ck80 nC80 rfl ?_
  refine r_iconst (v := 1) dX12_readsCup_9 rfl ?_
  refine r_iload_n (x := x1) dX12_readsCup_10 rfl ?_
  refine r_iadd dX12_readsCup_11 ?_
  refine r_aload_n (x := 80) dX12_readsCup_12 rfl ?_
  refine r_iconst (v := 1) dX12_readsCup_13 rfl ?_
  refine r_bipush (v := 30) dX12_readsCup_14 rfl ?_
  obtain ⟨x2, S3, h4, h⟩ := bI_e h
  refine r_cVI (y := mX12_number) (As := [.int 1, .int 30]) (rest := [.int (1 + x1), .ref 86]) dX12_readsCup_16 qX12_233 kX12_number rfl ob80 vc12 rfl (okX12_number N 1 30 S x2 S3 h4) (by decide) (Nat.zero_le _) rfl (Nat.le_of_ble_eq_true rfl) ?_
  obtain ⟨g5, h⟩ := gd_e h
  refine r_iastore (a := 86) dX12_readsCup_19 ck86 nC86 (inr_IX g5) ?_
  refine r_topS (fun S6 hS6 => ?_)
  replace h := lt_e hS6 h
  refine r_aload_n (x := 80) dX12_readsCup_20 rfl ?_
  refine r_getfield (o := 80) (v := .ref 86) dX12_readsCup_21 lX12_35 ck80 nC80 rfl ?_
  refine r_bipush (v := 10) dX12_readsCup_24 rfl ?_
  refine r_iload_n (x := x1) dX12_readsCup_26 rfl ?_
  refine r_iadd dX12_readsCup_27 ?_
  refine r_aload_n (x := 80) dX12_readsCup_28 rfl ?_
  refine r_iconst (v := 0) dX12_readsCup_29 rfl ?_
  refine r_aload_n (x := 80) dX12_readsCup_30 rfl ?_
  refine r_getfield (o := 80) (v := .ref 86) dX12_readsCup_31 lX12_35 ck80 nC80 rfl ?_
  refine r_iconst (v := 1) dX12_readsCup_34 rfl ?_
  refine r_iload_n (x := x1) dX12_readsCup_35 rfl ?_
  refine r_iadd dX12_readsCup_36 ?_
  obtain ⟨g7, h⟩ := gd_e h
  refine r_iaload (a := 86) dX12_readsCup_37 ck86 nC86 (inr_IX g7) ?_
  refine r_iconst (v := 1) dX12_readsCup_38 rfl ?_
  refine r_isub dX12_readsCup_39 ?_
  obtain ⟨x8, S9, h10, h⟩ := bI_e h
  refine r_cVI (y := mX12_number) (As := [.int 0, .int ((S6.1 86 (ix (1 + x1))) - 1)]) (rest := [.int (10 + x1), .ref 86]) dX12_readsCup_40 qX12_233 kX12_number rfl ob80 vc12 rfl (okX12_number N 0 ((S6.1 86 (ix (1 + x1))) - 1) S6 x8 S9 h10) (by decide) (Nat.zero_le _) rfl (Nat.le_of_ble_eq_true rfl) ?_
  obtain ⟨g11, h⟩ := gd_e h
  refine r_iastore (a := 86) dX12_readsCup_43 ck86 nC86 (inr_IX g11) ?_
  refine r_topS (fun S12 hS12 => ?_)
  replace h := lt_e hS12 h
  refine r_aload_n (x := 80) dX12_readsCup_44 rfl ?_
  refine r_getfield (o := 80) (v := .ref 85) dX12_readsCup_45 lX12_32 ck80 nC80 rfl ?_
  refine r_iload_n (x := x1) dX12_readsCup_48 rfl ?_
  refine r_aload_n (x := 80) dX12_readsCup_49 rfl ?_
  refine r_iconst (v := 0) dX12_readsCup_50 rfl ?_
  refine r_bipush (v := 20) dX12_readsCup_51 rfl ?_
  obtain ⟨x13, S14, h15, h⟩ := bI_e h
  refine r_cVI (y := mX12_number) (As := [.int 0, .int 20]) (rest := [.int x1, .ref 85]) dX12_readsCup_53 qX12_233 kX12_number rfl ob80 vc12 rfl (okX12_number N 0 20 S12 x13 S14 h15) (by decide) (Nat.zero_le _) rfl (Nat.le_of_ble_eq_true rfl) ?_
  obtain ⟨g16, h⟩ := gd_e h
  refine r_iastore (a := 85) dX12_readsCup_56 ck85 nC85 (inr_IX g16) ?_
  refine r_topS (fun S17 hS17 => ?_)
  replace h := lt_e hS17 h
  refine r_aload_n (x := 80) dX12_readsCup_57 rfl ?_
  refine r_getfield (o := 80) (v := .ref 86) dX12_readsCup_58 lX12_35 ck80 nC80 rfl ?_
  refine r_bipush (v := 19) dX12_readsCup_61 rfl ?_
  refine r_iload_n (x := x1) dX12_readsCup_63 rfl ?_
  refine r_iadd dX12_readsCup_64 ?_
  refine r_iconst (v := (-1)) dX12_readsCup_65 rfl ?_
  obtain ⟨g18, h⟩ := gd_e h
  refine r_iastore (a := 86) dX12_readsCup_66 ck86 nC86 (inr_IX g18) ?_
  refine r_topS (fun S19 hS19 => ?_)
  replace h := lt_e hS19 h
  refine r_aload_n (x := 80) dX12_readsCup_67 rfl ?_
  refine r_getfield (o := 80) (v := .ref 86) dX12_readsCup_68 lX12_35 ck80 nC80 rfl ?_
  refine r_bipush (v := 28) dX12_readsCup_71 rfl ?_
  refine r_iload_n (x := x1) dX12_readsCup_73 rfl ?_
  refine r_iadd dX12_readsCup_74 ?_
  refine r_iconst (v := (-1)) dX12_readsCup_75 rfl ?_
  obtain ⟨g20, h⟩ := gd_e h
  refine r_iastore (a := 86) dX12_readsCup_76 ck86 nC86 (inr_IX g20) ?_
  refine r_topS (fun S21 hS21 => ?_)
  replace h := lt_e hS21 h
  refine r_aload_n (x := 80) dX12_readsCup_77 rfl ?_
  refine r_getfield (o := 80) (v := .ref 90) dX12_readsCup_78 lX12_48 ck80 nC80 rfl ?_
  refine r_iload_n (x := x1) dX12_readsCup_81 rfl ?_
  refine r_iconst (v := 0) dX12_readsCup_82 rfl ?_
  obtain ⟨g22, h⟩ := gd_e h
  refine r_zastore (a := 90) dX12_readsCup_83 ck90 nC90 (inr_IX g22) (by decide) ?_
  refine r_topS (fun S23 hS23 => ?_)
  replace h := lt_e hS23 h
  refine r_aload_n (x := 80) dX12_readsCup_84 rfl ?_
  obtain ⟨x24, S25, h26, h⟩ := bI_e h
  refine r_cVI (y := mX12_isGood) (As := []) (rest := []) dX12_readsCup_85 qX12_173 kX12_isGood rfl ob80 vc12 rfl (okX12_isGood N  S23 x24 S25 h26) (by decide) (Nat.zero_le _) rfl (Nat.le_of_ble_eq_true rfl) ?_
  refine r_if_eq (tgt := 101) dX12_readsCup_88 (by decide) (fun c27 => ?_) (fun c27 => ?_)
  · rw [if_pos c27] at h
    cases h
    exact r_return dX12_readsCup_101 rfl (Nat.zero_le _) ⟨rfl, rfl⟩
  · rw [if_neg c27] at h
    refine r_aload_n (x := 80) dX12_readsCup_91 rfl ?_
    refine r_dup_ref dX12_readsCup_92 ?_
    refine r_getfield (o := 80) (v := .int (S25.1 80 19)) dX12_readsCup_93 lX12_183 ck80 nC80 rfl ?_
    refine r_iconst (v := 1) dX12_readsCup_96 rfl ?_
    refine r_iadd dX12_readsCup_97 ?_
    refine r_putI dX12_readsCup_98 lX12_183 ck80 nC80 ?_
    refine r_topS (fun S28 hS28 => ?_)
    replace h := lt_e hS28 h
    cases h
    exact r_return dX12_readsCup_101 rfl (Nat.zero_le _) ⟨rfl, rfl⟩
def fX12_readsPipe (N : Nat)  (S : PS) : Option PS :=
  bI (fX12_isCupHere N  S) fun x1 S2 =>
  (if x1 = 0 then
    some S2
  else
    lt ((S2.1 80 16) : Int32) fun x5 =>
    gd (inr x5 9) <|
    (if (S2.1 90 (ix x5)) = 0 then
      bI (fX12_isGood N  S2) fun x8 S9 =>
      (if x8 = 0 then
        some S9
      else
        bV (fX12_goes N  S9) fun S13 =>
        bI (fX12_isCupHere N  S13) fun x15 S16 =>
        (if x15 = 0 then
          some S16
        else
          (if x5 < (S16.1 80 16) then
            bI (fX12_isGood N  S16) fun x20 S21 =>
            (if x20 = 0 then
              some S21
            else
              gd (inr x5 9) <|
              lt ((u2 S21.1 90 (ix x5) 1, S21.2) : PS) fun S25 =>
              gd (inr (19 + x5) 64) <|
              lt ((u2 S25.1 86 (ix (19 + x5)) (S25.1 80 16), S25.2) : PS) fun S27 =>
              bV (fX12_goes N  S27) fun S29 =>
              (if (S29.1 80 13) = 2 then
                bI (fX12_isCupHere N  S29) fun x32 S33 =>
                (if x32 = 0 then
                  some S33
                else
                  (if (S33.1 80 16) ≤ x5 then
                    bV (fX12_wrong N 4 S33) fun S38 =>
                    bI (fX12_isGood N  S38) fun x40 S41 =>
                    (if x40 = 0 then
                      some S41
                    else
                      gd (inr (28 + x5) 64) <|
                      lt ((u2 S41.1 86 (ix (28 + x5)) (S41.1 80 16), S41.2) : PS) fun S45 =>
                      bV (fX12_goes N  S45) fun S47 =>
                      some S47)
                  else
                    gd (inr (19 + x5) 64) <|
                    (if (S33.1 80 16) = (S33.1 86 (ix (19 + x5))) then
                      bV (fX12_wrong N 4 S33) fun S61 =>
                      bI (fX12_isGood N  S61) fun x63 S64 =>
                      (if x63 = 0 then
                        some S64
                      else
                        gd (inr (28 + x5) 64) <|
                        lt ((u2 S64.1 86 (ix (28 + x5)) (S64.1 80 16), S64.2) : PS) fun S68 =>
                        bV (fX12_goes N  S68) fun S70 =>
                        some S70)
                    else
                      bI (fX12_isGood N  S33) fun x51 S52 =>
                      (if x51 = 0 then
                        some S52
                      else
                        gd (inr (28 + x5) 64) <|
                        lt ((u2 S52.1 86 (ix (28 + x5)) (S52.1 80 16), S52.2) : PS) fun S56 =>
                        bV (fX12_goes N  S56) fun S58 =>
                        some S58))))
              else
                some S29))
          else
            bV (fX12_wrong N 4 S16) fun S73 =>
            bI (fX12_isGood N  S73) fun x75 S76 =>
            (if x75 = 0 then
              some S76
            else
              gd (inr x5 9) <|
              lt ((u2 S76.1 90 (ix x5) 1, S76.2) : PS) fun S80 =>
              gd (inr (19 + x5) 64) <|
              lt ((u2 S80.1 86 (ix (19 + x5)) (S80.1 80 16), S80.2) : PS) fun S82 =>
              bV (fX12_goes N  S82) fun S84 =>
              (if (S84.1 80 13) = 2 then
                bI (fX12_isCupHere N  S84) fun x87 S88 =>
                (if x87 = 0 then
                  some S88
                else
                  (if (S88.1 80 16) ≤ x5 then
                    bV (fX12_wrong N 4 S88) fun S93 =>
                    bI (fX12_isGood N  S93) fun x95 S96 =>
                    (if x95 = 0 then
                      some S96
                    else
                      gd (inr (28 + x5) 64) <|
                      lt ((u2 S96.1 86 (ix (28 + x5)) (S96.1 80 16), S96.2) : PS) fun S100 =>
                      bV (fX12_goes N  S100) fun S102 =>
                      some S102)
                  else
                    gd (inr (19 + x5) 64) <|
                    (if (S88.1 80 16) = (S88.1 86 (ix (19 + x5))) then
                      bV (fX12_wrong N 4 S88) fun S116 =>
                      bI (fX12_isGood N  S116) fun x118 S119 =>
                      (if x118 = 0 then
                        some S119
                      else
                        gd (inr (28 + x5) 64) <|
                        lt ((u2 S119.1 86 (ix (28 + x5)) (S119.1 80 16), S119.2) : PS) fun S123 =>
                        bV (fX12_goes N  S123) fun S125 =>
                        some S125)
                    else
                      bI (fX12_isGood N  S88) fun x106 S107 =>
                      (if x106 = 0 then
                        some S107
                      else
                        gd (inr (28 + x5) 64) <|
                        lt ((u2 S107.1 86 (ix (28 + x5)) (S107.1 80 16), S107.2) : PS) fun S111 =>
                        bV (fX12_goes N  S111) fun S113 =>
                        some S113))))
              else
                some S84)))))
    else
      bV (fX12_wrong N 4 S2) fun S128 =>
      bI (fX12_isGood N  S128) fun x130 S131 =>
      (if x130 = 0 then
        some S131
      else
        bV (fX12_goes N  S131) fun S135 =>
        bI (fX12_isCupHere N  S135) fun x137 S138 =>
        (if x137 = 0 then
          some S138
        else
          (if x5 < (S138.1 80 16) then
            bI (fX12_isGood N  S138) fun x142 S143 =>
            (if x142 = 0 then
              some S143
            else
              gd (inr x5 9) <|
              lt ((u2 S143.1 90 (ix x5) 1, S143.2) : PS) fun S147 =>
              gd (inr (19 + x5) 64) <|
              lt ((u2 S147.1 86 (ix (19 + x5)) (S147.1 80 16), S147.2) : PS) fun S149 =>
              bV (fX12_goes N  S149) fun S151 =>
              (if (S151.1 80 13) = 2 then
                bI (fX12_isCupHere N  S151) fun x154 S155 =>
                (if x154 = 0 then
                  some S155
                else
                  (if (S155.1 80 16) ≤ x5 then
                    bV (fX12_wrong N 4 S155) fun S160 =>
                    bI (fX12_isGood N  S160) fun x162 S163 =>
                    (if x162 = 0 then
                      some S163
                    else
                      gd (inr (28 + x5) 64) <|
                      lt ((u2 S163.1 86 (ix (28 + x5)) (S163.1 80 16), S163.2) : PS) fun S167 =>
                      bV (fX12_goes N  S167) fun S169 =>
                      some S169)
                  else
                    gd (inr (19 + x5) 64) <|
                    (if (S155.1 80 16) = (S155.1 86 (ix (19 + x5))) then
                      bV (fX12_wrong N 4 S155) fun S183 =>
                      bI (fX12_isGood N  S183) fun x185 S186 =>
                      (if x185 = 0 then
                        some S186
                      else
                        gd (inr (28 + x5) 64) <|
                        lt ((u2 S186.1 86 (ix (28 + x5)) (S186.1 80 16), S186.2) : PS) fun S190 =>
                        bV (fX12_goes N  S190) fun S192 =>
                        some S192)
                    else
                      bI (fX12_isGood N  S155) fun x173 S174 =>
                      (if x173 = 0 then
                        some S174
                      else
                        gd (inr (28 + x5) 64) <|
                        lt ((u2 S174.1 86 (ix (28 + x5)) (S174.1 80 16), S174.2) : PS) fun S178 =>
                        bV (fX12_goes N  S178) fun S180 =>
                        some S180))))
              else
                some S151))
          else
            bV (fX12_wrong N 4 S138) fun S195 =>
            bI (fX12_isGood N  S195) fun x197 S198 =>
            (if x197 = 0 then
              some S198
            else
              gd (inr x5 9) <|
              lt ((u2 S198.1 90 (ix x5) 1, S198.2) : PS) fun S202 =>
              gd (inr (19 + x5) 64) <|
              lt ((u2 S202.1 86 (ix (19 + x5)) (S202.1 80 16), S202.2) : PS) fun S204 =>
              bV (fX12_goes N  S204) fun S206 =>
              (if (S206.1 80 13) = 2 then
                bI (fX12_isCupHere N  S206) fun x209 S210 =>
                (if x209 = 0 then
                  some S210
                else
                  (if (S210.1 80 16) ≤ x5 then
                    bV (fX12_wrong N 4 S210) fun S215 =>
                    bI (fX12_isGood N  S215) fun x217 S218 =>
                    (if x217 = 0 then
                      some S218
                    else
                      gd (inr (28 + x5) 64) <|
                      lt ((u2 S218.1 86 (ix (28 + x5)) (S218.1 80 16), S218.2) : PS) fun S222 =>
                      bV (fX12_goes N  S222) fun S224 =>
                      some S224)
                  else
                    gd (inr (19 + x5) 64) <|
                    (if (S210.1 80 16) = (S210.1 86 (ix (19 + x5))) then
                      bV (fX12_wrong N 4 S210) fun S238 =>
                      bI (fX12_isGood N  S238) fun x240 S241 =>
                      (if x240 = 0 then
                        some S241
                      else
                        gd (inr (28 + x5) 64) <|
                        lt ((u2 S241.1 86 (ix (28 + x5)) (S241.1 80 16), S241.2) : PS) fun S245 =>
                        bV (fX12_goes N  S245) fun S247 =>
                        some S247)
                    else
                      bI (fX12_isGood N  S210) fun x228 S229 =>
                      (if x228 = 0 then
                        some S229
                      else
                        gd (inr (28 + x5) 64) <|
                        lt ((u2 S229.1 86 (ix (28 + x5)) (S229.1 80 16), S229.2) : PS) fun S233 =>
                        bV (fX12_goes N  S233) fun S235 =>
                        some S235))))
              else
                some S206)))))))
set_option maxHeartbeats 4000000 in
set_option maxRecDepth 100000 in
theorem okX12_readsPipe (N : Nat)  (S : PS) (T : PS) (h : fX12_readsPipe N  S = some T) : CT mX12_readsPipe 2 0 [.ref 80] S (qV T) := by
  refine ct_of [some (.ref 80), none] rfl (fun _ => rfl) (fun _ => Nat.le_of_ble_eq_true rfl) ?_
  unfold fX12_readsPipe at h
  refine r_aload_n (x := 80) dX12_readsPipe_0 rfl ?_
  obtain ⟨x1, S2, h3, h⟩ := bI_e h
  refine r_cVI (y := mX12_isCupHere) (As := []) (rest := []) dX12_readsPipe_1 qX12_237 kX12_isCupHere rfl ob80 vc12 rfl (okX12_isCupHere N  S x1 S2 h3) (by decide) (Nat.zero_le _) rfl (Nat.le_of_ble_eq_true rfl) ?_
  refine r_if_ne (tgt := 8) dX12_readsPipe_4 (by decide) (fun c4 => ?_) (fun c4 => ?_)
  · rw [if_neg c4] at h
    refine r_aload_n (x := 80) dX12_readsPipe_8 rfl ?_
    refine r_getfield (o := 80) (v := .int (S2.1 80 16)) dX12_readsPipe_9 lX12_141 ck80 nC80 rfl ?_
    refine r_topi (fun x5 hx5 => ?_)
    replace h := lt_e hx5 h
    refine r_istore_n (L' := [some (.ref 80), some (.int x5)]) dX12_readsPipe_12 (Nat.le_of_ble_eq_true rfl) rfl rfl ?_
    refine r_aload_n (x := 80) dX12_readsPipe_13 rfl ?_
    refine r_getfield (o := 80) (v := .ref 90) dX12_readsPipe_14 lX12_48 ck80 nC80 rfl ?_
    refine r_iload_n (x := x5) dX12_readsPipe_17 rfl ?_
    obtain ⟨g6, h⟩ := gd_e h
    refine r_zaload (a := 90) dX12_readsPipe_18 ck90 nC90 (inr_IX g6) ?_
    refine r_if_eq (tgt := 27) dX12_readsPipe_19 (by decide) (fun c7 => ?_) (fun c7 => ?_)
    · rw [if_pos c7] at h
      refine r_aload_n (x := 80) dX12_readsPipe_27 rfl ?_
      obtain ⟨x8, S9, h10, h⟩ := bI_e h
      refine r_cVI (y := mX12_isGood) (As := []) (rest := []) dX12_readsPipe_28 qX12_173 kX12_isGood rfl ob80 vc12 rfl (okX12_isGood N  S2 x8 S9 h10) (by decide) (Nat.zero_le _) rfl (Nat.le_of_ble_eq_true rfl) ?_
      refine r_if_ne (tgt := 35) dX12_readsPipe_31 (by decide) (fun c11 => ?_) (fun c11 => ?_)
      · rw [if_neg c11] at h
        refine r_aload_n (x := 80) dX12_readsPipe_35 rfl ?_
        obtain ⟨S13, h14, h⟩ := bV_e h
        refine r_cVV (y := mX12_goes) (As := []) (rest := []) dX12_readsPipe_36 qX12_177 kX12_goes rfl ob80 vc12 rfl (okX12_goes N  S9 S13 h14) (by decide) (Nat.zero_le _) rfl (Nat.le_of_ble_eq_true rfl) ?_
        refine r_aload_n (x := 80) dX12_readsPipe_39 rfl ?_
        obtain ⟨x15, S16, h17, h⟩ := bI_e h
        refine r_cVI (y := mX12_isCupHere) (As := []) (rest := []) dX12_readsPipe_40 qX12_237 kX12_isCupHere rfl ob80 vc12 rfl (okX12_isCupHere N  S13 x15 S16 h17) (by decide) (Nat.zero_le _) rfl (Nat.le_of_ble_eq_true rfl) ?_
        refine r_if_ne (tgt := 47) dX12_readsPipe_43 (by decide) (fun c18 => ?_) (fun c18 => ?_)
        · rw [if_neg c18] at h
          refine r_aload_n (x := 80) dX12_readsPipe_47 rfl ?_
          refine r_getfield (o := 80) (v := .int (S16.1 80 16)) dX12_readsPipe_48 lX12_141 ck80 nC80 rfl ?_
          refine r_iload_n (x := x5) dX12_readsPipe_51 rfl ?_
          refine r_icmp_gt (tgt := 60) dX12_readsPipe_52 (by decide) (fun c19 => ?_) (fun c19 => ?_)
          · rw [if_pos c19] at h
            refine r_aload_n (x := 80) dX12_readsPipe_60 rfl ?_
            obtain ⟨x20, S21, h22, h⟩ := bI_e h
            refine r_cVI (y := mX12_isGood) (As := []) (rest := []) dX12_readsPipe_61 qX12_173 kX12_isGood rfl ob80 vc12 rfl (okX12_isGood N  S16 x20 S21 h22) (by decide) (Nat.zero_le _) rfl (Nat.le_of_ble_eq_true rfl) ?_
            refine r_if_ne (tgt := 68) dX12_readsPipe_64 (by decide) (fun c23 => ?_) (fun c23 => ?_)
            · rw [if_neg c23] at h
              refine r_aload_n (x := 80) dX12_readsPipe_68 rfl ?_
              refine r_getfield (o := 80) (v := .ref 90) dX12_readsPipe_69 lX12_48 ck80 nC80 rfl ?_
              refine r_iload_n (x := x5) dX12_readsPipe_72 rfl ?_
              refine r_iconst (v := 1) dX12_readsPipe_73 rfl ?_
              obtain ⟨g24, h⟩ := gd_e h
              refine r_zastore (a := 90) dX12_readsPipe_74 ck90 nC90 (inr_IX g24) (by decide) ?_
              refine r_topS (fun S25 hS25 => ?_)
              replace h := lt_e hS25 h
              refine r_aload_n (x := 80) dX12_readsPipe_75 rfl ?_
              refine r_getfield (o := 80) (v := .ref 86) dX12_readsPipe_76 lX12_35 ck80 nC80 rfl ?_
              refine r_bipush (v := 19) dX12_readsPipe_79 rfl ?_
              refine r_iload_n (x := x5) dX12_readsPipe_81 rfl ?_
              refine r_iadd dX12_readsPipe_82 ?_
              refine r_aload_n (x := 80) dX12_readsPipe_83 rfl ?_
              refine r_getfield (o := 80) (v := .int (S25.1 80 16)) dX12_readsPipe_84 lX12_141 ck80 nC80 rfl ?_
              obtain ⟨g26, h⟩ := gd_e h
              refine r_iastore (a := 86) dX12_readsPipe_87 ck86 nC86 (inr_IX g26) ?_
              refine r_topS (fun S27 hS27 => ?_)
              replace h := lt_e hS27 h
              refine r_aload_n (x := 80) dX12_readsPipe_88 rfl ?_
              obtain ⟨S29, h30, h⟩ := bV_e h
              refine r_cVV (y := mX12_goes) (As := []) (rest := []) dX12_readsPipe_89 qX12_177 kX12_goes rfl ob80 vc12 rfl (okX12_goes N  S27 S29 h30) (by decide) (Nat.zero_le _) rfl (Nat.le_of_ble_eq_true rfl) ?_
              refine r_aload_n (x := 80) dX12_readsPipe_92 rfl ?_
              refine r_getfield (o := 80) (v := .int (S29.1 80 13)) dX12_readsPipe_93 lX12_147 ck80 nC80 rfl ?_
              refine r_iconst (v := 2) dX12_readsPipe_96 rfl ?_
              refine r_icmp_ne (tgt := 107) dX12_readsPipe_97 (by decide) (fun c31 => ?_) (fun c31 => ?_)
              · rw [if_neg c31] at h
                cases h
                exact r_return dX12_readsPipe_107 rfl (Nat.zero_le _) ⟨rfl, rfl⟩
              · rw [if_pos c31] at h
                refine r_aload_n (x := 80) dX12_readsPipe_100 rfl ?_
                obtain ⟨x32, S33, h34, h⟩ := bI_e h
                refine r_cVI (y := mX12_isCupHere) (As := []) (rest := []) dX12_readsPipe_101 qX12_237 kX12_isCupHere rfl ob80 vc12 rfl (okX12_isCupHere N  S29 x32 S33 h34) (by decide) (Nat.zero_le _) rfl (Nat.le_of_ble_eq_true rfl) ?_
                refine r_if_ne (tgt := 108) dX12_readsPipe_104 (by decide) (fun c35 => ?_) (fun c35 => ?_)
                · rw [if_neg c35] at h
                  refine r_aload_n (x := 80) dX12_readsPipe_108 rfl ?_
                  refine r_getfield (o := 80) (v := .int (S33.1 80 16)) dX12_readsPipe_109 lX12_141 ck80 nC80 rfl ?_
                  refine r_iload_n (x := x5) dX12_readsPipe_112 rfl ?_
                  refine r_icmp_le (tgt := 132) dX12_readsPipe_113 (by decide) (fun c36 => ?_) (fun c36 => ?_)
                  · rw [if_pos c36] at h
                    refine r_aload_n (x := 80) dX12_readsPipe_132 rfl ?_
                    refine r_iconst (v := 4) dX12_readsPipe_133 rfl ?_
                    obtain ⟨S38, h39, h⟩ := bV_e h
                    refine r_cVV (y := mX12_wrong) (As := [.int 4]) (rest := []) dX12_readsPipe_134 qX12_180 kX12_wrong rfl ob80 vc12 rfl (okX12_wrong N 4 S33 S38 h39) (by decide) (Nat.zero_le _) rfl (Nat.le_of_ble_eq_true rfl) ?_
                    refine r_aload_n (x := 80) dX12_readsPipe_137 rfl ?_
                    obtain ⟨x40, S41, h42, h⟩ := bI_e h
                    refine r_cVI (y := mX12_isGood) (As := []) (rest := []) dX12_readsPipe_138 qX12_173 kX12_isGood rfl ob80 vc12 rfl (okX12_isGood N  S38 x40 S41 h42) (by decide) (Nat.zero_le _) rfl (Nat.le_of_ble_eq_true rfl) ?_
                    refine r_if_ne (tgt := 145) dX12_readsPipe_141 (by decide) (fun c43 => ?_) (fun c43 => ?_)
                    · rw [if_neg c43] at h
                      refine r_aload_n (x := 80) dX12_readsPipe_145 rfl ?_
                      refine r_getfield (o := 80) (v := .ref 86) dX12_readsPipe_146 lX12_35 ck80 nC80 rfl ?_
                      refine r_bipush (v := 28) dX12_readsPipe_149 rfl ?_
                      refine r_iload_n (x := x5) dX12_readsPipe_151 rfl ?_
                      refine r_iadd dX12_readsPipe_152 ?_
                      refine r_aload_n (x := 80) dX12_readsPipe_153 rfl ?_
                      refine r_getfield (o := 80) (v := .int (S41.1 80 16)) dX12_readsPipe_154 lX12_141 ck80 nC80 rfl ?_
                      obtain ⟨g44, h⟩ := gd_e h
                      refine r_iastore (a := 86) dX12_readsPipe_157 ck86 nC86 (inr_IX g44) ?_
                      refine r_topS (fun S45 hS45 => ?_)
                      replace h := lt_e hS45 h
                      refine r_aload_n (x := 80) dX12_readsPipe_158 rfl ?_
                      obtain ⟨S47, h48, h⟩ := bV_e h
                      refine r_cVV (y := mX12_goes) (As := []) (rest := []) dX12_readsPipe_159 qX12_177 kX12_goes rfl ob80 vc12 rfl (okX12_goes N  S45 S47 h48) (by decide) (Nat.zero_le _) rfl (Nat.le_of_ble_eq_true rfl) ?_
                      cases h
                      exact r_return dX12_readsPipe_162 rfl (Nat.zero_le _) ⟨rfl, rfl⟩
                    · rw [if_pos c43] at h
                      cases h
                      exact r_return dX12_readsPipe_144 rfl (Nat.zero_le _) ⟨rfl, rfl⟩
                  · rw [if_neg c36] at h
                    refine r_aload_n (x := 80) dX12_readsPipe_116 rfl ?_
                    refine r_getfield (o := 80) (v := .int (S33.1 80 16)) dX12_readsPipe_117 lX12_141 ck80 nC80 rfl ?_
                    refine r_aload_n (x := 80) dX12_readsPipe_120 rfl ?_
                    refine r_getfield (o := 80) (v := .ref 86) dX12_readsPipe_121 lX12_35 ck80 nC80 rfl ?_
                    refine r_bipush (v := 19) dX12_readsPipe_124 rfl ?_
                    refine r_iload_n (x := x5) dX12_readsPipe_126 rfl ?_
                    refine r_iadd dX12_readsPipe_127 ?_
                    obtain ⟨g49, h⟩ := gd_e h
                    refine r_iaload (a := 86) dX12_readsPipe_128 ck86 nC86 (inr_IX g49) ?_
                    refine r_icmp_ne (tgt := 137) dX12_readsPipe_129 (by decide) (fun c50 => ?_) (fun c50 => ?_)
                    · rw [if_neg c50] at h
                      refine r_aload_n (x := 80) dX12_readsPipe_137 rfl ?_
                      obtain ⟨x51, S52, h53, h⟩ := bI_e h
                      refine r_cVI (y := mX12_isGood) (As := []) (rest := []) dX12_readsPipe_138 qX12_173 kX12_isGood rfl ob80 vc12 rfl (okX12_isGood N  S33 x51 S52 h53) (by decide) (Nat.zero_le _) rfl (Nat.le_of_ble_eq_true rfl) ?_
                      refine r_if_ne (tgt := 145) dX12_readsPipe_141 (by decide) (fun c54 => ?_) (fun c54 => ?_)
                      · rw [if_neg c54] at h
                        refine r_aload_n (x := 80) dX12_readsPipe_145 rfl ?_
                        refine r_getfield (o := 80) (v := .ref 86) dX12_readsPipe_146 lX12_35 ck80 nC80 rfl ?_
                        refine r_bipush (v := 28) dX12_readsPipe_149 rfl ?_
                        refine r_iload_n (x := x5) dX12_readsPipe_151 rfl ?_
                        refine r_iadd dX12_readsPipe_152 ?_
                        refine r_aload_n (x := 80) dX12_readsPipe_153 rfl ?_
                        refine r_getfield (o := 80) (v := .int (S52.1 80 16)) dX12_readsPipe_154 lX12_141 ck80 nC80 rfl ?_
                        obtain ⟨g55, h⟩ := gd_e h
                        refine r_iastore (a := 86) dX12_readsPipe_157 ck86 nC86 (inr_IX g55) ?_
                        refine r_topS (fun S56 hS56 => ?_)
                        replace h := lt_e hS56 h
                        refine r_aload_n (x := 80) dX12_readsPipe_158 rfl ?_
                        obtain ⟨S58, h59, h⟩ := bV_e h
                        refine r_cVV (y := mX12_goes) (As := []) (rest := []) dX12_readsPipe_159 qX12_177 kX12_goes rfl ob80 vc12 rfl (okX12_goes N  S56 S58 h59) (by decide) (Nat.zero_le _) rfl (Nat.le_of_ble_eq_true rfl) ?_
                        cases h
                        exact r_return dX12_readsPipe_162 rfl (Nat.zero_le _) ⟨rfl, rfl⟩
                      · rw [if_pos c54] at h
                        cases h
                        exact r_return dX12_readsPipe_144 rfl (Nat.zero_le _) ⟨rfl, rfl⟩
                    · rw [if_pos c50] at h
                      refine r_aload_n (x := 80) dX12_readsPipe_132 rfl ?_
                      refine r_iconst (v := 4) dX12_readsPipe_133 rfl ?_
                      obtain ⟨S61, h62, h⟩ := bV_e h
                      refine r_cVV (y := mX12_wrong) (As := [.int 4]) (rest := []) dX12_readsPipe_134 qX12_180 kX12_wrong rfl ob80 vc12 rfl (okX12_wrong N 4 S33 S61 h62) (by decide) (Nat.zero_le _) rfl (Nat.le_of_ble_eq_true rfl) ?_
                      refine r_aload_n (x := 80) dX12_readsPipe_137 rfl ?_
                      obtain ⟨x63, S64, h65, h⟩ := bI_e h
                      refine r_cVI (y := mX12_isGood) (As := []) (rest := []) dX12_readsPipe_138 qX12_173 kX12_isGood rfl ob80 vc12 rfl (okX12_isGood N  S61 x63 S64 h65) (by decide) (Nat.zero_le _) rfl (Nat.le_of_ble_eq_true rfl) ?_
                      refine r_if_ne (tgt := 145) dX12_readsPipe_141 (by decide) (fun c66 => ?_) (fun c66 => ?_)
                      · rw [if_neg c66] at h
                        refine r_aload_n (x := 80) dX12_readsPipe_145 rfl ?_
                        refine r_getfield (o := 80) (v := .ref 86) dX12_readsPipe_146 lX12_35 ck80 nC80 rfl ?_
                        refine r_bipush (v := 28) dX12_readsPipe_149 rfl ?_
                        refine r_iload_n (x := x5) dX12_readsPipe_151 rfl ?_
                        refine r_iadd dX12_readsPipe_152 ?_
                        refine r_aload_n (x := 80) dX12_readsPipe_153 rfl ?_
                        refine r_getfield (o := 80) (v := .int (S64.1 80 16)) dX12_readsPipe_154 lX12_141 ck80 nC80 rfl ?_
                        obtain ⟨g67, h⟩ := gd_e h
                        refine r_iastore (a := 86) dX12_readsPipe_157 ck86 nC86 (inr_IX g67) ?_
                        refine r_topS (fun S68 hS68 => ?_)
                        replace h := lt_e hS68 h
                        refine r_aload_n (x := 80) dX12_readsPipe_158 rfl ?_
                        obtain ⟨S70, h71, h⟩ := bV_e h
                        refine r_cVV (y := mX12_goes) (As := []) (rest := []) dX12_readsPipe_159 qX12_177 kX12_goes rfl ob80 vc12 rfl (okX12_goes N  S68 S70 h71) (by decide) (Nat.zero_le _) rfl (Nat.le_of_ble_eq_true rfl) ?_
                        cases h
                        exact r_return dX12_readsPipe_162 rfl (Nat.zero_le _) ⟨rfl, rfl⟩
                      · rw [if_pos c66] at h
                        cases h
                        exact r_return dX12_readsPipe_144 rfl (Nat.zero_le _) ⟨rfl, rfl⟩
                · rw [if_pos c35] at h
                  cases h
                  exact r_return dX12_readsPipe_107 rfl (Nat.zero_le _) ⟨rfl, rfl⟩
            · rw [if_pos c23] at h
              cases h
              exact r_return dX12_readsPipe_67 rfl (Nat.zero_le _) ⟨rfl, rfl⟩
          · rw [if_neg c19] at h
            refine r_aload_n (x := 80) dX12_readsPipe_55 rfl ?_
            refine r_iconst (v := 4) dX12_readsPipe_56 rfl ?_
            obtain ⟨S73, h74, h⟩ := bV_e h
            refine r_cVV (y := mX12_wrong) (As := [.int 4]) (rest := []) dX12_readsPipe_57 qX12_180 kX12_wrong rfl ob80 vc12 rfl (okX12_wrong N 4 S16 S73 h74) (by decide) (Nat.zero_le _) rfl (Nat.le_of_ble_eq_true rfl) ?_
            refine r_aload_n (x := 80) dX12_readsPipe_60 rfl ?_
            obtain ⟨x75, S76, h77, h⟩ := bI_e h
            refine r_cVI (y := mX12_isGood) (As := []) (rest := []) dX12_readsPipe_61 qX12_173 kX12_isGood rfl ob80 vc12 rfl (okX12_isGood N  S73 x75 S76 h77) (by decide) (Nat.zero_le _) rfl (Nat.le_of_ble_eq_true rfl) ?_
            refine r_if_ne (tgt := 68) dX12_readsPipe_64 (by decide) (fun c78 => ?_) (fun c78 => ?_)
            · rw [if_neg c78] at h
              refine r_aload_n (x := 80) dX12_readsPipe_68 rfl ?_
              refine r_getfield (o := 80) (v := .ref 90) dX12_readsPipe_69 lX12_48 ck80 nC80 rfl ?_
              refine r_iload_n (x := x5) dX12_readsPipe_72 rfl ?_
              refine r_iconst (v := 1) dX12_readsPipe_73 rfl ?_
              obtain ⟨g79, h⟩ := gd_e h
              refine r_zastore (a := 90) dX12_readsPipe_74 ck90 nC90 (inr_IX g79) (by decide) ?_
              refine r_topS (fun S80 hS80 => ?_)
              replace h := lt_e hS80 h
              refine r_aload_n (x := 80) dX12_readsPipe_75 rfl ?_
              refine r_getfield (o := 80) (v := .ref 86) dX12_readsPipe_76 lX12_35 ck80 nC80 rfl ?_
              refine r_bipush (v := 19) dX12_readsPipe_79 rfl ?_
              refine r_iload_n (x := x5) dX12_readsPipe_81 rfl ?_
              refine r_iadd dX12_readsPipe_82 ?_
              refine r_aload_n (x := 80) dX12_readsPipe_83 rfl ?_
              refine r_getfield (o := 80) (v := .int (S80.1 80 16)) dX12_readsPipe_84 lX12_141 ck80 nC80 rfl ?_
              obtain ⟨g81, h⟩ := gd_e h
              refine r_iastore (a := 86) dX12_readsPipe_87 ck86 nC86 (inr_IX g81) ?_
              refine r_topS (fun S82 hS82 => ?_)
              replace h := lt_e hS82 h
              refine r_aload_n (x := 80) dX12_readsPipe_88 rfl ?_
              obtain ⟨S84, h85, h⟩ := bV_e h
              refine r_cVV (y := mX12_goes) (As := []) (rest := []) dX12_readsPipe_89 qX12_177 kX12_goes rfl ob80 vc12 rfl (okX12_goes N  S82 S84 h85) (by decide) (Nat.zero_le _) rfl (Nat.le_of_ble_eq_true rfl) ?_
              refine r_aload_n (x := 80) dX12_readsPipe_92 rfl ?_
              refine r_getfield (o := 80) (v := .int (S84.1 80 13)) dX12_readsPipe_93 lX12_147 ck80 nC80 rfl ?_
              refine r_iconst (v := 2) dX12_readsPipe_96 rfl ?_
              refine r_icmp_ne (tgt := 107) dX12_readsPipe_97 (by decide) (fun c86 => ?_) (fun c86 => ?_)
              · rw [if_neg c86] at h
                cases h
                exact r_return dX12_readsPipe_107 rfl (Nat.zero_le _) ⟨rfl, rfl⟩
              · rw [if_pos c86] at h
                refine r_aload_n (x := 80) dX12_readsPipe_100 rfl ?_
                obtain ⟨x87, S88, h89, h⟩ := bI_e h
                refine r_cVI (y := mX12_isCupHere) (As := []) (rest := []) dX12_readsPipe_101 qX12_237 kX12_isCupHere rfl ob80 vc12 rfl (okX12_isCupHere N  S84 x87 S88 h89) (by decide) (Nat.zero_le _) rfl (Nat.le_of_ble_eq_true rfl) ?_
                refine r_if_ne (tgt := 108) dX12_readsPipe_104 (by decide) (fun c90 => ?_) (fun c90 => ?_)
                · rw [if_neg c90] at h
                  refine r_aload_n (x := 80) dX12_readsPipe_108 rfl ?_
                  refine r_getfield (o := 80) (v := .int (S88.1 80 16)) dX12_readsPipe_109 lX12_141 ck80 nC80 rfl ?_
                  refine r_iload_n (x := x5) dX12_readsPipe_112 rfl ?_
                  refine r_icmp_le (tgt := 132) dX12_readsPipe_113 (by decide) (fun c91 => ?_) (fun c91 => ?_)
                  · rw [if_pos c91] at h
                    refine r_aload_n (x := 80) dX12_readsPipe_132 rfl ?_
                    refine r_iconst (v := 4) dX12_readsPipe_133 rfl ?_
                    obtain ⟨S93, h94, h⟩ := bV_e h
                    refine r_cVV (y := mX12_wrong) (As := [.int 4]) (rest := []) dX12_readsPipe_134 qX12_180 kX12_wrong rfl ob80 vc12 rfl (okX12_wrong N 4 S88 S93 h94) (by decide) (Nat.zero_le _) rfl (Nat.le_of_ble_eq_true rfl) ?_
                    refine r_aload_n (x := 80) dX12_readsPipe_137 rfl ?_
                    obtain ⟨x95, S96, h97, h⟩ := bI_e h
                    refine r_cVI (y := mX12_isGood) (As := []) (rest := []) dX12_readsPipe_138 qX12_173 kX12_isGood rfl ob80 vc12 rfl (okX12_isGood N  S93 x95 S96 h97) (by decide) (Nat.zero_le _) rfl (Nat.le_of_ble_eq_true rfl) ?_
                    refine r_if_ne (tgt := 145) dX12_readsPipe_141 (by decide) (fun c98 => ?_) (fun c98 => ?_)
                    · rw [if_neg c98] at h
                      refine r_aload_n (x := 80) dX12_readsPipe_145 rfl ?_
                      refine r_getfield (o := 80) (v := .ref 86) dX12_readsPipe_146 lX12_35 ck80 nC80 rfl ?_
                      refine r_bipush (v := 28) dX12_readsPipe_149 rfl ?_
                      refine r_iload_n (x := x5) dX12_readsPipe_151 rfl ?_
                      refine r_iadd dX12_readsPipe_152 ?_
                      refine r_aload_n (x := 80) dX12_readsPipe_153 rfl ?_
                      refine r_getfield (o := 80) (v := .int (S96.1 80 16)) dX12_readsPipe_154 lX12_141 ck80 nC80 rfl ?_
                      obtain ⟨g99, h⟩ := gd_e h
                      refine r_iastore (a := 86) dX12_readsPipe_157 ck86 nC86 (inr_IX g99) ?_
                      refine r_topS (fun S100 hS100 => ?_)
                      replace h := lt_e hS100 h
                      refine r_aload_n (x := 80) dX12_readsPipe_158 rfl ?_
                      obtain ⟨S102, h103, h⟩ := bV_e h
                      refine r_cVV (y := mX12_goes) (As := []) (rest := []) dX12_readsPipe_159 qX12_177 kX12_goes rfl ob80 vc12 rfl (okX12_goes N  S100 S102 h103) (by decide) (Nat.zero_le _) rfl (Nat.le_of_ble_eq_true rfl) ?_
                      cases h
                      exact r_return dX12_readsPipe_162 rfl (Nat.zero_le _) ⟨rfl, rfl⟩
                    · rw [if_pos c98] at h
                      cases h
                      exact r_return dX12_readsPipe_144 rfl (Nat.zero_le _) ⟨rfl, rfl⟩
                  · rw [if_neg c91] at h
                    refine r_aload_n (x := 80) dX12_readsPipe_116 rfl ?_
                    refine r_getfield (o := 80) (v := .int (S88.1 80 16)) dX12_readsPipe_117 lX12_141 ck80 nC80 rfl ?_
                    refine r_aload_n (x := 80) dX12_readsPipe_120 rfl ?_
                    refine r_getfield (o := 80) (v := .ref 86) dX12_readsPipe_121 lX12_35 ck80 nC80 rfl ?_
                    refine r_bipush (v := 19) dX12_readsPipe_124 rfl ?_
                    refine r_iload_n (x := x5) dX12_readsPipe_126 rfl ?_
                    refine r_iadd dX12_readsPipe_127 ?_
                    obtain ⟨g104, h⟩ := gd_e h
                    refine r_iaload (a := 86) dX12_readsPipe_128 ck86 nC86 (inr_IX g104) ?_
                    refine r_icmp_ne (tgt := 137) dX12_readsPipe_129 (by decide) (fun c105 => ?_) (fun c105 => ?_)
                    · rw [if_neg c105] at h
                      refine r_aload_n (x := 80) dX12_readsPipe_137 rfl ?_
                      obtain ⟨x106, S107, h108, h⟩ := bI_e h
                      refine r_cVI (y := mX12_isGood) (As := []) (rest := []) dX12_readsPipe_138 qX12_173 kX12_isGood rfl ob80 vc12 rfl (okX12_isGood N  S88 x106 S107 h108) (by decide) (Nat.zero_le _) rfl (Nat.le_of_ble_eq_true rfl) ?_
                      refine r_if_ne (tgt := 145) dX12_readsPipe_141 (by decide) (fun c109 => ?_) (fun c109 => ?_)
                      · rw [if_neg c109] at h
                        refine r_aload_n (x := 80) dX12_readsPipe_145 rfl ?_
                        refine r_getfield (o := 80) (v := .ref 86) dX12_readsPipe_146 lX12_35 ck80 nC80 rfl ?_
                        refine r_bipush (v := 28) dX12_readsPipe_149 rfl ?_
                        refine r_iload_n (x := x5) dX12_readsPipe_151 rfl ?_
                        refine r_iadd dX12_readsPipe_152 ?_
                        refine r_aload_n (x := 80) dX12_readsPipe_153 rfl ?_
                        refine r_getfield (o := 80) (v := .int (S107.1 80 16)) dX12_readsPipe_154 lX12_141 ck80 nC80 rfl ?_
                        obtain ⟨g110, h⟩ := gd_e h
                        refine r_iastore (a := 86) dX12_readsPipe_157 ck86 nC86 (inr_IX g110) ?_
                        refine r_topS (fun S111 hS111 => ?_)
                        replace h := lt_e hS111 h
                        refine r_aload_n (x := 80) dX12_readsPipe_158 rfl ?_
                        obtain ⟨S113, h114, h⟩ := bV_e h
                        refine r_cVV (y := mX12_goes) (As := []) (rest := []) dX12_readsPipe_159 qX12_177 kX12_goes rfl ob80 vc12 rfl (okX12_goes N  S111 S113 h114) (by decide) (Nat.zero_le _) rfl (Nat.le_of_ble_eq_true rfl) ?_
                        cases h
                        exact r_return dX12_readsPipe_162 rfl (Nat.zero_le _) ⟨rfl, rfl⟩
                      · rw [if_pos c109] at h
                        cases h
                        exact r_return dX12_readsPipe_144 rfl (Nat.zero_le _) ⟨rfl, rfl⟩
                    · rw [if_pos c105] at h
                      refine r_aload_n (x := 80) dX12_readsPipe_132 rfl ?_
                      refine r_iconst (v := 4) dX12_readsPipe_133 rfl ?_
                      obtain ⟨S116, h117, h⟩ := bV_e h
                      refine r_cVV (y := mX12_wrong) (As := [.int 4]) (rest := []) dX12_readsPipe_134 qX12_180 kX12_wrong rfl ob80 vc12 rfl (okX12_wrong N 4 S88 S116 h117) (by decide) (Nat.zero_le _) rfl (Nat.le_of_ble_eq_true rfl) ?_
                      refine r_aload_n (x := 80) dX12_readsPipe_137 rfl ?_
                      obtain ⟨x118, S119, h120, h⟩ := bI_e h
                      refine r_cVI (y := mX12_isGood) (As := []) (rest := []) dX12_readsPipe_138 qX12_173 kX12_isGood rfl ob80 vc12 rfl (okX12_isGood N  S116 x118 S119 h120) (by decide) (Nat.zero_le _) rfl (Nat.le_of_ble_eq_true rfl) ?_
                      refine r_if_ne (tgt := 145) dX12_readsPipe_141 (by decide) (fun c121 => ?_) (fun c121 => ?_)
                      · rw [if_neg c121] at h
                        refine r_aload_n (x := 80) dX12_readsPipe_145 rfl ?_
                        refine r_getfield (o := 80) (v := .ref 86) dX12_readsPipe_146 lX12_35 ck80 nC80 rfl ?_
                        refine r_bipush (v := 28) dX12_readsPipe_149 rfl ?_
                        refine r_iload_n (x := x5) dX12_readsPipe_151 rfl ?_
                        refine r_iadd dX12_readsPipe_152 ?_
                        refine r_aload_n (x := 80) dX12_readsPipe_153 rfl ?_
                        refine r_getfield (o := 80) (v := .int (S119.1 80 16)) dX12_readsPipe_154 lX12_141 ck80 nC80 rfl ?_
                        obtain ⟨g122, h⟩ := gd_e h
                        refine r_iastore (a := 86) dX12_readsPipe_157 ck86 nC86 (inr_IX g122) ?_
                        refine r_topS (fun S123 hS123 => ?_)
                        replace h := lt_e hS123 h
                        refine r_aload_n (x := 80) dX12_readsPipe_158 rfl ?_
                        obtain ⟨S125, h126, h⟩ := bV_e h
                        refine r_cVV (y := mX12_goes) (As := []) (rest := []) dX12_readsPipe_159 qX12_177 kX12_goes rfl ob80 vc12 rfl (okX12_goes N  S123 S125 h126) (by decide) (Nat.zero_le _) rfl (Nat.le_of_ble_eq_true rfl) ?_
                        cases h
                        exact r_return dX12_readsPipe_162 rfl (Nat.zero_le _) ⟨rfl, rfl⟩
                      · rw [if_pos c121] at h
                        cases h
                        exact r_return dX12_readsPipe_144 rfl (Nat.zero_le _) ⟨rfl, rfl⟩
                · rw [if_pos c90] at h
                  cases h
                  exact r_return dX12_readsPipe_107 rfl (Nat.zero_le _) ⟨rfl, rfl⟩
            · rw [if_pos c78] at h
              cases h
              exact r_return dX12_readsPipe_67 rfl (Nat.zero_le _) ⟨rfl, rfl⟩
        · rw [if_pos c18] at h
          cases h
          exact r_return dX12_readsPipe_46 rfl (Nat.zero_le _) ⟨rfl, rfl⟩
      · rw [if_pos c11] at h
        cases h
        exact r_return dX12_readsPipe_34 rfl (Nat.zero_le _) ⟨rfl, rfl⟩
    · rw [if_neg c7] at h
      refine r_aload_n (x := 80) dX12_readsPipe_22 rfl ?_
      refine r_iconst (v := 4) dX12_readsPipe_23 rfl ?_
      obtain ⟨S128, h129, h⟩ := bV_e h
      refine r_cVV (y := mX12_wrong) (As := [.int 4]) (rest := []) dX12_readsPipe_24 qX12_180 kX12_wrong rfl ob80 vc12 rfl (okX12_wrong N 4 S2 S128 h129) (by decide) (Nat.zero_le _) rfl (Nat.le_of_ble_eq_true rfl) ?_
      refine r_aload_n (x := 80) dX12_readsPipe_27 rfl ?_
      obtain ⟨x130, S131, h132, h⟩ := bI_e h
      refine r_cVI (y := mX12_isGood) (As := []) (rest := []) dX12_readsPipe_28 qX12_173 kX12_isGood rfl ob80 vc12 rfl (okX12_isGood N  S128 x130 S131 h132) (by decide) (Nat.zero_le _) rfl (Nat.le_of_ble_eq_true rfl) ?_
      refine r_if_ne (tgt := 35) dX12_readsPipe_31 (by decide) (fun c133 => ?_) (fun c133 => ?_)
      · rw [if_neg c133] at h
        refine r_aload_n (x := 80) dX12_readsPipe_35 rfl ?_
        obtain ⟨S135, h136, h⟩ := bV_e h
        refine r_cVV (y := mX12_goes) (As := []) (rest := []) dX12_readsPipe_36 qX12_177 kX12_goes rfl ob80 vc12 rfl (okX12_goes N  S131 S135 h136) (by decide) (Nat.zero_le _) rfl (Nat.le_of_ble_eq_true rfl) ?_
        refine r_aload_n (x := 80) dX12_readsPipe_39 rfl ?_
        obtain ⟨x137, S138, h139, h⟩ := bI_e h
        refine r_cVI (y := mX12_isCupHere) (As := []) (rest := []) dX12_readsPipe_40 qX12_237 kX12_isCupHere rfl ob80 vc12 rfl (okX12_isCupHere N  S135 x137 S138 h139) (by decide) (Nat.zero_le _) rfl (Nat.le_of_ble_eq_true rfl) ?_
        refine r_if_ne (tgt := 47) dX12_readsPipe_43 (by decide) (fun c140 => ?_) (fun c140 => ?_)
        · rw [if_neg c140] at h
          refine r_aload_n (x := 80) dX12_readsPipe_47 rfl ?_
          refine r_getfield (o := 80) (v := .int (S138.1 80 16)) dX12_readsPipe_48 lX12_141 ck80 nC80 rfl ?_
          refine r_iload_n (x := x5) dX12_readsPipe_51 rfl ?_
          refine r_icmp_gt (tgt := 60) dX12_readsPipe_52 (by decide) (fun c141 => ?_) (fun c141 => ?_)
          · rw [if_pos c141] at h
            refine r_aload_n (x := 80) dX12_readsPipe_60 rfl ?_
            obtain ⟨x142, S143, h144, h⟩ := bI_e h
            refine r_cVI (y := mX12_isGood) (As := []) (rest := []) dX12_readsPipe_61 qX12_173 kX12_isGood rfl ob80 vc12 rfl (okX12_isGood N  S138 x142 S143 h144) (by decide) (Nat.zero_le _) rfl (Nat.le_of_ble_eq_true rfl) ?_
            refine r_if_ne (tgt := 68) dX12_readsPipe_64 (by decide) (fun c145 => ?_) (fun c145 => ?_)
            · rw [if_neg c145] at h
              refine r_aload_n (x := 80) dX12_readsPipe_68 rfl ?_
              refine r_getfield (o := 80) (v := .ref 90) dX12_readsPipe_69 lX12_48 ck80 nC80 rfl ?_
              refine r_iload_n (x := x5) dX12_readsPipe_72 rfl ?_
              refine r_iconst (v := 1) dX12_readsPipe_73 rfl ?_
              obtain ⟨g146, h⟩ := gd_e h
              refine r_zastore (a := 90) dX12_readsPipe_74 ck90 nC90 (inr_IX g146) (by decide) ?_
              refine r_topS (fun S147 hS147 => ?_)
              replace h := lt_e hS147 h
              refine r_aload_n (x := 80) dX12_readsPipe_75 rfl ?_
              refine r_getfield (o := 80) (v := .ref 86) dX12_readsPipe_76 lX12_35 ck80 nC80 rfl ?_
              refine r_bipush (v := 19) dX12_readsPipe_79 rfl ?_
              refine r_iload_n (x := x5) dX12_readsPipe_81 rfl ?_
              refine r_iadd dX12_readsPipe_82 ?_
              refine r_aload_n (x := 80) dX12_readsPipe_83 rfl ?_
              refine r_getfield (o := 80) (v := .int (S147.1 80 16)) dX12_readsPipe_84 lX12_141 ck80 nC80 rfl ?_
              obtain ⟨g148, h⟩ := gd_e h
              refine r_iastore (a := 86) dX12_readsPipe_87 ck86 nC86 (inr_IX g148) ?_
              refine r_topS (fun S149 hS149 => ?_)
              replace h := lt_e hS149 h
              refine r_aload_n (x := 80) dX12_readsPipe_88 rfl ?_
              obtain ⟨S151, h152, h⟩ := bV_e h
              refine r_cVV (y := mX12_goes) (As := []) (rest := []) dX12_readsPipe_89 qX12_177 kX12_goes rfl ob80 vc12 rfl (okX12_goes N  S149 S151 h152) (by decide) (Nat.zero_le _) rfl (Nat.le_of_ble_eq_true rfl) ?_
              refine r_aload_n (x := 80) dX12_readsPipe_92 rfl ?_
              refine r_getfield (o := 80) (v := .int (S151.1 80 13)) dX12_readsPipe_93 lX12_147 ck80 nC80 rfl ?_
              refine r_iconst (v := 2) dX12_readsPipe_96 rfl ?_
              refine r_icmp_ne (tgt := 107) dX12_readsPipe_97 (by decide) (fun c153 => ?_) (fun c153 => ?_)
              · rw [if_neg c153] at h
                cases h
                exact r_return dX12_readsPipe_107 rfl (Nat.zero_le _) ⟨rfl, rfl⟩
              · rw [if_pos c153] at h
                refine r_aload_n (x := 80) dX12_readsPipe_100 rfl ?_
                obtain ⟨x154, S155, h156, h⟩ := bI_e h
                refine r_cVI (y := mX12_isCupHere) (As := []) (rest := []) dX12_readsPipe_101 qX12_237 kX12_isCupHere rfl ob80 vc12 rfl (okX12_isCupHere N  S151 x154 S155 h156) (by decide) (Nat.zero_le _) rfl (Nat.le_of_ble_eq_true rfl) ?_
                refine r_if_ne (tgt := 108) dX12_readsPipe_104 (by decide) (fun c157 => ?_) (fun c157 => ?_)
                · rw [if_neg c157] at h
                  refine r_aload_n (x := 80) dX12_readsPipe_108 rfl ?_
                  refine r_getfield (o := 80) (v := .int (S155.1 80 16)) dX12_readsPipe_109 lX12_141 ck80 nC80 rfl ?_
                  refine r_iload_n (x := x5) dX12_readsPipe_112 rfl ?_
                  refine r_icmp_le (tgt := 132) dX12_readsPipe_113 (by decide) (fun c158 => ?_) (fun c158 => ?_)
                  · rw [if_pos c158] at h
                    refine r_aload_n (x := 80) dX12_readsPipe_132 rfl ?_
                    refine r_iconst (v := 4) dX12_readsPipe_133 rfl ?_
                    obtain ⟨S160, h161, h⟩ := bV_e h
                    refine r_cVV (y := mX12_wrong) (As := [.int 4]) (rest := []) dX12_readsPipe_134 qX12_180 kX12_wrong rfl ob80 vc12 rfl (okX12_wrong N 4 S155 S160 h161) (by decide) (Nat.zero_le _) rfl (Nat.le_of_ble_eq_true rfl) ?_
                    refine r_aload_n (x := 80) dX12_readsPipe_137 rfl ?_
                    obtain ⟨x162, S163, h164, h⟩ := bI_e h
                    refine r_cVI (y := mX12_isGood) (As := []) (rest := []) dX12_readsPipe_138 qX12_173 kX12_isGood rfl ob80 vc12 rfl (okX12_isGood N  S160 x162 S163 h164) (by decide) (Nat.zero_le _) rfl (Nat.le_of_ble_eq_true rfl) ?_
                    refine r_if_ne (tgt := 145) dX12_readsPipe_141 (by decide) (fun c165 => ?_) (fun c165 => ?_)
                    · rw [if_neg c165] at h
                      refine r_aload_n (x := 80) dX12_readsPipe_145 rfl ?_
                      refine r_getfield (o := 80) (v := .ref 86) dX12_readsPipe_146 lX12_35 ck80 nC80 rfl ?_
                      refine r_bipush (v := 28) dX12_readsPipe_149 rfl ?_
                      refine r_iload_n (x := x5) dX12_readsPipe_151 rfl ?_
                      refine r_iadd dX12_readsPipe_152 ?_
                      refine r_aload_n (x := 80) dX12_readsPipe_153 rfl ?_
                      refine r_getfield (o := 80) (v := .int (S163.1 80 16)) dX12_readsPipe_154 lX12_141 ck80 nC80 rfl ?_
                      obtain ⟨g166, h⟩ := gd_e h
                      refine r_iastore (a := 86) dX12_readsPipe_157 ck86 nC86 (inr_IX g166) ?_
                      refine r_topS (fun S167 hS167 => ?_)
                      replace h := lt_e hS167 h
                      refine r_aload_n (x := 80) dX12_readsPipe_158 rfl ?_
                      obtain ⟨S169, h170, h⟩ := bV_e h
                      refine r_cVV (y := mX12_goes) (As := []) (rest := []) dX12_readsPipe_159 qX12_177 kX12_goes rfl ob80 vc12 rfl (okX12_goes N  S167 S169 h170) (by decide) (Nat.zero_le _) rfl (Nat.le_of_ble_eq_true rfl) ?_
                      cases h
                      exact r_return dX12_readsPipe_162 rfl (Nat.zero_le _) ⟨rfl, rfl⟩
                    · rw [if_pos c165] at h
                      cases h
                      exact r_return dX12_readsPipe_144 rfl (Nat.zero_le _) ⟨rfl, rfl⟩
                  · rw [if_neg c158] at h
                    refine r_aload_n (x := 80) dX12_readsPipe_116 rfl ?_
                    refine r_getfield (o := 80) (v := .int (S155.1 80 16)) dX12_readsPipe_117 lX12_141 ck80 nC80 rfl ?_
                    refine r_aload_n (x := 80) dX12_readsPipe_120 rfl ?_
                    refine r_getfield (o := 80) (v := .ref 86) dX12_readsPipe_121 lX12_35 ck80 nC80 rfl ?_
                    refine r_bipush (v := 19) dX12_readsPipe_124 rfl ?_
                    refine r_iload_n (x := x5) dX12_readsPipe_126 rfl ?_
                    refine r_iadd dX12_readsPipe_127 ?_
                    obtain ⟨g171, h⟩ := gd_e h
                    refine r_iaload (a := 86) dX12_readsPipe_128 ck86 nC86 (inr_IX g171) ?_
                    refine r_icmp_ne (tgt := 137) dX12_readsPipe_129 (by decide) (fun c172 => ?_) (fun c172 => ?_)
                    · rw [if_neg c172] at h
                      refine r_aload_n (x := 80) dX12_readsPipe_137 rfl ?_
                      obtain ⟨x173, S174, h175, h⟩ := bI_e h
                      refine r_cVI (y := mX12_isGood) (As := []) (rest := []) dX12_readsPipe_138 qX12_173 kX12_isGood rfl ob80 vc12 rfl (okX12_isGood N  S155 x173 S174 h175) (by decide) (Nat.zero_le _) rfl (Nat.le_of_ble_eq_true rfl) ?_
                      refine r_if_ne (tgt := 145) dX12_readsPipe_141 (by decide) (fun c176 => ?_) (fun c176 => ?_)
                      · rw [if_neg c176] at h
                        refine r_aload_n (x := 80) dX12_readsPipe_145 rfl ?_
                        refine r_getfield (o := 80) (v := .ref 86) dX12_readsPipe_146 lX12_35 ck80 nC80 rfl ?_
                        refine r_bipush (v := 28) dX12_readsPipe_149 rfl ?_
                        refine r_iload_n (x := x5) dX12_readsPipe_151 rfl ?_
                        refine r_iadd dX12_readsPipe_152 ?_
                        refine r_aload_n (x := 80) dX12_readsPipe_153 rfl ?_
                        refine r_getfield (o := 80) (v := .int (S174.1 80 16)) dX12_readsPipe_154 lX12_141 ck80 nC80 rfl ?_
                        obtain ⟨g177, h⟩ := gd_e h
                        refine r_iastore (a := 86) dX12_readsPipe_157 ck86 nC86 (inr_IX g177) ?_
                        refine r_topS (fun S178 hS178 => ?_)
                        replace h := lt_e hS178 h
                        refine r_aload_n (x := 80) dX12_readsPipe_158 rfl ?_
                        obtain ⟨S180, h181, h⟩ := bV_e h
                        refine r_cVV (y := mX12_goes) (As := []) (rest := []) dX12_readsPipe_159 qX12_177 kX12_goes rfl ob80 vc12 rfl (okX12_goes N  S178 S180 h181) (by decide) (Nat.zero_le _) rfl (Nat.le_of_ble_eq_true rfl) ?_
                        cases h
                        exact r_return dX12_readsPipe_162 rfl (Nat.zero_le _) ⟨rfl, rfl⟩
                      · rw [if_pos c176] at h
                        cases h
                        exact r_return dX12_readsPipe_144 rfl (Nat.zero_le _) ⟨rfl, rfl⟩
                    · rw [if_pos c172] at h
                      refine r_aload_n (x := 80) dX12_readsPipe_132 rfl ?_
                      refine r_iconst (v := 4) dX12_readsPipe_133 rfl ?_
                      obtain ⟨S183, h184, h⟩ := bV_e h
                      refine r_cVV (y := mX12_wrong) (As := [.int 4]) (rest := []) dX12_readsPipe_134 qX12_180 kX12_wrong rfl ob80 vc12 rfl (okX12_wrong N 4 S155 S183 h184) (by decide) (Nat.zero_le _) rfl (Nat.le_of_ble_eq_true rfl) ?_
                      refine r_aload_n (x := 80) dX12_readsPipe_137 rfl ?_
                      obtain ⟨x185, S186, h187, h⟩ := bI_e h
                      refine r_cVI (y := mX12_isGood) (As := []) (rest := []) dX12_readsPipe_138 qX12_173 kX12_isGood rfl ob80 vc12 rfl (okX12_isGood N  S183 x185 S186 h187) (by decide) (Nat.zero_le _) rfl (Nat.le_of_ble_eq_true rfl) ?_
                      refine r_if_ne (tgt := 145) dX12_readsPipe_141 (by decide) (fun c188 => ?_) (fun c188 => ?_)
                      · rw [if_neg c188] at h
                        refine r_aload_n (x := 80) dX12_readsPipe_145 rfl ?_
                        refine r_getfield (o := 80) (v := .ref 86) dX12_readsPipe_146 lX12_35 ck80 nC80 rfl ?_
                        refine r_bipush (v := 28) dX12_readsPipe_149 rfl ?_
                        refine r_iload_n (x := x5) dX12_readsPipe_151 rfl ?_
                        refine r_iadd dX12_readsPipe_152 ?_
                        refine r_aload_n (x := 80) dX12_readsPipe_153 rfl ?_
                        refine r_getfield (o := 80) (v := .int (S186.1 80 16)) dX12_readsPipe_154 lX12_141 ck80 nC80 rfl ?_
                        obtain ⟨g189, h⟩ := gd_e h
                        refine r_iastore (a := 86) dX12_readsPipe_157 ck86 nC86 (inr_IX g189) ?_
                        refine r_topS (fun S190 hS190 => ?_)
                        replace h := lt_e hS190 h
                        refine r_aload_n (x := 80) dX12_readsPipe_158 rfl ?_
                        obtain ⟨S192, h193, h⟩ := bV_e h
                        refine r_cVV (y := mX12_goes) (As := []) (rest := []) dX12_readsPipe_159 qX12_177 kX12_goes rfl ob80 vc12 rfl (okX12_goes N  S190 S192 h193) (by decide) (Nat.zero_le _) rfl (Nat.le_of_ble_eq_true rfl) ?_
                        cases h
                        exact r_return dX12_readsPipe_162 rfl (Nat.zero_le _) ⟨rfl, rfl⟩
                      · rw [if_pos c188] at h
                        cases h
                        exact r_return dX12_readsPipe_144 rfl (Nat.zero_le _) ⟨rfl, rfl⟩
                · rw [if_pos c157] at h
                  cases h
                  exact r_return dX12_readsPipe_107 rfl (Nat.zero_le _) ⟨rfl, rfl⟩
            · rw [if_pos c145] at h
              cases h
              exact r_return dX12_readsPipe_67 rfl (Nat.zero_le _) ⟨rfl, rfl⟩
          · rw [if_neg c141] at h
            refine r_aload_n (x := 80) dX12_readsPipe_55 rfl ?_
            refine r_iconst (v := 4) dX12_readsPipe_56 rfl ?_
            obtain ⟨S195, h196, h⟩ := bV_e h
            refine r_cVV (y := mX12_wrong) (As := [.int 4]) (rest := []) dX12_readsPipe_57 qX12_180 kX12_wrong rfl ob80 vc12 rfl (okX12_wrong N 4 S138 S195 h196) (by decide) (Nat.zero_le _) rfl (Nat.le_of_ble_eq_true rfl) ?_
            refine r_aload_n (x := 80) dX12_readsPipe_60 rfl ?_
            obtain ⟨x197, S198, h199, h⟩ := bI_e h
            refine r_cVI (y := mX12_isGood) (As := []) (rest := []) dX12_readsPipe_61 qX12_173 kX12_isGood rfl ob80 vc12 rfl (okX12_isGood N  S195 x197 S198 h199) (by decide) (Nat.zero_le _) rfl (Nat.le_of_ble_eq_true rfl) ?_
            refine r_if_ne (tgt := 68) dX12_readsPipe_64 (by decide) (fun c200 => ?_) (fun c200 => ?_)
            · rw [if_neg c200] at h
              refine r_aload_n (x := 80) dX12_readsPipe_68 rfl ?_
              refine r_getfield (o := 80) (v := .ref 90) dX12_readsPipe_69 lX12_48 ck80 nC80 rfl ?_
              refine r_iload_n (x := x5) dX12_readsPipe_72 rfl ?_
              refine r_iconst (v := 1) dX12_readsPipe_73 rfl ?_
              obtain ⟨g201, h⟩ := gd_e h
              refine r_zastore (a := 90) dX12_readsPipe_74 ck90 nC90 (inr_IX g201) (by decide) ?_
              refine r_topS (fun S202 hS202 => ?_)
              replace h := lt_e hS202 h
              refine r_aload_n (x := 80) dX12_readsPipe_75 rfl ?_
              refine r_getfield (o := 80) (v := .ref 86) dX12_readsPipe_76 lX12_35 ck80 nC80 rfl ?_
              refine r_bipush (v := 19) dX12_readsPipe_79 rfl ?_
              refine r_iload_n (x := x5) dX12_readsPipe_81 rfl ?_
              refine r_iadd dX12_readsPipe_82 ?_
              refine r_aload_n (x := 80) dX12_readsPipe_83 rfl ?_
              refine r_getfield (o := 80) (v := .int (S202.1 80 16)) dX12_readsPipe_84 lX12_141 ck80 nC80 rfl ?_
              obtain ⟨g203, h⟩ := gd_e h
              refine r_iastore (a := 86) dX12_readsPipe_87 ck86 nC86 (inr_IX g203) ?_
              refine r_topS (fun S204 hS204 => ?_)
              replace h := lt_e hS204 h
              refine r_aload_n (x := 80) dX12_readsPipe_88 rfl ?_
              obtain ⟨S206, h207, h⟩ := bV_e h
              refine r_cVV (y := mX12_goes) (As := []) (rest := []) dX12_readsPipe_89 qX12_177 kX12_goes rfl ob80 vc12 rfl (okX12_goes N  S204 S206 h207) (by decide) (Nat.zero_le _) rfl (Nat.le_of_ble_eq_true rfl) ?_
              refine r_aload_n (x := 80) dX12_readsPipe_92 rfl ?_
              refine r_getfield (o := 80) (v := .int (S206.1 80 13)) dX12_readsPipe_93 lX12_147 ck80 nC80 rfl ?_
              refine r_iconst (v := 2) dX12_readsPipe_96 rfl ?_
              refine r_icmp_ne (tgt := 107) dX12_readsPipe_97 (by decide) (fun c208 => ?_) (fun c208 => ?_)
              · rw [if_neg c208] at h
                cases h
                exact r_return dX12_readsPipe_107 rfl (Nat.zero_le _) ⟨rfl, rfl⟩
              · rw [if_pos c208] at h
                refine r_aload_n (x := 80) dX12_readsPipe_100 rfl ?_
                obtain ⟨x209, S210, h211, h⟩ := bI_e h
                refine r_cVI (y := mX12_isCupHere) (As := []) (rest := []) dX12_readsPipe_101 qX12_237 kX12_isCupHere rfl ob80 vc12 rfl (okX12_isCupHere N  S206 x209 S210 h211) (by decide) (Nat.zero_le _) rfl (Nat.le_of_ble_eq_true rfl) ?_
                refine r_if_ne (tgt := 108) dX12_readsPipe_104 (by decide) (fun c212 => ?_) (fun c212 => ?_)
                · rw [if_neg c212] at h
                  refine r_aload_n (x := 80) dX12_readsPipe_108 rfl ?_
                  refine r_getfield (o := 80) (v := .int (S210.1 80 16)) dX12_readsPipe_109 lX12_141 ck80 nC80 rfl ?_
                  refine r_iload_n (x := x5) dX12_readsPipe_112 rfl ?_
                  refine r_icmp_le (tgt := 132) dX12_readsPipe_113 (by decide) (fun c213 => ?_) (fun c213 => ?_)
                  · rw [if_pos c213] at h
                    refine r_aload_n (x := 80) dX12_readsPipe_132 rfl ?_
                    refine r_iconst (v := 4) dX12_readsPipe_133 rfl ?_
                    obtain ⟨S215, h216, h⟩ := bV_e h
                    refine r_cVV (y := mX12_wrong) (As := [.int 4]) (rest := []) dX12_readsPipe_134 qX12_180 kX12_wrong rfl ob80 vc12 rfl (okX12_wrong N 4 S210 S215 h216) (by decide) (Nat.zero_le _) rfl (Nat.le_of_ble_eq_true rfl) ?_
                    refine r_aload_n (x := 80) dX12_readsPipe_137 rfl ?_
                    obtain ⟨x217, S218, h219, h⟩ := bI_e h
                    refine r_cVI (y := mX12_isGood) (As := []) (rest := []) dX12_readsPipe_138 qX12_173 kX12_isGood rfl ob80 vc12 rfl (okX12_isGood N  S215 x217 S218 h219) (by decide) (Nat.zero_le _) rfl (Nat.le_of_ble_eq_true rfl) ?_
                    refine r_if_ne (tgt := 145) dX12_readsPipe_141 (by decide) (fun c220 => ?_) (fun c220 => ?_)
                    · rw [if_neg c220] at h
                      refine r_aload_n (x := 80) dX12_readsPipe_145 rfl ?_
                      refine r_getfield (o := 80) (v := .ref 86) dX12_readsPipe_146 lX12_35 ck80 nC80 rfl ?_
                      refine r_bipush (v := 28) dX12_readsPipe_149 rfl ?_
                      refine r_iload_n (x := x5) dX12_readsPipe_151 rfl ?_
                      refine r_iadd dX12_readsPipe_152 ?_
                      refine r_aload_n (x := 80) dX12_readsPipe_153 rfl ?_
                      refine r_getfield (o := 80) (v := .int (S218.1 80 16)) dX12_readsPipe_154 lX12_141 ck80 nC80 rfl ?_
                      obtain ⟨g221, h⟩ := gd_e h
                      refine r_iastore (a := 86) dX12_readsPipe_157 ck86 nC86 (inr_IX g221) ?_
                      refine r_topS (fun S222 hS222 => ?_)
                      replace h := lt_e hS222 h
                      refine r_aload_n (x := 80) dX12_readsPipe_158 rfl ?_
                      obtain ⟨S224, h225, h⟩ := bV_e h
                      refine r_cVV (y := mX12_goes) (As := []) (rest := []) dX12_readsPipe_159 qX12_177 kX12_goes rfl ob80 vc12 rfl (okX12_goes N  S222 S224 h225) (by decide) (Nat.zero_le _) rfl (Nat.le_of_ble_eq_true rfl) ?_
                      cases h
                      exact r_return dX12_readsPipe_162 rfl (Nat.zero_le _) ⟨rfl, rfl⟩
                    · rw [if_pos c220] at h
                      cases h
                      exact r_return dX12_readsPipe_144 rfl (Nat.zero_le _) ⟨rfl, rfl⟩
                  · rw [if_neg c213] at h
                    refine r_aload_n (x := 80) dX12_readsPipe_116 rfl ?_
                    refine r_getfield (o := 80) (v := .int (S210.1 80 16)) dX12_readsPipe_117 lX12_141 ck80 nC80 rfl ?_
                    refine r_aload_n (x := 80) dX12_readsPipe_120 rfl ?_
                    refine r_getfield (o := 80) (v := .ref 86) dX12_readsPipe_121 lX12_35 ck80 nC80 rfl ?_
                    refine r_bipush (v := 19) dX12_readsPipe_124 rfl ?_
                    refine r_iload_n (x := x5) dX12_readsPipe_126 rfl ?_
                    refine r_iadd dX12_readsPipe_127 ?_
                    obtain ⟨g226, h⟩ := gd_e h
                    refine r_iaload (a := 86) dX12_readsPipe_128 ck86 nC86 (inr_IX g226) ?_
                    refine r_icmp_ne (tgt := 137) dX12_readsPipe_129 (by decide) (fun c227 => ?_) (fun c227 => ?_)
                    · rw [if_neg c227] at h
                      refine r_aload_n (x := 80) dX12_readsPipe_137 rfl ?_
                      obtain ⟨x228, S229, h230, h⟩ := bI_e h
                      refine r_cVI (y := mX12_isGood) (As := []) (rest := []) dX12_readsPipe_138 qX12_173 kX12_isGood rfl ob80 vc12 rfl (okX12_isGood N  S210 x228 S229 h230) (by decide) (Nat.zero_le _) rfl (Nat.le_of_ble_eq_true rfl) ?_
                      refine r_if_ne (tgt := 145) dX12_readsPipe_141 (by decide) (fun c231 => ?_) (fun c231 => ?_)
                      · rw [if_neg c231] at h
                        refine r_aload_n (x := 80) dX12_readsPipe_145 rfl ?_
                        refine r_getfield (o := 80) (v := .ref 86) dX12_readsPipe_146 lX12_35 ck80 nC80 rfl ?_
                        refine r_bipush (v := 28) dX12_readsPipe_149 rfl ?_
                        refine r_iload_n (x := x5) dX12_readsPipe_151 rfl ?_
                        refine r_iadd dX12_readsPipe_152 ?_
                        refine r_aload_n (x := 80) dX12_readsPipe_153 rfl ?_
                        refine r_getfield (o := 80) (v := .int (S229.1 80 16)) dX12_readsPipe_154 lX12_141 ck80 nC80 rfl ?_
                        obtain ⟨g232, h⟩ := gd_e h
                        refine r_iastore (a := 86) dX12_readsPipe_157 ck86 nC86 (inr_IX g232) ?_
                        refine r_topS (fun S233 hS233 => ?_)
                        replace h := lt_e hS233 h
                        refine r_aload_n (x := 80) dX12_readsPipe_158 rfl ?_
                        obtain ⟨S235, h236, h⟩ := bV_e h
                        refine r_cVV (y := mX12_goes) (As := []) (rest := []) dX12_readsPipe_159 qX12_177 kX12_goes rfl ob80 vc12 rfl (okX12_goes N  S233 S235 h236) (by decide) (Nat.zero_le _) rfl (Nat.le_of_ble_eq_true rfl) ?_
                        cases h
                        exact r_return dX12_readsPipe_162 rfl (Nat.zero_le _) ⟨rfl, rfl⟩
                      · rw [if_pos c231] at h
                        cases h
                        exact r_return dX12_readsPipe_144 rfl (Nat.zero_le _) ⟨rfl, rfl⟩
                    · rw [if_pos c227] at h
                      refine r_aload_n (x := 80) dX12_readsPipe_132 rfl ?_
                      refine r_iconst (v := 4) dX12_readsPipe_133 rfl ?_
                      obtain ⟨S238, h239, h⟩ := bV_e h
                      refine r_cVV (y := mX12_wrong) (As := [.int 4]) (rest := []) dX12_readsPipe_134 qX12_180 kX12_wrong rfl ob80 vc12 rfl (okX12_wrong N 4 S210 S238 h239) (by decide) (Nat.zero_le _) rfl (Nat.le_of_ble_eq_true rfl) ?_
                      refine r_aload_n (x := 80) dX12_readsPipe_137 rfl ?_
                      obtain ⟨x240, S241, h242, h⟩ := bI_e h
                      refine r_cVI (y := mX12_isGood) (As := []) (rest := []) dX12_readsPipe_138 qX12_173 kX12_isGood rfl ob80 vc12 rfl (okX12_isGood N  S238 x240 S241 h242) (by decide) (Nat.zero_le _) rfl (Nat.le_of_ble_eq_true rfl) ?_
                      refine r_if_ne (tgt := 145) dX12_readsPipe_141 (by decide) (fun c243 => ?_) (fun c243 => ?_)
                      · rw [if_neg c243] at h
                        refine r_aload_n (x := 80) dX12_readsPipe_145 rfl ?_
                        refine r_getfield (o := 80) (v := .ref 86) dX12_readsPipe_146 lX12_35 ck80 nC80 rfl ?_
                        refine r_bipush (v := 28) dX12_readsPipe_149 rfl ?_
                        refine r_iload_n (x := x5) dX12_readsPipe_151 rfl ?_
                        refine r_iadd dX12_readsPipe_152 ?_
                        refine r_aload_n (x := 80) dX12_readsPipe_153 rfl ?_
                        refine r_getfield (o := 80) (v := .int (S241.1 80 16)) dX12_readsPipe_154 lX12_141 ck80 nC80 rfl ?_
                        obtain ⟨g244, h⟩ := gd_e h
                        refine r_iastore (a := 86) dX12_readsPipe_157 ck86 nC86 (inr_IX g244) ?_
                        refine r_topS (fun S245 hS245 => ?_)
                        replace h := lt_e hS245 h
                        refine r_aload_n (x := 80) dX12_readsPipe_158 rfl ?_
                        obtain ⟨S247, h248, h⟩ := bV_e h
                        refine r_cVV (y := mX12_goes) (As := []) (rest := []) dX12_readsPipe_159 qX12_177 kX12_goes rfl ob80 vc12 rfl (okX12_goes N  S245 S247 h248) (by decide) (Nat.zero_le _) rfl (Nat.le_of_ble_eq_true rfl) ?_
                        cases h
                        exact r_return dX12_readsPipe_162 rfl (Nat.zero_le _) ⟨rfl, rfl⟩
                      · rw [if_pos c243] at h
                        cases h
                        exact r_return dX12_readsPipe_144 rfl (Nat.zero_le _) ⟨rfl, rfl⟩
                · rw [if_pos c212] at h
                  cases h
                  exact r_return dX12_readsPipe_107 rfl (Nat.zero_le _) ⟨rfl, rfl⟩
            · rw [if_pos c200] at h
              cases h
              exact r_return dX12_readsPipe_67 rfl (Nat.zero_le _) ⟨rfl, rfl⟩
        · rw [if_pos c140] at h
          cases h
          exact r_return dX12_readsPipe_46 rfl (Nat.zero_le _) ⟨rfl, rfl⟩
      · rw [if_pos c133] at h
        cases h
        exact r_return dX12_readsPipe_34 rfl (Nat.zero_le _) ⟨rfl, rfl⟩
  · rw [if_pos c4] at h
    cases h
    exact r_return dX12_readsPipe_7 rfl (Nat.zero_le _) ⟨rfl, rfl⟩
def fX12_line (N : Nat)  (S : PS) : Option PS :=
  bI (fX12_knownWord N  S) fun x1 S2 =>
  (if x1 = 5 then
    lt ((if (S2.1 80 19) = 9 then 1 else 0) : Int32) fun x81 =>
    bI (fX12_begins N x81 0 S2) fun x82 S83 =>
    (if x82 = 0 then
      bI (fX12_isSign N 59 S83) fun x86 S87 =>
      bV (fX12_need N x86 S87) fun S90 =>
      some S90
    else
      bV (fX12_readsCup N  S83) fun S93 =>
      bI (fX12_isSign N 59 S93) fun x95 S96 =>
      bV (fX12_need N x95 S96) fun S99 =>
      some S99)
  else
    (if x1 = 6 then
      bI (fX12_begins N 0 0 S2) fun x61 S62 =>
      (if x61 = 0 then
        bI (fX12_isSign N 59 S62) fun x65 S66 =>
        bV (fX12_need N x65 S66) fun S69 =>
        some S69
      else
        bV (fX12_readsPipe N  S62) fun S72 =>
        bI (fX12_isSign N 59 S72) fun x74 S75 =>
        bV (fX12_need N x74 S75) fun S78 =>
        some S78)
    else
      (if x1 = 7 then
        lt ((if (S2.1 80 20) = (-1) then 0 else 1) : Int32) fun x40 =>
        bI (fX12_begins N 0 x40 S2) fun x41 S42 =>
        (if x41 = 0 then
          bI (fX12_isSign N 59 S42) fun x45 S46 =>
          bV (fX12_need N x45 S46) fun S49 =>
          some S49
        else
          lt ((u2 S42.1 80 20 (S42.1 80 22), S42.2) : PS) fun S51 =>
          bV (fX12_expression N  S51) fun S53 =>
          bI (fX12_isSign N 59 S53) fun x55 S56 =>
          bV (fX12_need N x55 S56) fun S59 =>
          some S59)
      else
        (if x1 = 8 then
          lt ((if (S2.1 80 21) = (-1) then 0 else 1) : Int32) fun x18 =>
          bI (fX12_begins N 0 x18 S2) fun x19 S20 =>
          (if x19 = 0 then
            bI (fX12_isSign N 59 S20) fun x23 S24 =>
            bV (fX12_need N x23 S24) fun S27 =>
            some S27
          else
            lt ((u2 S20.1 80 21 (S20.1 80 22), S20.2) : PS) fun S29 =>
            bV (fX12_expression N  S29) fun S31 =>
            bI (fX12_isSign N 59 S31) fun x33 S34 =>
            bV (fX12_need N x33 S34) fun S37 =>
            some S37)
        else
          bV (fX12_wrong N 1 S2) fun S9 =>
          bI (fX12_isSign N 59 S9) fun x11 S12 =>
          bV (fX12_need N x11 S12) fun S15 =>
          some S15))))
set_option maxHeartbeats 4000000 in
set_option maxRecDepth 100000 in
theorem okX12_line (N : Nat)  (S : PS) (T : PS) (h : fX12_line N  S = some T) : CT mX12_line 6 0 [.ref 80] S (qV T) := by
  refine ct_of [some (.ref 80), none] rfl (fun _ => rfl) (fun _ => Nat.le_of_ble_eq_true rfl) ?_
  unfold fX12_line at h
  refine r_aload_n (x := 80) dX12_line_0 rfl ?_
  obtain ⟨x1, S2, h3, h⟩ := bI_e h
  refine r_cVI (y := mX12_knownWord) (As := []) (rest := []) dX12_line_1 qX12_201 kX12_knownWord rfl ob80 vc12 rfl (okX12_knownWord N  S x1 S2 h3) (by decide) (Nat.zero_le _) rfl (Nat.le_of_ble_eq_true rfl) ?_
  refine r_istore_n (L' := [some (.ref 80), some (.int x1)]) dX12_line_4 (Nat.le_of_ble_eq_true rfl) rfl rfl ?_
  refine r_iload_n (x := x1) dX12_line_5 rfl ?_
  refine r_iconst (v := 5) dX12_line_6 rfl ?_
  refine r_icmp_ne (tgt := 39) dX12_line_7 (by decide) (fun c4 => ?_) (fun c4 => ?_)
  · rw [if_neg c4] at h
    refine r_iload_n (x := x1) dX12_line_39 rfl ?_
    refine r_bipush (v := 6) dX12_line_40 rfl ?_
    refine r_icmp_ne (tgt := 61) dX12_line_42 (by decide) (fun c5 => ?_) (fun c5 => ?_)
    · rw [if_neg c5] at h
      refine r_iload_n (x := x1) dX12_line_61 rfl ?_
      refine r_bipush (v := 7) dX12_line_62 rfl ?_
      refine r_icmp_ne (tgt := 103) dX12_line_64 (by decide) (fun c6 => ?_) (fun c6 => ?_)
      · rw [if_neg c6] at h
        refine r_iload_n (x := x1) dX12_line_103 rfl ?_
        refine r_bipush (v := 8) dX12_line_104 rfl ?_
        refine r_icmp_ne (tgt := 145) dX12_line_106 (by decide) (fun c7 => ?_) (fun c7 => ?_)
        · rw [if_neg c7] at h
          refine r_aload_n (x := 80) dX12_line_145 rfl ?_
          refine r_iconst (v := 1) dX12_line_146 rfl ?_
          obtain ⟨S9, h10, h⟩ := bV_e h
          refine r_cVV (y := mX12_wrong) (As := [.int 1]) (rest := []) dX12_line_147 qX12_180 kX12_wrong rfl ob80 vc12 rfl (okX12_wrong N 1 S2 S9 h10) (by decide) (Nat.zero_le _) rfl (Nat.le_of_ble_eq_true rfl) ?_
          refine r_aload_n (x := 80) dX12_line_150 rfl ?_
          refine r_aload_n (x := 80) dX12_line_151 rfl ?_
          refine r_bipush (v := 59) dX12_line_152 rfl ?_
          obtain ⟨x11, S12, h13, h⟩ := bI_e h
          refine r_cVI (y := mX12_isSign) (As := [.int 59]) (rest := [.ref 80]) dX12_line_154 qX12_208 kX12_isSign rfl ob80 vc12 rfl (okX12_isSign N 59 S9 x11 S12 h13) (by decide) (Nat.zero_le _) rfl (Nat.le_of_ble_eq_true rfl) ?_
          obtain ⟨S15, h16, h⟩ := bV_e h
          refine r_cVV (y := mX12_need) (As := [.int x11]) (rest := []) dX12_line_157 qX12_259 kX12_need rfl ob80 vc12 rfl (okX12_need N x11 S12 S15 h16) (by decide) (Nat.zero_le _) rfl (Nat.le_of_ble_eq_true rfl) ?_
          cases h
          exact r_return dX12_line_160 rfl (Nat.zero_le _) ⟨rfl, rfl⟩
        · rw [if_pos c7] at h
          refine r_aload_n (x := 80) dX12_line_109 rfl ?_
          refine r_iconst (v := 0) dX12_line_110 rfl ?_
          refine r_aload_n (x := 80) dX12_line_111 rfl ?_
          refine r_getfield (o := 80) (v := .int (S2.1 80 21)) dX12_line_112 lX12_256 ck80 nC80 rfl ?_
          refine r_iconst (v := (-1)) dX12_line_115 rfl ?_
          obtain ⟨x18, hx18⟩ : ∃ y : Int32, y = ((if (S2.1 80 21) = (-1) then 0 else 1) : Int32) := ⟨_, rfl⟩
          replace h := lt_e hx18 h
          have keyx18 : WP [] mX12_line 6 0 (qV T) 124 [some (.ref 80), some (.int x1)] (.int x18 :: [.int 0, .ref 80]) S2 0 := by
            obtain ⟨x19, S20, h21, h⟩ := bI_e h
            refine r_cVI (y := mX12_begins) (As := [.int 0, .int x18]) (rest := []) dX12_line_124 qX12_240 kX12_begins rfl ob80 vc12 rfl (okX12_begins N 0 x18 S2 x19 S20 h21) (by decide) (Nat.zero_le _) rfl (Nat.le_of_ble_eq_true rfl) ?_
            refine r_if_eq (tgt := 150) dX12_line_127 (by decide) (fun c22 => ?_) (fun c22 => ?_)
            · rw [if_pos c22] at h
              refine r_aload_n (x := 80) dX12_line_150 rfl ?_
              refine r_aload_n (x := 80) dX12_line_151 rfl ?_
              refine r_bipush (v := 59) dX12_line_152 rfl ?_
              obtain ⟨x23, S24, h25, h⟩ := bI_e h
              refine r_cVI (y := mX12_isSign) (As := [.int 59]) (rest := [.ref 80]) dX12_line_154 qX12_208 kX12_isSign rfl ob80 vc12 rfl (okX12_isSign N 59 S20 x23 S24 h25) (by decide) (Nat.zero_le _) rfl (Nat.le_of_ble_eq_true rfl) ?_
              obtain ⟨S27, h28, h⟩ := bV_e h
              refine r_cVV (y := mX12_need) (As := [.int x23]) (rest := []) dX12_line_157 qX12_259 kX12_need rfl ob80 vc12 rfl (okX12_need N x23 S24 S27 h28) (by decide) (Nat.zero_le _) rfl (Nat.le_of_ble_eq_true rfl) ?_
              cases h
              exact r_return dX12_line_160 rfl (Nat.zero_le _) ⟨rfl, rfl⟩
            · rw [if_neg c22] at h
              refine r_aload_n (x := 80) dX12_line_130 rfl ?_
              refine r_aload_n (x := 80) dX12_line_131 rfl ?_
              refine r_getfield (o := 80) (v := .int (S20.1 80 22)) dX12_line_132 lX12_186 ck80 nC80 rfl ?_
              refine r_putI dX12_line_135 lX12_256 ck80 nC80 ?_
              refine r_topS (fun S29 hS29 => ?_)
              replace h := lt_e hS29 h
              refine r_aload_n (x := 80) dX12_line_138 rfl ?_
              obtain ⟨S31, h32, h⟩ := bV_e h
              refine r_cVV (y := mX12_expression) (As := []) (rest := []) dX12_line_139 qX12_253 kX12_expression rfl ob80 vc12 rfl (okX12_expression N  S29 S31 h32) (by decide) (Nat.zero_le _) rfl (Nat.le_of_ble_eq_true rfl) ?_
              refine r_goto (tgt := 150) dX12_line_142 (by decide) ?_
              refine r_aload_n (x := 80) dX12_line_150 rfl ?_
              refine r_aload_n (x := 80) dX12_line_151 rfl ?_
              refine r_bipush (v := 59) dX12_line_152 rfl ?_
              obtain ⟨x33, S34, h35, h⟩ := bI_e h
              refine r_cVI (y := mX12_isSign) (As := [.int 59]) (rest := [.ref 80]) dX12_line_154 qX12_208 kX12_isSign rfl ob80 vc12 rfl (okX12_isSign N 59 S31 x33 S34 h35) (by decide) (Nat.zero_le _) rfl (Nat.le_of_ble_eq_true rfl) ?_
              obtain ⟨S37, h38, h⟩ := bV_e h
              refine r_cVV (y := mX12_need) (As := [.int x33]) (rest := []) dX12_line_157 qX12_259 kX12_need rfl ob80 vc12 rfl (okX12_need N x33 S34 S37 h38) (by decide) (Nat.zero_le _) rfl (Nat.le_of_ble_eq_true rfl) ?_
              cases h
              exact r_return dX12_line_160 rfl (Nat.zero_le _) ⟨rfl, rfl⟩
          refine r_icmp_eq (tgt := 123) dX12_line_116 (by decide) (fun c17 => ?_) (fun c17 => ?_)
          · refine r_iconst (v := 0) dX12_line_123 rfl ?_
            exact r_tope (by rw [hx18, if_pos c17]) keyx18
          · refine r_iconst (v := 1) dX12_line_119 rfl ?_
            refine r_goto (tgt := 124) dX12_line_120 (by decide) ?_
            exact r_tope (by rw [hx18, if_neg c17]) keyx18
      · rw [if_pos c6] at h
        refine r_aload_n (x := 80) dX12_line_67 rfl ?_
        refine r_iconst (v := 0) dX12_line_68 rfl ?_
        refine r_aload_n (x := 80) dX12_line_69 rfl ?_
        refine r_getfield (o := 80) (v := .int (S2.1 80 20)) dX12_line_70 lX12_250 ck80 nC80 rfl ?_
        refine r_iconst (v := (-1)) dX12_line_73 rfl ?_
        obtain ⟨x40, hx40⟩ : ∃ y : Int32, y = ((if (S2.1 80 20) = (-1) then 0 else 1) : Int32) := ⟨_, rfl⟩
        replace h := lt_e hx40 h
        have keyx40 : WP [] mX12_line 6 0 (qV T) 82 [some (.ref 80), some (.int x1)] (.int x40 :: [.int 0, .ref 80]) S2 0 := by
          obtain ⟨x41, S42, h43, h⟩ := bI_e h
          refine r_cVI (y := mX12_begins) (As := [.int 0, .int x40]) (rest := []) dX12_line_82 qX12_240 kX12_begins rfl ob80 vc12 rfl (okX12_begins N 0 x40 S2 x41 S42 h43) (by decide) (Nat.zero_le _) rfl (Nat.le_of_ble_eq_true rfl) ?_
          refine r_if_eq (tgt := 150) dX12_line_85 (by decide) (fun c44 => ?_) (fun c44 => ?_)
          · rw [if_pos c44] at h
            refine r_aload_n (x := 80) dX12_line_150 rfl ?_
            refine r_aload_n (x := 80) dX12_line_151 rfl ?_
            refine r_bipush (v := 59) dX12_line_152 rfl ?_
            obtain ⟨x45, S46, h47, h⟩ := bI_e h
            refine r_cVI (y := mX12_isSign) (As := [.int 59]) (rest := [.ref 80]) dX12_line_154 qX12_208 kX12_isSign rfl ob80 vc12 rfl (okX12_isSign N 59 S42 x45 S46 h47) (by decide) (Nat.zero_le _) rfl (Nat.le_of_ble_eq_true rfl) ?_
            obtain ⟨S49, h50, h⟩ := bV_e h
            refine r_cVV (y := mX12_need) (As := [.int x45]) (rest := []) dX12_line_157 qX12_259 kX12_need rfl ob80 vc12 rfl (okX12_need N x45 S46 S49 h50) (by decide) (Nat.zero_le _) rfl (Nat.le_of_ble_eq_true rfl) ?_
            cases h
            exact r_return dX12_line_160 rfl (Nat.zero_le _) ⟨rfl, rfl⟩
          · rw [if_neg c44] at h
            refine r_aload_n (x := 80) dX12_line_88 rfl ?_
            refine r_aload_n (x := 80) dX12_line_89 rfl ?_
            refine r_getfield (o := 80) (v := .int (S42.1 80 22)) dX12_line_90 lX12_186 ck80 nC80 rfl ?_
            refine r_putI dX12_line_93 lX12_250 ck80 nC80 ?_
            refine r_topS (fun S51 hS51 => ?_)
            replace h := lt_e hS51 h
            refine r_aload_n (x := 80) dX12_line_96 rfl ?_
            obtain ⟨S53, h54, h⟩ := bV_e h
            refine r_cVV (y := mX12_expression) (As := []) (rest := []) dX12_line_97 qX12_253 kX12_expression rfl ob80 vc12 rfl (okX12_expression N  S51 S53 h54) (by decide) (Nat.zero_le _) rfl (Nat.le_of_ble_eq_true rfl) ?_
            refine r_goto (tgt := 150) dX12_line_100 (by decide) ?_
            refine r_aload_n (x := 80) dX12_line_150 rfl ?_
            refine r_aload_n (x := 80) dX12_line_151 rfl ?_
            refine r_bipush (v := 59) dX12_line_152 rfl ?_
            obtain ⟨x55, S56, h57, h⟩ := bI_e h
            refine r_cVI (y := mX12_isSign) (As := [.int 59]) (rest := [.ref 80]) dX12_line_154 qX12_208 kX12_isSign rfl ob80 vc12 rfl (okX12_isSign N 59 S53 x55 S56 h57) (by decide) (Nat.zero_le _) rfl (Nat.le_of_ble_eq_true rfl) ?_
            obtain ⟨S59, h60, h⟩ := bV_e h
            refine r_cVV (y := mX12_need) (As := [.int x55]) (rest := []) dX12_line_157 qX12_259 kX12_need rfl ob80 vc12 rfl (okX12_need N x55 S56 S59 h60) (by decide) (Nat.zero_le _) rfl (Nat.le_of_ble_eq_true rfl) ?_
            cases h
            exact r_return dX12_line_160 rfl (Nat.zero_le _) ⟨rfl, rfl⟩
        refine r_icmp_eq (tgt := 81) dX12_line_74 (by decide) (fun c39 => ?_) (fun c39 => ?_)
        · refine r_iconst (v := 0) dX12_line_81 rfl ?_
          exact r_tope (by rw [hx40, if_pos c39]) keyx40
        · refine r_iconst (v := 1) dX12_line_77 rfl ?_
          refine r_goto (tgt := 82) dX12_line_78 (by decide) ?_
          exact r_tope (by rw [hx40, if_neg c39]) keyx40
    · rw [if_pos c5] at h
      refine r_aload_n (x := 80) dX12_line_45 rfl ?_
      refine r_iconst (v := 0) dX12_line_46 rfl ?_
      refine r_iconst (v := 0) dX12_line_47 rfl ?_
      obtain ⟨x61, S62, h63, h⟩ := bI_e h
      refine r_cVI (y := mX12_begins) (As := [.int 0, .int 0]) (rest := []) dX12_line_48 qX12_240 kX12_begins rfl ob80 vc12 rfl (okX12_begins N 0 0 S2 x61 S62 h63) (by decide) (Nat.zero_le _) rfl (Nat.le_of_ble_eq_true rfl) ?_
      refine r_if_eq (tgt := 150) dX12_line_51 (by decide) (fun c64 => ?_) (fun c64 => ?_)
      · rw [if_pos c64] at h
        refine r_aload_n (x := 80) dX12_line_150 rfl ?_
        refine r_aload_n (x := 80) dX12_line_151 rfl ?_
        refine r_bipush (v := 59) dX12_line_152 rfl ?_
        obtain ⟨x65, S66, h67, h⟩ := bI_e h
        refine r_cVI (y := mX12_isSign) (As := [.int 59]) (rest := [.ref 80]) dX12_line_154 qX12_208 kX12_isSign rfl ob80 vc12 rfl (okX12_isSign N 59 S62 x65 S66 h67) (by decide) (Nat.zero_le _) rfl (Nat.le_of_ble_eq_true rfl) ?_
        obtain ⟨S69, h70, h⟩ := bV_e h
        refine r_cVV (y := mX12_need) (As := [.int x65]) (rest := []) dX12_line_157 qX12_259 kX12_need rfl ob80 vc12 rfl (okX12_need N x65 S66 S69 h70) (by decide) (Nat.zero_le _) rfl (Nat.le_of_ble_eq_true rfl) ?_
        cases h
        exact r_return dX12_line_160 rfl (Nat.zero_le _) ⟨rfl, rfl⟩
      · rw [if_neg c64] at h
        refine r_aload_n (x := 80) dX12_line_54 rfl ?_
        obtain ⟨S72, h73, h⟩ := bV_e h
        refine r_cVV (y := mX12_readsPipe) (As := []) (rest := []) dX12_line_55 qX12_247 kX12_readsPipe rfl ob80 vc12 rfl (okX12_readsPipe N  S62 S72 h73) (by decide) (Nat.zero_le _) rfl (Nat.le_of_ble_eq_true rfl) ?_
        refine r_goto (tgt := 150) dX12_line_58 (by decide) ?_
        refine r_aload_n (x := 80) dX12_line_150 rfl ?_
        refine r_aload_n (x := 80) dX12_line_151 rfl ?_
        refine r_bipush (v := 59) dX12_line_152 rfl ?_
        obtain ⟨x74, S75, h76, h⟩ := bI_e h
        refine r_cVI (y := mX12_isSign) (As := [.int 59]) (rest := [.ref 80]) dX12_line_154 qX12_208 kX12_isSign rfl ob80 vc12 rfl (okX12_isSign N 59 S72 x74 S75 h76) (by decide) (Nat.zero_le _) rfl (Nat.le_of_ble_eq_true rfl) ?_
        obtain ⟨S78, h79, h⟩ := bV_e h
        refine r_cVV (y := mX12_need) (As := [.int x74]) (rest := []) dX12_line_157 qX12_259 kX12_need rfl ob80 vc12 rfl (okX12_need N x74 S75 S78 h79) (by decide) (Nat.zero_le _) rfl (Nat.le_of_ble_eq_true rfl) ?_
        cases h
        exact r_return dX12_line_160 rfl (Nat.zero_le _) ⟨rfl, rfl⟩
  · rw [if_pos c4] at h
    refine r_aload_n (x := 80) dX12_line_10 rfl ?_
    refine r_aload_n (x := 80) dX12_line_11 rfl ?_
    refine r_getfield (o := 80) (v := .int (S2.1 80 19)) dX12_line_12 lX12_183 ck80 nC80 rfl ?_
    refine r_bipush (v := 9) dX12_line_15 rfl ?_
    obtain ⟨x81, hx81⟩ : ∃ y : Int32, y = ((if (S2.1 80 19) = 9 then 1 else 0) : Int32) := ⟨_, rfl⟩
    replace h := lt_e hx81 h
    have keyx81 : WP [] mX12_line 6 0 (qV T) 25 [some (.ref 80), some (.int x1)] (.int x81 :: [.ref 80]) S2 0 := by
      refine r_iconst (v := 0) dX12_line_25 rfl ?_
      obtain ⟨x82, S83, h84, h⟩ := bI_e h
      refine r_cVI (y := mX12_begins) (As := [.int x81, .int 0]) (rest := []) dX12_line_26 qX12_240 kX12_begins rfl ob80 vc12 rfl (okX12_begins N x81 0 S2 x82 S83 h84) (by decide) (Nat.zero_le _) rfl (Nat.le_of_ble_eq_true rfl) ?_
      refine r_if_eq (tgt := 150) dX12_line_29 (by decide) (fun c85 => ?_) (fun c85 => ?_)
      · rw [if_pos c85] at h
        refine r_aload_n (x := 80) dX12_line_150 rfl ?_
        refine r_aload_n (x := 80) dX12_line_151 rfl ?_
        refine r_bipush (v := 59) dX12_line_152 rfl ?_
        obtain ⟨x86, S87, h88, h⟩ := bI_e h
        refine r_cVI (y := mX12_isSign) (As := [.int 59]) (rest := [.ref 80]) dX12_line_154 qX12_208 kX12_isSign rfl ob80 vc12 rfl (okX12_isSign N 59 S83 x86 S87 h88) (by decide) (Nat.zero_le _) rfl (Nat.le_of_ble_eq_true rfl) ?_
        obtain ⟨S90, h91, h⟩ := bV_e h
        refine r_cVV (y := mX12_need) (As := [.int x86]) (rest := []) dX12_line_157 qX12_259 kX12_need rfl ob80 vc12 rfl (okX12_need N x86 S87 S90 h91) (by decide) (Nat.zero_le _) rfl (Nat.le_of_ble_eq_true rfl) ?_
        cases h
        exact r_return dX12_line_160 rfl (Nat.zero_le _) ⟨rfl, rfl⟩
      · rw [if_neg c85] at h
        refine r_aload_n (x := 80) dX12_line_32 rfl ?_
        obtain ⟨S93, h94, h⟩ := bV_e h
        refine r_cVV (y := mX12_readsCup) (As := []) (rest := []) dX12_line_33 qX12_244 kX12_readsCup rfl ob80 vc12 rfl (okX12_readsCup N  S83 S93 h94) (by decide) (Nat.zero_le _) rfl (Nat.le_of_ble_eq_true rfl) ?_
        refine r_goto (tgt := 150) dX12_line_36 (by decide) ?_
        refine r_aload_n (x := 80) dX12_line_150 rfl ?_
        refine r_aload_n (x := 80) dX12_line_151 rfl ?_
        refine r_bipush (v := 59) dX12_line_152 rfl ?_
        obtain ⟨x95, S96, h97, h⟩ := bI_e h
        refine r_cVI (y := mX12_isSign) (As := [.int 59]) (rest := [.ref 80]) dX12_line_154 qX12_208 kX12_isSign rfl ob80 vc12 rfl (okX12_isSign N 59 S93 x95 S96 h97) (by decide) (Nat.zero_le _) rfl (Nat.le_of_ble_eq_true rfl) ?_
        obtain ⟨S99, h100, h⟩ := bV_e h
        refine r_cVV (y := mX12_need) (As := [.int x95]) (rest := []) dX12_line_157 qX12_259 kX12_need rfl ob80 vc12 rfl (okX12_need N x95 S96 S99 h100) (by decide) (Nat.zero_le _) rfl (Nat.le_of_ble_eq_true rfl) ?_
        cases h
        exact r_return dX12_line_160 rfl (Nat.zero_le _) ⟨rfl, rfl⟩
    refine r_icmp_ne (tgt := 24) dX12_line_17 (by decide) (fun c80 => ?_) (fun c80 => ?_)
    · refine r_iconst (v := 0) dX12_line_24 rfl ?_
      exact r_tope (by rw [hx81, if_neg c80]) keyx81
    · refine r_iconst (v := 1) dX12_line_20 rfl ?_
      refine r_goto (tgt := 25) dX12_line_21 (by decide) ?_
      exact r_tope (by rw [hx81, if_pos c80]) keyx81
def fX12_cave_74 (N : Nat) (v1 : Int32) : Nat → Int32 → PS → Option (Int32 × PS)
  | 0, _, _ => none
  | n + 1, v2, S =>
    (if 64 ≤ v2 then
      some (v2, S)
    else
      gd (inr v2 64) <|
      lt ((u2 S.1 86 (ix v2) 0, S.2) : PS) fun S17 =>
      lt (v2 + 1 : Int32) fun x18 =>
      fX12_cave_74 N v1 n x18 S17)
set_option maxHeartbeats 4000000 in
set_option maxRecDepth 100000 in
theorem okX12_cave_74 (N : Nat) (v1 : Int32) (Q : OQ) (u : Nat) (hu : u ≤ 0) : ∀ (n : Nat) (v2 : Int32) (S : PS) (y2 : Int32) (T : PS), fX12_cave_74 N v1 n v2 S = some (y2, T) → WP [] mX12_cave 7 0 Q 93 [some (.ref 80), some (.int v1), some (.int y2)] [] T u → WP [] mX12_cave 7 0 Q 74 [some (.ref 80), some (.int v1), some (.int v2)] [] S u := by
  intro n
  induction n with
  | zero => intro v2 S y2 T h; rw [fX12_cave_74] at h; cases h
  | succ n ih =>
    intro v2 S y2 T h k0
    rw [fX12_cave_74] at h
    refine r_iload_n (x := v2) dX12_cave_74 rfl ?_
    refine r_bipush (v := 64) dX12_cave_75 rfl ?_
    refine r_icmp_ge (tgt := 93) dX12_cave_77 (by decide) (fun c15 => ?_) (fun c15 => ?_)
    · rw [if_pos c15] at h
      cases h
      exact k0
    · rw [if_neg c15] at h
      refine r_aload_n (x := 80) dX12_cave_80 rfl ?_
      refine r_getfield (o := 80) (v := .ref 86) dX12_cave_81 lX12_35 ck80 nC80 rfl ?_
      refine r_iload_n (x := v2) dX12_cave_84 rfl ?_
      refine r_iconst (v := 0) dX12_cave_85 rfl ?_
      obtain ⟨g16, h⟩ := gd_e h
      refine r_iastore (a := 86) dX12_cave_86 ck86 nC86 (inr_IX g16) ?_
      refine r_topS (fun S17 hS17 => ?_)
      replace h := lt_e hS17 h
      obtain ⟨x18, hx18⟩ : ∃ y : Int32, y = (v2 + 1 : Int32) := ⟨_, rfl⟩
      replace h := lt_e hx18 h
      refine r_iinc (x := v2) (v := x18) (L' := [some (.ref 80), some (.int v1), some (.int x18)]) dX12_cave_87 rfl (by rw [hx18]; rfl) (Nat.le_of_ble_eq_true rfl) rfl rfl ?_
      refine r_goto (tgt := 74) dX12_cave_90 (by decide) ?_
      exact ih _ _ _ _ h k0
def fX12_cave_102 (N : Nat) (v1 : Int32) (v2 : Int32) : Nat → PS → Option (PS)
  | 0, _ => none
  | n + 1, S =>
    bI (fX12_isGood N  S) fun x28 S29 =>
    (if x28 = 0 then
      some S29
    else
      (if (S29.1 80 13) = 0 then
        some S29
      else
        bV (fX12_line N  S29) fun S34 =>
        fX12_cave_102 N v1 v2 n  S34))
set_option maxHeartbeats 4000000 in
set_option maxRecDepth 100000 in
theorem okX12_cave_102 (N : Nat) (v1 : Int32) (v2 : Int32) (Q : OQ) (u : Nat) (hu : u ≤ 0) : ∀ (n : Nat)  (S : PS)  (T : PS), fX12_cave_102 N v1 v2 n  S = some T → WP [] mX12_cave 7 0 Q 123 [some (.ref 80), some (.int v1), some (.int v2)] [] T u → WP [] mX12_cave 7 0 Q 102 [some (.ref 80), some (.int v1), some (.int v2)] [] S u := by
  intro n
  induction n with
  | zero => intro S T h; rw [fX12_cave_102] at h; cases h
  | succ n ih =>
    intro S T h k0
    rw [fX12_cave_102] at h
    refine r_aload_n (x := 80) dX12_cave_102 rfl ?_
    obtain ⟨x28, S29, h30, h⟩ := bI_e h
    refine r_cVI (y := mX12_isGood) (As := []) (rest := []) dX12_cave_103 qX12_173 kX12_isGood rfl ob80 vc12 rfl (okX12_isGood N  S x28 S29 h30) (by decide) hu rfl (Nat.le_of_ble_eq_true rfl) ?_
    refine r_if_eq (tgt := 123) dX12_cave_106 (by decide) (fun c31 => ?_) (fun c31 => ?_)
    · rw [if_pos c31] at h
      cases h
      exact k0
    · rw [if_neg c31] at h
      refine r_aload_n (x := 80) dX12_cave_109 rfl ?_
      refine r_getfield (o := 80) (v := .int (S29.1 80 13)) dX12_cave_110 lX12_147 ck80 nC80 rfl ?_
      refine r_if_eq (tgt := 123) dX12_cave_113 (by decide) (fun c32 => ?_) (fun c32 => ?_)
      · rw [if_pos c32] at h
        cases h
        exact k0
      · rw [if_neg c32] at h
        refine r_aload_n (x := 80) dX12_cave_116 rfl ?_
        obtain ⟨S34, h35, h⟩ := bV_e h
        refine r_cVV (y := mX12_line) (As := []) (rest := []) dX12_cave_117 qX12_266 kX12_line rfl ob80 vc12 rfl (okX12_line N  S29 S34 h35) (by decide) hu rfl (Nat.le_of_ble_eq_true rfl) ?_
        refine r_goto (tgt := 102) dX12_cave_120 (by decide) ?_
        exact ih _ _ h k0
def fX12_cave_195 (N : Nat) (v1 : Int32) : Nat → Int32 → PS → Option (Int32 × PS)
  | 0, _, _ => none
  | n + 1, v2, S =>
    (if 64 ≤ v2 then
      some (v2, S)
    else
      gd (inr v2 64) <|
      gd (inr v2 128) <|
      lt ((u2 S.1 91 (ix v2) (S.1 86 (ix v2)), S.2) : PS) fun S56 =>
      lt (v2 + 1 : Int32) fun x57 =>
      fX12_cave_195 N v1 n x57 S56)
set_option maxHeartbeats 4000000 in
set_option maxRecDepth 100000 in
theorem okX12_cave_195 (N : Nat) (v1 : Int32) (Q : OQ) (u : Nat) (hu : u ≤ 0) : ∀ (n : Nat) (v2 : Int32) (S : PS) (y2 : Int32) (T : PS), fX12_cave_195 N v1 n v2 S = some (y2, T) → WP [] mX12_cave 7 0 Q 219 [some (.ref 80), some (.int v1), some (.int y2)] [] T u → WP [] mX12_cave 7 0 Q 195 [some (.ref 80), some (.int v1), some (.int v2)] [] S u := by
  intro n
  induction n with
  | zero => intro v2 S y2 T h; rw [fX12_cave_195] at h; cases h
  | succ n ih =>
    intro v2 S y2 T h k0
    rw [fX12_cave_195] at h
    refine r_iload_n (x := v2) dX12_cave_195 rfl ?_
    refine r_bipush (v := 64) dX12_cave_196 rfl ?_
    refine r_icmp_ge (tgt := 219) dX12_cave_198 (by decide) (fun c53 => ?_) (fun c53 => ?_)
    · rw [if_pos c53] at h
      cases h
      exact k0
    · rw [if_neg c53] at h
      refine r_aload_n (x := 80) dX12_cave_201 rfl ?_
      refine r_getfield (o := 80) (v := .ref 91) dX12_cave_202 lX12_51 ck80 nC80 rfl ?_
      refine r_iload_n (x := v2) dX12_cave_205 rfl ?_
      refine r_aload_n (x := 80) dX12_cave_206 rfl ?_
      refine r_getfield (o := 80) (v := .ref 86) dX12_cave_207 lX12_35 ck80 nC80 rfl ?_
      refine r_iload_n (x := v2) dX12_cave_210 rfl ?_
      obtain ⟨g54, h⟩ := gd_e h
      refine r_iaload (a := 86) dX12_cave_211 ck86 nC86 (inr_IX g54) ?_
      obtain ⟨g55, h⟩ := gd_e h
      refine r_iastore (a := 91) dX12_cave_212 ck91 nC91 (inr_IX g55) ?_
      refine r_topS (fun S56 hS56 => ?_)
      replace h := lt_e hS56 h
      obtain ⟨x57, hx57⟩ : ∃ y : Int32, y = (v2 + 1 : Int32) := ⟨_, rfl⟩
      replace h := lt_e hx57 h
      refine r_iinc (x := v2) (v := x57) (L' := [some (.ref 80), some (.int v1), some (.int x57)]) dX12_cave_213 rfl (by rw [hx57]; rfl) (Nat.le_of_ble_eq_true rfl) rfl rfl ?_
      refine r_goto (tgt := 195) dX12_cave_216 (by decide) ?_
      exact ih _ _ _ _ h k0
def fX12_cave (N : Nat) (p0 : Int32) (S : PS) : Option (Int32 × PS) :=
  lt ((u2 S.1 80 0 0, S.2) : PS) fun S1 =>
  (if p0 < 0 then
    bI (fX12_right N 0 1 S1) fun x3 S4 =>
    (if x3 = 0 then
      some (0, S4)
    else
      lt ((u2 S4.1 80 7 0, S4.2) : PS) fun S7 =>
      lt ((u2 S7.1 80 9 (-1), S7.2) : PS) fun S8 =>
      lt ((u2 S8.1 80 8 0, S8.2) : PS) fun S9 =>
      lt ((u2 S9.1 80 11 p0, S9.2) : PS) fun S10 =>
      lt ((u2 S10.1 80 12 0, S10.2) : PS) fun S11 =>
      lt ((u2 S11.1 80 19 0, S11.2) : PS) fun S12 =>
      lt ((u2 S12.1 80 20 (-1), S12.2) : PS) fun S13 =>
      lt ((u2 S13.1 80 21 (-1), S13.2) : PS) fun S14 =>
      bT (fX12_cave_74 N p0 N 0 S14) fun q19 =>
      lt (q19.1 : Int32) fun x20 =>
      lt (q19.2 : PS) fun S21 =>
      lt ((u2 S21.1 80 22 0, S21.2) : PS) fun S24 =>
      bV (fX12_goes N  S24) fun S26 =>
      bT (fX12_cave_102 N p0 x20 N  S26) fun S37 =>
      bI (fX12_isGood N  S37) fun x40 S41 =>
      (if x40 = 0 then
        lt ((u2 S41.1 84 0 ((S41.1 84 0) + 1), S41.2) : PS) fun S66 =>
        some ((S66.1 80 8), S66)
      else
        lt ((u2 S41.1 80 1 (S41.1 80 19), S41.2) : PS) fun S44 =>
        lt ((u2 S44.1 80 2 (S44.1 80 20), S44.2) : PS) fun S45 =>
        lt ((u2 S45.1 80 3 (S45.1 80 21), S45.2) : PS) fun S46 =>
        bV (fX12_copies N 85 81 S46) fun S48 =>
        bV (fX12_copies N 87 82 S48) fun S51 =>
        bT (fX12_cave_195 N p0 N 0 S51) fun q58 =>
        lt (q58.1 : Int32) fun x59 =>
        lt (q58.2 : PS) fun S60 =>
        lt ((u2 S60.1 80 33 0, S60.2) : PS) fun S63 =>
        lt ((u2 S63.1 80 49 0, S63.2) : PS) fun S64 =>
        lt ((u2 S64.1 80 54 0, S64.2) : PS) fun S65 =>
        some (0, S65)))
  else
    lt ((if (S1.1 80 7) < p0 then 0 else 1) : Int32) fun x68 =>
    bI (fX12_right N x68 1 S1) fun x69 S70 =>
    (if x69 = 0 then
      some (0, S70)
    else
      lt ((u2 S70.1 80 7 0, S70.2) : PS) fun S73 =>
      lt ((u2 S73.1 80 9 (-1), S73.2) : PS) fun S74 =>
      lt ((u2 S74.1 80 8 0, S74.2) : PS) fun S75 =>
      lt ((u2 S75.1 80 11 p0, S75.2) : PS) fun S76 =>
      lt ((u2 S76.1 80 12 0, S76.2) : PS) fun S77 =>
      lt ((u2 S77.1 80 19 0, S77.2) : PS) fun S78 =>
      lt ((u2 S78.1 80 20 (-1), S78.2) : PS) fun S79 =>
      lt ((u2 S79.1 80 21 (-1), S79.2) : PS) fun S80 =>
      bT (fX12_cave_74 N p0 N 0 S80) fun q81 =>
      lt (q81.1 : Int32) fun x82 =>
      lt (q81.2 : PS) fun S83 =>
      lt ((u2 S83.1 80 22 0, S83.2) : PS) fun S86 =>
      bV (fX12_goes N  S86) fun S88 =>
      bT (fX12_cave_102 N p0 x82 N  S88) fun S91 =>
      bI (fX12_isGood N  S91) fun x94 S95 =>
      (if x94 = 0 then
        lt ((u2 S95.1 84 0 ((S95.1 84 0) + 1), S95.2) : PS) fun S115 =>
        some ((S115.1 80 8), S115)
      else
        lt ((u2 S95.1 80 1 (S95.1 80 19), S95.2) : PS) fun S98 =>
        lt ((u2 S98.1 80 2 (S98.1 80 20), S98.2) : PS) fun S99 =>
        lt ((u2 S99.1 80 3 (S99.1 80 21), S99.2) : PS) fun S100 =>
        bV (fX12_copies N 85 81 S100) fun S102 =>
        bV (fX12_copies N 87 82 S102) fun S105 =>
        bT (fX12_cave_195 N p0 N 0 S105) fun q107 =>
        lt (q107.1 : Int32) fun x108 =>
        lt (q107.2 : PS) fun S109 =>
        lt ((u2 S109.1 80 33 0, S109.2) : PS) fun S112 =>
        lt ((u2 S112.1 80 49 0, S112.2) : PS) fun S113 =>
        lt ((u2 S113.1 80 54 0, S113.2) : PS) fun S114 =>
        some (0, S114))))
set_option maxHeartbeats 4000000 in
set_option maxRecDepth 100000 in
theorem okX12_cave (N : Nat) (p0 : Int32) (S : PS) (r : Int32) (T : PS) (h : fX12_cave N p0 S = some (r, T)) : CT mX12_cave 7 0 [.ref 80, .int p0] S (qI r T) := by
  refine ct_of [some (.ref 80), some (.int p0), none] rfl (fun _ => rfl) (fun _ => Nat.le_of_ble_eq_true rfl) ?_
  unfold fX12_cave at h
  refine r_aload_n (x := 80) dX12_cave_0 rfl ?_
  refine r_iconst (v := 0) dX12_cave_1 rfl ?_
  refine r_putI dX12_cave_2 lX12_114 ck80 nC80 ?_
  refine r_topS (fun S1 hS1 => ?_)
  replace h := lt_e hS1 h
  refine r_aload_n (x := 80) dX12_cave_5 rfl ?_
  refine r_iload_n (x := p0) dX12_cave_6 rfl ?_
  refine r_if_lt (tgt := 22) dX12_cave_7 (by decide) (fun c2 => ?_) (fun c2 => ?_)
  · rw [if_pos c2] at h
    refine r_iconst (v := 0) dX12_cave_22 rfl ?_
    refine r_iconst (v := 1) dX12_cave_23 rfl ?_
    obtain ⟨x3, S4, h5, h⟩ := bI_e h
    refine r_cVI (y := mX12_right) (As := [.int 0, .int 1]) (rest := []) dX12_cave_24 qX12_262 kX12_right rfl ob80 vc12 rfl (okX12_right N 0 1 S1 x3 S4 h5) (by decide) (Nat.zero_le _) rfl (Nat.le_of_ble_eq_true rfl) ?_
    refine r_if_ne (tgt := 32) dX12_cave_27 (by decide) (fun c6 => ?_) (fun c6 => ?_)
    · rw [if_neg c6] at h
      refine r_aload_n (x := 80) dX12_cave_32 rfl ?_
      refine r_iconst (v := 0) dX12_cave_33 rfl ?_
      refine r_putI dX12_cave_34 lX12_117 ck80 nC80 ?_
      refine r_topS (fun S7 hS7 => ?_)
      replace h := lt_e hS7 h
      refine r_aload_n (x := 80) dX12_cave_37 rfl ?_
      refine r_iconst (v := (-1)) dX12_cave_38 rfl ?_
      refine r_putI dX12_cave_39 lX12_26 ck80 nC80 ?_
      refine r_topS (fun S8 hS8 => ?_)
      replace h := lt_e hS8 h
      refine r_aload_n (x := 80) dX12_cave_42 rfl ?_
      refine r_iconst (v := 0) dX12_cave_43 rfl ?_
      refine r_putI dX12_cave_44 lX12_170 ck80 nC80 ?_
      refine r_topS (fun S9 hS9 => ?_)
      replace h := lt_e hS9 h
      refine r_aload_n (x := 80) dX12_cave_47 rfl ?_
      refine r_iload_n (x := p0) dX12_cave_48 rfl ?_
      refine r_putI dX12_cave_49 lX12_124 ck80 nC80 ?_
      refine r_topS (fun S10 hS10 => ?_)
      replace h := lt_e hS10 h
      refine r_aload_n (x := 80) dX12_cave_52 rfl ?_
      refine r_iconst (v := 0) dX12_cave_53 rfl ?_
      refine r_putI dX12_cave_54 lX12_127 ck80 nC80 ?_
      refine r_topS (fun S11 hS11 => ?_)
      replace h := lt_e hS11 h
      refine r_aload_n (x := 80) dX12_cave_57 rfl ?_
      refine r_iconst (v := 0) dX12_cave_58 rfl ?_
      refine r_putI dX12_cave_59 lX12_183 ck80 nC80 ?_
      refine r_topS (fun S12 hS12 => ?_)
      replace h := lt_e hS12 h
      refine r_aload_n (x := 80) dX12_cave_62 rfl ?_
      refine r_iconst (v := (-1)) dX12_cave_63 rfl ?_
      refine r_putI dX12_cave_64 lX12_250 ck80 nC80 ?_
      refine r_topS (fun S13 hS13 => ?_)
      replace h := lt_e hS13 h
      refine r_aload_n (x := 80) dX12_cave_67 rfl ?_
      refine r_iconst (v := (-1)) dX12_cave_68 rfl ?_
      refine r_putI dX12_cave_69 lX12_256 ck80 nC80 ?_
      refine r_topS (fun S14 hS14 => ?_)
      replace h := lt_e hS14 h
      refine r_iconst (v := 0) dX12_cave_72 rfl ?_
      refine r_istore_n (L' := [some (.ref 80), some (.int p0), some (.int 0)]) dX12_cave_73 (Nat.le_of_ble_eq_true rfl) rfl rfl ?_
      obtain ⟨⟨x20, S21⟩, h23, h⟩ := bT_e h
      dsimp only at h
      replace h := pl_s (pl_s (h))
      refine okX12_cave_74 N p0 (qI r T) 0 (Nat.zero_le _) _ _ _ _ _ h23 ?_
      refine r_aload_n (x := 80) dX12_cave_93 rfl ?_
      refine r_iconst (v := 0) dX12_cave_94 rfl ?_
      refine r_putI dX12_cave_95 lX12_186 ck80 nC80 ?_
      refine r_topS (fun S24 hS24 => ?_)
      replace h := lt_e hS24 h
      refine r_aload_n (x := 80) dX12_cave_98 rfl ?_
      obtain ⟨S26, h27, h⟩ := bV_e h
      refine r_cVV (y := mX12_goes) (As := []) (rest := []) dX12_cave_99 qX12_177 kX12_goes rfl ob80 vc12 rfl (okX12_goes N  S24 S26 h27) (by decide) (Nat.zero_le _) rfl (Nat.le_of_ble_eq_true rfl) ?_
      obtain ⟨S37, h39, h⟩ := bT_e h
      refine okX12_cave_102 N p0 x20 (qI r T) 0 (Nat.zero_le _) _ _ _ h39 ?_
      refine r_aload_n (x := 80) dX12_cave_123 rfl ?_
      obtain ⟨x40, S41, h42, h⟩ := bI_e h
      refine r_cVI (y := mX12_isGood) (As := []) (rest := []) dX12_cave_124 qX12_173 kX12_isGood rfl ob80 vc12 rfl (okX12_isGood N  S37 x40 S41 h42) (by decide) (Nat.zero_le _) rfl (Nat.le_of_ble_eq_true rfl) ?_
      refine r_if_ne (tgt := 145) dX12_cave_127 (by decide) (fun c43 => ?_) (fun c43 => ?_)
      · rw [if_neg c43] at h
        refine r_aload_n (x := 80) dX12_cave_145 rfl ?_
        refine r_aload_n (x := 80) dX12_cave_146 rfl ?_
        refine r_getfield (o := 80) (v := .int (S41.1 80 19)) dX12_cave_147 lX12_183 ck80 nC80 rfl ?_
        refine r_putI dX12_cave_150 lX12_269 ck80 nC80 ?_
        refine r_topS (fun S44 hS44 => ?_)
        replace h := lt_e hS44 h
        refine r_aload_n (x := 80) dX12_cave_153 rfl ?_
        refine r_aload_n (x := 80) dX12_cave_154 rfl ?_
        refine r_getfield (o := 80) (v := .int (S44.1 80 20)) dX12_cave_155 lX12_250 ck80 nC80 rfl ?_
        refine r_putI dX12_cave_158 lX12_9 ck80 nC80 ?_
        refine r_topS (fun S45 hS45 => ?_)
        replace h := lt_e hS45 h
        refine r_aload_n (x := 80) dX12_cave_161 rfl ?_
        refine r_aload_n (x := 80) dX12_cave_162 rfl ?_
        refine r_getfield (o := 80) (v := .int (S45.1 80 21)) dX12_cave_163 lX12_256 ck80 nC80 rfl ?_
        refine r_putI dX12_cave_166 lX12_13 ck80 nC80 ?_
        refine r_topS (fun S46 hS46 => ?_)
        replace h := lt_e hS46 h
        refine r_aload_n (x := 80) dX12_cave_169 rfl ?_
        refine r_aload_n (x := 80) dX12_cave_170 rfl ?_
        refine r_getfield (o := 80) (v := .ref 85) dX12_cave_171 lX12_32 ck80 nC80 rfl ?_
        refine r_aload_n (x := 80) dX12_cave_174 rfl ?_
        refine r_getfield (o := 80) (v := .ref 81) dX12_cave_175 lX12_16 ck80 nC80 rfl ?_
        obtain ⟨S48, h49, h⟩ := bV_e h
        refine r_cVV (y := mX12_copies) (As := [.ref 85, .ref 81]) (rest := []) dX12_cave_178 qX12_272 kX12_copies rfl ob80 vc12 rfl (okX12_copies N 85 81 S46 S48 h49) (by decide) (Nat.zero_le _) rfl (Nat.le_of_ble_eq_true rfl) ?_
        refine r_aload_n (x := 80) dX12_cave_181 rfl ?_
        refine r_aload_n (x := 80) dX12_cave_182 rfl ?_
        refine r_getfield (o := 80) (v := .ref 87) dX12_cave_183 lX12_38 ck80 nC80 rfl ?_
        refine r_aload_n (x := 80) dX12_cave_186 rfl ?_
        refine r_getfield (o := 80) (v := .ref 82) dX12_cave_187 lX12_20 ck80 nC80 rfl ?_
        obtain ⟨S51, h52, h⟩ := bV_e h
        refine r_cVV (y := mX12_copies) (As := [.ref 87, .ref 82]) (rest := []) dX12_cave_190 qX12_272 kX12_copies rfl ob80 vc12 rfl (okX12_copies N 87 82 S48 S51 h52) (by decide) (Nat.zero_le _) rfl (Nat.le_of_ble_eq_true rfl) ?_
        refine r_iconst (v := 0) dX12_cave_193 rfl ?_
        refine r_istore_n (L' := [some (.ref 80), some (.int p0), some (.int 0)]) dX12_cave_194 (Nat.le_of_ble_eq_true rfl) rfl rfl ?_
        obtain ⟨⟨x59, S60⟩, h62, h⟩ := bT_e h
        dsimp only at h
        replace h := pl_s (pl_s (h))
        refine okX12_cave_195 N p0 (qI r T) 0 (Nat.zero_le _) _ _ _ _ _ h62 ?_
        refine r_aload_n (x := 80) dX12_cave_219 rfl ?_
        refine r_iconst (v := 0) dX12_cave_220 rfl ?_
        refine r_putI dX12_cave_221 lX12_276 ck80 nC80 ?_
        refine r_topS (fun S63 hS63 => ?_)
        replace h := lt_e hS63 h
        refine r_aload_n (x := 80) dX12_cave_224 rfl ?_
        refine r_iconst (v := 0) dX12_cave_225 rfl ?_
        refine r_putI dX12_cave_226 lX12_279 ck80 nC80 ?_
        refine r_topS (fun S64 hS64 => ?_)
        replace h := lt_e hS64 h
        refine r_aload_n (x := 80) dX12_cave_229 rfl ?_
        refine r_iconst (v := 0) dX12_cave_230 rfl ?_
        refine r_putZ dX12_cave_231 lX12_282 ck80 nC80 (by decide) ?_
        refine r_topS (fun S65 hS65 => ?_)
        replace h := lt_e hS65 h
        refine r_iconst (v := 0) dX12_cave_234 rfl ?_
        cases h
        exact r_ireturn dX12_cave_235 rfl (Nat.zero_le _) ⟨rfl, rfl⟩
      · rw [if_pos c43] at h
        refine r_aload_n (x := 80) dX12_cave_130 rfl ?_
        refine r_getfield (o := 80) (v := .ref 84) dX12_cave_131 lX12_29 ck80 nC80 rfl ?_
        refine r_iconst (v := 0) dX12_cave_134 rfl ?_
        refine r_dup2 dX12_cave_135 ?_
        refine r_iaload (a := 84) (k9 := 0) dX12_cave_136 ck84 nC84 ⟨by decide, by decide⟩ ?_
        refine r_iconst (v := 1) dX12_cave_137 rfl ?_
        refine r_iadd dX12_cave_138 ?_
        refine r_iastore (a := 84) (k9 := 0) dX12_cave_139 ck84 nC84 ⟨by decide, by decide⟩ ?_
        refine r_topS (fun S66 hS66 => ?_)
        replace h := lt_e hS66 h
        refine r_aload_n (x := 80) dX12_cave_140 rfl ?_
        refine r_getfield (o := 80) (v := .int (S66.1 80 8)) dX12_cave_141 lX12_170 ck80 nC80 rfl ?_
        cases h
        exact r_ireturn dX12_cave_144 rfl (Nat.zero_le _) ⟨rfl, rfl⟩
    · rw [if_pos c6] at h
      refine r_iconst (v := 0) dX12_cave_30 rfl ?_
      cases h
      exact r_ireturn dX12_cave_31 rfl (Nat.zero_le _) ⟨rfl, rfl⟩
  · rw [if_neg c2] at h
    refine r_iload_n (x := p0) dX12_cave_10 rfl ?_
    refine r_aload_n (x := 80) dX12_cave_11 rfl ?_
    refine r_getfield (o := 80) (v := .int (S1.1 80 7)) dX12_cave_12 lX12_117 ck80 nC80 rfl ?_
    obtain ⟨x68, hx68⟩ : ∃ y : Int32, y = ((if (S1.1 80 7) < p0 then 0 else 1) : Int32) := ⟨_, rfl⟩
    replace h := lt_e hx68 h
    have keyx68 : WP [] mX12_cave 7 0 (qI r T) 23 [some (.ref 80), some (.int p0), none] (.int x68 :: [.ref 80]) S1 0 := by
      refine r_iconst (v := 1) dX12_cave_23 rfl ?_
      obtain ⟨x69, S70, h71, h⟩ := bI_e h
      refine r_cVI (y := mX12_right) (As := [.int x68, .int 1]) (rest := []) dX12_cave_24 qX12_262 kX12_right rfl ob80 vc12 rfl (okX12_right N x68 1 S1 x69 S70 h71) (by decide) (Nat.zero_le _) rfl (Nat.le_of_ble_eq_true rfl) ?_
      refine r_if_ne (tgt := 32) dX12_cave_27 (by decide) (fun c72 => ?_) (fun c72 => ?_)
      · rw [if_neg c72] at h
        refine r_aload_n (x := 80) dX12_cave_32 rfl ?_
        refine r_iconst (v := 0) dX12_cave_33 rfl ?_
        refine r_putI dX12_cave_34 lX12_117 ck80 nC80 ?_
        refine r_topS (fun S73 hS73 => ?_)
        replace h := lt_e hS73 h
        refine r_aload_n (x := 80) dX12_cave_37 rfl ?_
        refine r_iconst (v := (-1)) dX12_cave_38 rfl ?_
        refine r_putI dX12_cave_39 lX12_26 ck80 nC80 ?_
        refine r_topS (fun S74 hS74 => ?_)
        replace h := lt_e hS74 h
        refine r_aload_n (x := 80) dX12_cave_42 rfl ?_
        refine r_iconst (v := 0) dX12_cave_43 rfl ?_
        refine r_putI dX12_cave_44 lX12_170 ck80 nC80 ?_
        refine r_topS (fun S75 hS75 => ?_)
        replace h := lt_e hS75 h
        refine r_aload_n (x := 80) dX12_cave_47 rfl ?_
        refine r_iload_n (x := p0) dX12_cave_48 rfl ?_
        refine r_putI dX12_cave_49 lX12_124 ck80 nC80 ?_
        refine r_topS (fun S76 hS76 => ?_)
        replace h := lt_e hS76 h
        refine r_aload_n (x := 80) dX12_cave_52 rfl ?_
        refine r_iconst (v := 0) dX12_cave_53 rfl ?_
        refine r_putI dX12_cave_54 lX12_127 ck80 nC80 ?_
        refine r_topS (fun S77 hS77 => ?_)
        replace h := lt_e hS77 h
        refine r_aload_n (x := 80) dX12_cave_57 rfl ?_
        refine r_iconst (v := 0) dX12_cave_58 rfl ?_
        refine r_putI dX12_cave_59 lX12_183 ck80 nC80 ?_
        refine r_topS (fun S78 hS78 => ?_)
        replace h := lt_e hS78 h
        refine r_aload_n (x := 80) dX12_cave_62 rfl ?_
        refine r_iconst (v := (-1)) dX12_cave_63 rfl ?_
        refine r_putI dX12_cave_64 lX12_250 ck80 nC80 ?_
        refine r_topS (fun S79 hS79 => ?_)
        replace h := lt_e hS79 h
        refine r_aload_n (x := 80) dX12_cave_67 rfl ?_
        refine r_iconst (v := (-1)) dX12_cave_68 rfl ?_
        refine r_putI dX12_cave_69 lX12_256 ck80 nC80 ?_
        refine r_topS (fun S80 hS80 => ?_)
        replace h := lt_e hS80 h
        refine r_iconst (v := 0) dX12_cave_72 rfl ?_
        refine r_istore_n (L' := [some (.ref 80), some (.int p0), some (.int 0)]) dX12_cave_73 (Nat.le_of_ble_eq_true rfl) rfl rfl ?_
        obtain ⟨⟨x82, S83⟩, h85, h⟩ := bT_e h
        dsimp only at h
        replace h := pl_s (pl_s (h))
        refine okX12_cave_74 N p0 (qI r T) 0 (Nat.zero_le _) _ _ _ _ _ h85 ?_
        refine r_aload_n (x := 80) dX12_cave_93 rfl ?_
        refine r_iconst (v := 0) dX12_cave_94 rfl ?_
        refine r_putI dX12_cave_95 lX12_186 ck80 nC80 ?_
        refine r_topS (fun S86 hS86 => ?_)
        replace h := lt_e hS86 h
        refine r_aload_n (x := 80) dX12_cave_98 rfl ?_
        obtain ⟨S88, h89, h⟩ := bV_e h
        refine r_cVV (y := mX12_goes) (As := []) (rest := []) dX12_cave_99 qX12_177 kX12_goes rfl ob80 vc12 rfl (okX12_goes N  S86 S88 h89) (by decide) (Nat.zero_le _) rfl (Nat.le_of_ble_eq_true rfl) ?_
        obtain ⟨S91, h93, h⟩ := bT_e h
        refine okX12_cave_102 N p0 x82 (qI r T) 0 (Nat.zero_le _) _ _ _ h93 ?_
        refine r_aload_n (x := 80) dX12_cave_123 rfl ?_
        obtain ⟨x94, S95, h96, h⟩ := bI_e h
        refine r_cVI (y := mX12_isGood) (As := []) (rest := []) dX12_cave_124 qX12_173 kX12_isGood rfl ob80 vc12 rfl (okX12_isGood N  S91 x94 S95 h96) (by decide) (Nat.zero_le _) rfl (Nat.le_of_ble_eq_true rfl) ?_
        refine r_if_ne (tgt := 145) dX12_cave_127 (by decide) (fun c97 => ?_) (fun c97 => ?_)
        · rw [if_neg c97] at h
          refine r_aload_n (x := 80) dX12_cave_145 rfl ?_
          refine r_aload_n (x := 80) dX12_cave_146 rfl ?_
          refine r_getfield (o := 80) (v := .int (S95.1 80 19)) dX12_cave_147 lX12_183 ck80 nC80 rfl ?_
          refine r_putI dX12_cave_150 lX12_269 ck80 nC80 ?_
          refine r_topS (fun S98 hS98 => ?_)
          replace h := lt_e hS98 h
          refine r_aload_n (x := 80) dX12_cave_153 rfl ?_
          refine r_aload_n (x := 80) dX12_cave_154 rfl ?_
          refine r_getfield (o := 80) (v := .int (S98.1 80 20)) dX12_cave_155 lX12_250 ck80 nC80 rfl ?_
          refine r_putI dX12_cave_158 lX12_9 ck80 nC80 ?_
          refine r_topS (fun S99 hS99 => ?_)
          replace h := lt_e hS99 h
          refine r_aload_n (x := 80) dX12_cave_161 rfl ?_
          refine r_aload_n (x := 80) dX12_cave_162 rfl ?_
          refine r_getfield (o := 80) (v := .int (S99.1 80 21)) dX12_cave_163 lX12_256 ck80 nC80 rfl ?_
          refine r_putI dX12_cave_166 lX12_13 ck80 nC80 ?_
          refine r_topS (fun S100 hS100 => ?_)
          replace h := lt_e hS100 h
          refine r_aload_n (x := 80) dX12_cave_169 rfl ?_
          refine r_aload_n (x := 80) dX12_cave_170 rfl ?_
          refine r_getfield (o := 80) (v := .ref 85) dX12_cave_171 lX12_32 ck80 nC80 rfl ?_
          refine r_aload_n (x := 80) dX12_cave_174 rfl ?_
          refine r_getfield (o := 80) (v := .ref 81) dX12_cave_175 lX12_16 ck80 nC80 rfl ?_
          obtain ⟨S102, h103, h⟩ := bV_e h
          refine r_cVV (y := mX12_copies) (As := [.ref 85, .ref 81]) (rest := []) dX12_cave_178 qX12_272 kX12_copies rfl ob80 vc12 rfl (okX12_copies N 85 81 S100 S102 h103) (by decide) (Nat.zero_le _) rfl (Nat.le_of_ble_eq_true rfl) ?_
          refine r_aload_n (x := 80) dX12_cave_181 rfl ?_
          refine r_aload_n (x := 80) dX12_cave_182 rfl ?_
          refine r_getfield (o := 80) (v := .ref 87) dX12_cave_183 lX12_38 ck80 nC80 rfl ?_
          refine r_aload_n (x := 80) dX12_cave_186 rfl ?_
          refine r_getfield (o := 80) (v := .ref 82) dX12_cave_187 lX12_20 ck80 nC80 rfl ?_
          obtain ⟨S105, h106, h⟩ := bV_e h
          refine r_cVV (y := mX12_copies) (As := [.ref 87, .ref 82]) (rest := []) dX12_cave_190 qX12_272 kX12_copies rfl ob80 vc12 rfl (okX12_copies N 87 82 S102 S105 h106) (by decide) (Nat.zero_le _) rfl (Nat.le_of_ble_eq_true rfl) ?_
          refine r_iconst (v := 0) dX12_cave_193 rfl ?_
          refine r_istore_n (L' := [some (.ref 80), some (.int p0), some (.int 0)]) dX12_cave_194 (Nat.le_of_ble_eq_true rfl) rfl rfl ?_
          obtain ⟨⟨x108, S109⟩, h111, h⟩ := bT_e h
          dsimp only at h
          replace h := pl_s (pl_s (h))
          refine okX12_cave_195 N p0 (qI r T) 0 (Nat.zero_le _) _ _ _ _ _ h111 ?_
          refine r_aload_n (x := 80) dX12_cave_219 rfl ?_
          refine r_iconst (v := 0) dX12_cave_220 rfl ?_
          refine r_putI dX12_cave_221 lX12_276 ck80 nC80 ?_
          refine r_topS (fun S112 hS112 => ?_)
          replace h := lt_e hS112 h
          refine r_aload_n (x := 80) dX12_cave_224 rfl ?_
          refine r_iconst (v := 0) dX12_cave_225 rfl ?_
          refine r_putI dX12_cave_226 lX12_279 ck80 nC80 ?_
          refine r_topS (fun S113 hS113 => ?_)
          replace h := lt_e hS113 h
          refine r_aload_n (x := 80) dX12_cave_229 rfl ?_
          refine r_iconst (v := 0) dX12_cave_230 rfl ?_
          refine r_putZ dX12_cave_231 lX12_282 ck80 nC80 (by decide) ?_
          refine r_topS (fun S114 hS114 => ?_)
          replace h := lt_e hS114 h
          refine r_iconst (v := 0) dX12_cave_234 rfl ?_
          cases h
          exact r_ireturn dX12_cave_235 rfl (Nat.zero_le _) ⟨rfl, rfl⟩
        · rw [if_pos c97] at h
          refine r_aload_n (x := 80) dX12_cave_130 rfl ?_
          refine r_getfield (o := 80) (v := .ref 84) dX12_cave_131 lX12_29 ck80 nC80 rfl ?_
          refine r_iconst (v := 0) dX12_cave_134 rfl ?_
          refine r_dup2 dX12_cave_135 ?_
          refine r_iaload (a := 84) (k9 := 0) dX12_cave_136 ck84 nC84 ⟨by decide, by decide⟩ ?_
          refine r_iconst (v := 1) dX12_cave_137 rfl ?_
          refine r_iadd dX12_cave_138 ?_
          refine r_iastore (a := 84) (k9 := 0) dX12_cave_139 ck84 nC84 ⟨by decide, by decide⟩ ?_
          refine r_topS (fun S115 hS115 => ?_)
          replace h := lt_e hS115 h
          refine r_aload_n (x := 80) dX12_cave_140 rfl ?_
          refine r_getfield (o := 80) (v := .int (S115.1 80 8)) dX12_cave_141 lX12_170 ck80 nC80 rfl ?_
          cases h
          exact r_ireturn dX12_cave_144 rfl (Nat.zero_le _) ⟨rfl, rfl⟩
      · rw [if_pos c72] at h
        refine r_iconst (v := 0) dX12_cave_30 rfl ?_
        cases h
        exact r_ireturn dX12_cave_31 rfl (Nat.zero_le _) ⟨rfl, rfl⟩
    refine r_icmp_gt (tgt := 22) dX12_cave_15 (by decide) (fun c67 => ?_) (fun c67 => ?_)
    · refine r_iconst (v := 0) dX12_cave_22 rfl ?_
      exact r_tope (by rw [hx68, if_pos c67]) keyx68
    · refine r_iconst (v := 1) dX12_cave_18 rfl ?_
      refine r_goto (tgt := 23) dX12_cave_19 (by decide) ?_
      exact r_tope (by rw [hx68, if_neg c67]) keyx68
def fX12_fault (N : Nat)  (S : PS) : Option (Int32 × PS) :=
  lt ((u2 S.1 80 0 0, S.2) : PS) fun S1 =>
  some ((S1.1 80 9), S1)
set_option maxHeartbeats 4000000 in
set_option maxRecDepth 100000 in
theorem okX12_fault (N : Nat)  (S : PS) (r : Int32) (T : PS) (h : fX12_fault N  S = some (r, T)) : CT mX12_fault 0 0 [.ref 80] S (qI r T) := by
  refine ct_of [some (.ref 80)] rfl (fun _ => rfl) (fun _ => Nat.le_of_ble_eq_true rfl) ?_
  unfold fX12_fault at h
  refine r_aload_n (x := 80) dX12_fault_0 rfl ?_
  refine r_iconst (v := 0) dX12_fault_1 rfl ?_
  refine r_putI dX12_fault_2 lX12_114 ck80 nC80 ?_
  refine r_topS (fun S1 hS1 => ?_)
  replace h := lt_e hS1 h
  refine r_aload_n (x := 80) dX12_fault_5 rfl ?_
  refine r_getfield (o := 80) (v := .int (S1.1 80 9)) dX12_fault_6 lX12_26 ck80 nC80 rfl ?_
  cases h
  exact r_ireturn dX12_fault_9 rfl (Nat.zero_le _) ⟨rfl, rfl⟩
def fX12_keeps_52 (N : Nat)  : Nat → Int32 → PS → Option (Int32 × PS)
  | 0, _, _ => none
  | n + 1, v1, S =>
    (if 64 ≤ v1 then
      some (v1, S)
    else
      gd (inr v1 128) <|
      gd (inr ((64 * (S.1 80 33)) + v1) 2560) <|
      lt ((u2 S.1 92 (ix ((64 * (S.1 80 33)) + v1)) (S.1 91 (ix v1)), S.2) : PS) fun S5 =>
      lt (v1 + 1 : Int32) fun x6 =>
      fX12_keeps_52 N  n x6 S5)
set_option maxHeartbeats 4000000 in
set_option maxRecDepth 100000 in
theorem okX12_keeps_52 (N : Nat)  (Q : OQ) (u : Nat) (hu : u ≤ 0) : ∀ (n : Nat) (v1 : Int32) (S : PS) (y1 : Int32) (T : PS), fX12_keeps_52 N  n v1 S = some (y1, T) → WP [] mX12_keeps 0 0 Q 84 [some (.ref 80), some (.int y1)] [] T u → WP [] mX12_keeps 0 0 Q 52 [some (.ref 80), some (.int v1)] [] S u := by
  intro n
  induction n with
  | zero => intro v1 S y1 T h; rw [fX12_keeps_52] at h; cases h
  | succ n ih =>
    intro v1 S y1 T h k0
    rw [fX12_keeps_52] at h
    refine r_iload_n (x := v1) dX12_keeps_52 rfl ?_
    refine r_bipush (v := 64) dX12_keeps_53 rfl ?_
    refine r_icmp_ge (tgt := 84) dX12_keeps_55 (by decide) (fun c2 => ?_) (fun c2 => ?_)
    · rw [if_pos c2] at h
      cases h
      exact k0
    · rw [if_neg c2] at h
      refine r_aload_n (x := 80) dX12_keeps_58 rfl ?_
      refine r_getfield (o := 80) (v := .ref 92) dX12_keeps_59 lX12_54 ck80 nC80 rfl ?_
      refine r_bipush (v := 64) dX12_keeps_62 rfl ?_
      refine r_aload_n (x := 80) dX12_keeps_64 rfl ?_
      refine r_getfield (o := 80) (v := .int (S.1 80 33)) dX12_keeps_65 lX12_276 ck80 nC80 rfl ?_
      refine r_imul dX12_keeps_68 ?_
      refine r_iload_n (x := v1) dX12_keeps_69 rfl ?_
      refine r_iadd dX12_keeps_70 ?_
      refine r_aload_n (x := 80) dX12_keeps_71 rfl ?_
      refine r_getfield (o := 80) (v := .ref 91) dX12_keeps_72 lX12_51 ck80 nC80 rfl ?_
      refine r_iload_n (x := v1) dX12_keeps_75 rfl ?_
      obtain ⟨g3, h⟩ := gd_e h
      refine r_iaload (a := 91) dX12_keeps_76 ck91 nC91 (inr_IX g3) ?_
      obtain ⟨g4, h⟩ := gd_e h
      refine r_iastore (a := 92) dX12_keeps_77 ck92 nC92 (inr_IX g4) ?_
      refine r_topS (fun S5 hS5 => ?_)
      replace h := lt_e hS5 h
      obtain ⟨x6, hx6⟩ : ∃ y : Int32, y = (v1 + 1 : Int32) := ⟨_, rfl⟩
      replace h := lt_e hx6 h
      refine r_iinc (x := v1) (v := x6) (L' := [some (.ref 80), some (.int x6)]) dX12_keeps_78 rfl (by rw [hx6]; rfl) (Nat.le_of_ble_eq_true rfl) rfl rfl ?_
      refine r_goto (tgt := 52) dX12_keeps_81 (by decide) ?_
      exact ih _ _ _ _ h k0
def fX12_keeps_12 (N : Nat)  : Nat → Int32 → PS → Option (Int32 × PS)
  | 0, _, _ => none
  | n + 1, v1, S =>
    (if 2560 ≤ v1 then
      some (v1, S)
    else
      gd (inr v1 2560) <|
      gd (inr (v1 - 64) 2560) <|
      lt ((u2 S.1 92 (ix (v1 - 64)) (S.1 92 (ix v1)), S.2) : PS) fun S16 =>
      lt (v1 + 1 : Int32) fun x17 =>
      fX12_keeps_12 N  n x17 S16)
set_option maxHeartbeats 4000000 in
set_option maxRecDepth 100000 in
theorem okX12_keeps_12 (N : Nat)  (Q : OQ) (u : Nat) (hu : u ≤ 0) : ∀ (n : Nat) (v1 : Int32) (S : PS) (y1 : Int32) (T : PS), fX12_keeps_12 N  n v1 S = some (y1, T) → WP [] mX12_keeps 0 0 Q 40 [some (.ref 80), some (.int y1)] [] T u → WP [] mX12_keeps 0 0 Q 12 [some (.ref 80), some (.int v1)] [] S u := by
  intro n
  induction n with
  | zero => intro v1 S y1 T h; rw [fX12_keeps_12] at h; cases h
  | succ n ih =>
    intro v1 S y1 T h k0
    rw [fX12_keeps_12] at h
    refine r_iload_n (x := v1) dX12_keeps_12 rfl ?_
    refine r_sipush (v := 2560) dX12_keeps_13 rfl ?_
    refine r_icmp_ge (tgt := 40) dX12_keeps_16 (by decide) (fun c13 => ?_) (fun c13 => ?_)
    · rw [if_pos c13] at h
      cases h
      exact k0
    · rw [if_neg c13] at h
      refine r_aload_n (x := 80) dX12_keeps_19 rfl ?_
      refine r_getfield (o := 80) (v := .ref 92) dX12_keeps_20 lX12_54 ck80 nC80 rfl ?_
      refine r_iload_n (x := v1) dX12_keeps_23 rfl ?_
      refine r_bipush (v := 64) dX12_keeps_24 rfl ?_
      refine r_isub dX12_keeps_26 ?_
      refine r_aload_n (x := 80) dX12_keeps_27 rfl ?_
      refine r_getfield (o := 80) (v := .ref 92) dX12_keeps_28 lX12_54 ck80 nC80 rfl ?_
      refine r_iload_n (x := v1) dX12_keeps_31 rfl ?_
      obtain ⟨g14, h⟩ := gd_e h
      refine r_iaload (a := 92) dX12_keeps_32 ck92 nC92 (inr_IX g14) ?_
      obtain ⟨g15, h⟩ := gd_e h
      refine r_iastore (a := 92) dX12_keeps_33 ck92 nC92 (inr_IX g15) ?_
      refine r_topS (fun S16 hS16 => ?_)
      replace h := lt_e hS16 h
      obtain ⟨x17, hx17⟩ : ∃ y : Int32, y = (v1 + 1 : Int32) := ⟨_, rfl⟩
      replace h := lt_e hx17 h
      refine r_iinc (x := v1) (v := x17) (L' := [some (.ref 80), some (.int x17)]) dX12_keeps_34 rfl (by rw [hx17]; rfl) (Nat.le_of_ble_eq_true rfl) rfl rfl ?_
      refine r_goto (tgt := 12) dX12_keeps_37 (by decide) ?_
      exact ih _ _ _ _ h k0
def fX12_keeps (N : Nat)  (S : PS) : Option PS :=
  (if (S.1 80 33) = 40 then
    bT (fX12_keeps_12 N  N 64 S) fun q18 =>
    lt (q18.1 : Int32) fun x19 =>
    lt (q18.2 : PS) fun S20 =>
    lt ((u2 S20.1 80 33 ((S20.1 80 33) - 1), S20.2) : PS) fun S23 =>
    bT (fX12_keeps_52 N  N 0 S23) fun q24 =>
    lt (q24.1 : Int32) fun x25 =>
    lt (q24.2 : PS) fun S26 =>
    lt ((u2 S26.1 80 33 ((S26.1 80 33) + 1), S26.2) : PS) fun S29 =>
    some S29
  else
    bT (fX12_keeps_52 N  N 0 S) fun q7 =>
    lt (q7.1 : Int32) fun x8 =>
    lt (q7.2 : PS) fun S9 =>
    lt ((u2 S9.1 80 33 ((S9.1 80 33) + 1), S9.2) : PS) fun S12 =>
    some S12)
set_option maxHeartbeats 4000000 in
set_option maxRecDepth 100000 in
theorem okX12_keeps (N : Nat)  (S : PS) (T : PS) (h : fX12_keeps N  S = some T) : CT mX12_keeps 0 0 [.ref 80] S (qV T) := by
  refine ct_of [some (.ref 80), none] rfl (fun _ => rfl) (fun _ => Nat.le_of_ble_eq_true rfl) ?_
  unfold fX12_keeps at h
  refine r_aload_n (x := 80) dX12_keeps_0 rfl ?_
  refine r_getfield (o := 80) (v := .int (S.1 80 33)) dX12_keeps_1 lX12_276 ck80 nC80 rfl ?_
  refine r_bipush (v := 40) dX12_keeps_4 rfl ?_
  refine r_icmp_ne (tgt := 50) dX12_keeps_6 (by decide) (fun c1 => ?_) (fun c1 => ?_)
  · rw [if_neg c1] at h
    refine r_iconst (v := 0) dX12_keeps_50 rfl ?_
    refine r_istore_n (L' := [some (.ref 80), some (.int 0)]) dX12_keeps_51 (Nat.le_of_ble_eq_true rfl) rfl rfl ?_
    obtain ⟨⟨x8, S9⟩, h11, h⟩ := bT_e h
    dsimp only at h
    replace h := pl_s (pl_s (h))
    refine okX12_keeps_52 N  (qV T) 0 (Nat.zero_le _) _ _ _ _ _ h11 ?_
    refine r_aload_n (x := 80) dX12_keeps_84 rfl ?_
    refine r_dup_ref dX12_keeps_85 ?_
    refine r_getfield (o := 80) (v := .int (S9.1 80 33)) dX12_keeps_86 lX12_276 ck80 nC80 rfl ?_
    refine r_iconst (v := 1) dX12_keeps_89 rfl ?_
    refine r_iadd dX12_keeps_90 ?_
    refine r_putI dX12_keeps_91 lX12_276 ck80 nC80 ?_
    refine r_topS (fun S12 hS12 => ?_)
    replace h := lt_e hS12 h
    cases h
    exact r_return dX12_keeps_94 rfl (Nat.zero_le _) ⟨rfl, rfl⟩
  · rw [if_pos c1] at h
    refine r_bipush (v := 64) dX12_keeps_9 rfl ?_
    refine r_istore_n (L' := [some (.ref 80), some (.int 64)]) dX12_keeps_11 (Nat.le_of_ble_eq_true rfl) rfl rfl ?_
    obtain ⟨⟨x19, S20⟩, h22, h⟩ := bT_e h
    dsimp only at h
    replace h := pl_s (pl_s (h))
    refine okX12_keeps_12 N  (qV T) 0 (Nat.zero_le _) _ _ _ _ _ h22 ?_
    refine r_aload_n (x := 80) dX12_keeps_40 rfl ?_
    refine r_dup_ref dX12_keeps_41 ?_
    refine r_getfield (o := 80) (v := .int (S20.1 80 33)) dX12_keeps_42 lX12_276 ck80 nC80 rfl ?_
    refine r_iconst (v := 1) dX12_keeps_45 rfl ?_
    refine r_isub dX12_keeps_46 ?_
    refine r_putI dX12_keeps_47 lX12_276 ck80 nC80 ?_
    refine r_topS (fun S23 hS23 => ?_)
    replace h := lt_e hS23 h
    refine r_iconst (v := 0) dX12_keeps_50 rfl ?_
    refine r_istore_n (L' := [some (.ref 80), some (.int 0)]) dX12_keeps_51 (Nat.le_of_ble_eq_true rfl) rfl rfl ?_
    obtain ⟨⟨x25, S26⟩, h28, h⟩ := bT_e h
    dsimp only at h
    replace h := pl_s (pl_s (h))
    refine okX12_keeps_52 N  (qV T) 0 (Nat.zero_le _) _ _ _ _ _ h28 ?_
    refine r_aload_n (x := 80) dX12_keeps_84 rfl ?_
    refine r_dup_ref dX12_keeps_85 ?_
    refine r_getfield (o := 80) (v := .int (S26.1 80 33)) dX12_keeps_86 lX12_276 ck80 nC80 rfl ?_
    refine r_iconst (v := 1) dX12_keeps_89 rfl ?_
    refine r_iadd dX12_keeps_90 ?_
    refine r_putI dX12_keeps_91 lX12_276 ck80 nC80 ?_
    refine r_topS (fun S29 hS29 => ?_)
    replace h := lt_e hS29 h
    cases h
    exact r_return dX12_keeps_94 rfl (Nat.zero_le _) ⟨rfl, rfl⟩
def fX12_refuses (N : Nat) (p0 : Int32) (S : PS) : Option (Int32 × PS) :=
  gd (inr p0 3) <|
  gd (inr p0 3) <|
  lt ((u2 S.1 84 (ix p0) ((S.1 84 (ix p0)) + 1), S.2) : PS) fun S3 =>
  some ((-1), S3)
set_option maxHeartbeats 4000000 in
set_option maxRecDepth 100000 in
theorem okX12_refuses (N : Nat) (p0 : Int32) (S : PS) (r : Int32) (T : PS) (h : fX12_refuses N p0 S = some (r, T)) : CT mX12_refuses 0 0 [.ref 80, .int p0] S (qI r T) := by
  refine ct_of [some (.ref 80), some (.int p0)] rfl (fun _ => rfl) (fun _ => Nat.le_of_ble_eq_true rfl) ?_
  unfold fX12_refuses at h
  refine r_aload_n (x := 80) dX12_refuses_0 rfl ?_
  refine r_getfield (o := 80) (v := .ref 84) dX12_refuses_1 lX12_29 ck80 nC80 rfl ?_
  refine r_iload_n (x := p0) dX12_refuses_4 rfl ?_
  refine r_dup2 dX12_refuses_5 ?_
  obtain ⟨g1, h⟩ := gd_e h
  refine r_iaload (a := 84) dX12_refuses_6 ck84 nC84 (inr_IX g1) ?_
  refine r_iconst (v := 1) dX12_refuses_7 rfl ?_
  refine r_iadd dX12_refuses_8 ?_
  obtain ⟨g2, h⟩ := gd_e h
  refine r_iastore (a := 84) dX12_refuses_9 ck84 nC84 (inr_IX g2) ?_
  refine r_topS (fun S3 hS3 => ?_)
  replace h := lt_e hS3 h
  refine r_iconst (v := (-1)) dX12_refuses_10 rfl ?_
  cases h
  exact r_ireturn dX12_refuses_11 rfl (Nat.zero_le _) ⟨rfl, rfl⟩
def fX12_undo_26 (N : Nat)  : Nat → Int32 → PS → Option (Int32 × PS)
  | 0, _, _ => none
  | n + 1, v1, S =>
    (if 64 ≤ v1 then
      some (v1, S)
    else
      gd (inr ((64 * (S.1 80 33)) + v1) 2560) <|
      gd (inr v1 128) <|
      lt ((u2 S.1 91 (ix v1) (S.1 92 (ix ((64 * (S.1 80 33)) + v1))), S.2) : PS) fun S7 =>
      lt (v1 + 1 : Int32) fun x8 =>
      fX12_undo_26 N  n x8 S7)
set_option maxHeartbeats 4000000 in
set_option maxRecDepth 100000 in
theorem okX12_undo_26 (N : Nat)  (Q : OQ) (u : Nat) (hu : u ≤ 0) : ∀ (n : Nat) (v1 : Int32) (S : PS) (y1 : Int32) (T : PS), fX12_undo_26 N  n v1 S = some (y1, T) → WP [] mX12_undo 0 0 Q 58 [some (.ref 80), some (.int y1)] [] T u → WP [] mX12_undo 0 0 Q 26 [some (.ref 80), some (.int v1)] [] S u := by
  intro n
  induction n with
  | zero => intro v1 S y1 T h; rw [fX12_undo_26] at h; cases h
  | succ n ih =>
    intro v1 S y1 T h k0
    rw [fX12_undo_26] at h
    refine r_iload_n (x := v1) dX12_undo_26 rfl ?_
    refine r_bipush (v := 64) dX12_undo_27 rfl ?_
    refine r_icmp_ge (tgt := 58) dX12_undo_29 (by decide) (fun c4 => ?_) (fun c4 => ?_)
    · rw [if_pos c4] at h
      cases h
      exact k0
    · rw [if_neg c4] at h
      refine r_aload_n (x := 80) dX12_undo_32 rfl ?_
      refine r_getfield (o := 80) (v := .ref 91) dX12_undo_33 lX12_51 ck80 nC80 rfl ?_
      refine r_iload_n (x := v1) dX12_undo_36 rfl ?_
      refine r_aload_n (x := 80) dX12_undo_37 rfl ?_
      refine r_getfield (o := 80) (v := .ref 92) dX12_undo_38 lX12_54 ck80 nC80 rfl ?_
      refine r_bipush (v := 64) dX12_undo_41 rfl ?_
      refine r_aload_n (x := 80) dX12_undo_43 rfl ?_
      refine r_getfield (o := 80) (v := .int (S.1 80 33)) dX12_undo_44 lX12_276 ck80 nC80 rfl ?_
      refine r_imul dX12_undo_47 ?_
      refine r_iload_n (x := v1) dX12_undo_48 rfl ?_
      refine r_iadd dX12_undo_49 ?_
      obtain ⟨g5, h⟩ := gd_e h
      refine r_iaload (a := 92) dX12_undo_50 ck92 nC92 (inr_IX g5) ?_
      obtain ⟨g6, h⟩ := gd_e h
      refine r_iastore (a := 91) dX12_undo_51 ck91 nC91 (inr_IX g6) ?_
      refine r_topS (fun S7 hS7 => ?_)
      replace h := lt_e hS7 h
      obtain ⟨x8, hx8⟩ : ∃ y : Int32, y = (v1 + 1 : Int32) := ⟨_, rfl⟩
      replace h := lt_e hx8 h
      refine r_iinc (x := v1) (v := x8) (L' := [some (.ref 80), some (.int x8)]) dX12_undo_52 rfl (by rw [hx8]; rfl) (Nat.le_of_ble_eq_true rfl) rfl rfl ?_
      refine r_goto (tgt := 26) dX12_undo_55 (by decide) ?_
      exact ih _ _ _ _ h k0
def fX12_undo (N : Nat)  (S : PS) : Option (Int32 × PS) :=
  lt ((u2 S.1 80 0 0, S.2) : PS) fun S1 =>
  (if (S1.1 80 33) = 0 then
    some ((-1), S1)
  else
    lt ((u2 S1.1 80 33 ((S1.1 80 33) - 1), S1.2) : PS) fun S3 =>
    bT (fX12_undo_26 N  N 0 S3) fun q9 =>
    lt (q9.1 : Int32) fun x10 =>
    lt (q9.2 : PS) fun S11 =>
    some ((S11.1 80 33), S11))
set_option maxHeartbeats 4000000 in
set_option maxRecDepth 100000 in
theorem okX12_undo (N : Nat)  (S : PS) (r : Int32) (T : PS) (h : fX12_undo N  S = some (r, T)) : CT mX12_undo 0 0 [.ref 80] S (qI r T) := by
  refine ct_of [some (.ref 80), none] rfl (fun _ => rfl) (fun _ => Nat.le_of_ble_eq_true rfl) ?_
  unfold fX12_undo at h
  refine r_aload_n (x := 80) dX12_undo_0 rfl ?_
  refine r_iconst (v := 0) dX12_undo_1 rfl ?_
  refine r_putI dX12_undo_2 lX12_114 ck80 nC80 ?_
  refine r_topS (fun S1 hS1 => ?_)
  replace h := lt_e hS1 h
  refine r_aload_n (x := 80) dX12_undo_5 rfl ?_
  refine r_getfield (o := 80) (v := .int (S1.1 80 33)) dX12_undo_6 lX12_276 ck80 nC80 rfl ?_
  refine r_if_ne (tgt := 14) dX12_undo_9 (by decide) (fun c2 => ?_) (fun c2 => ?_)
  · rw [if_neg c2] at h
    refine r_aload_n (x := 80) dX12_undo_14 rfl ?_
    refine r_dup_ref dX12_undo_15 ?_
    refine r_getfield (o := 80) (v := .int (S1.1 80 33)) dX12_undo_16 lX12_276 ck80 nC80 rfl ?_
    refine r_iconst (v := 1) dX12_undo_19 rfl ?_
    refine r_isub dX12_undo_20 ?_
    refine r_putI dX12_undo_21 lX12_276 ck80 nC80 ?_
    refine r_topS (fun S3 hS3 => ?_)
    replace h := lt_e hS3 h
    refine r_iconst (v := 0) dX12_undo_24 rfl ?_
    refine r_istore_n (L' := [some (.ref 80), some (.int 0)]) dX12_undo_25 (Nat.le_of_ble_eq_true rfl) rfl rfl ?_
    obtain ⟨⟨x10, S11⟩, h13, h⟩ := bT_e h
    dsimp only at h
    replace h := pl_s (pl_s (h))
    refine okX12_undo_26 N  (qI r T) 0 (Nat.zero_le _) _ _ _ _ _ h13 ?_
    refine r_aload_n (x := 80) dX12_undo_58 rfl ?_
    refine r_getfield (o := 80) (v := .int (S11.1 80 33)) dX12_undo_59 lX12_276 ck80 nC80 rfl ?_
    cases h
    exact r_ireturn dX12_undo_62 rfl (Nat.zero_le _) ⟨rfl, rfl⟩
  · rw [if_pos c2] at h
    refine r_iconst (v := (-1)) dX12_undo_12 rfl ?_
    cases h
    exact r_ireturn dX12_undo_13 rfl (Nat.zero_le _) ⟨rfl, rfl⟩
def fX12_tries_2 (N : Nat)  : Nat → Int32 → PS → Option (Int32 × PS)
  | 0, _, _ => none
  | n + 1, v1, S =>
    (if 64 ≤ v1 then
      some (v1, S)
    else
      gd (inr v1 128) <|
      gd (inr (64 + v1) 128) <|
      lt ((u2 S.1 91 (ix (64 + v1)) (S.1 91 (ix v1)), S.2) : PS) fun S4 =>
      lt (v1 + 1 : Int32) fun x5 =>
      fX12_tries_2 N  n x5 S4)
set_option maxHeartbeats 4000000 in
set_option maxRecDepth 100000 in
theorem okX12_tries_2 (N : Nat)  (Q : OQ) (u : Nat) (hu : u ≤ 0) : ∀ (n : Nat) (v1 : Int32) (S : PS) (y1 : Int32) (T : PS), fX12_tries_2 N  n v1 S = some (y1, T) → WP [] mX12_tries 0 0 Q 29 [some (.ref 80), some (.int y1)] [] T u → WP [] mX12_tries 0 0 Q 2 [some (.ref 80), some (.int v1)] [] S u := by
  intro n
  induction n with
  | zero => intro v1 S y1 T h; rw [fX12_tries_2] at h; cases h
  | succ n ih =>
    intro v1 S y1 T h k0
    rw [fX12_tries_2] at h
    refine r_iload_n (x := v1) dX12_tries_2 rfl ?_
    refine r_bipush (v := 64) dX12_tries_3 rfl ?_
    refine r_icmp_ge (tgt := 29) dX12_tries_5 (by decide) (fun c1 => ?_) (fun c1 => ?_)
    · rw [if_pos c1] at h
      cases h
      exact k0
    · rw [if_neg c1] at h
      refine r_aload_n (x := 80) dX12_tries_8 rfl ?_
      refine r_getfield (o := 80) (v := .ref 91) dX12_tries_9 lX12_51 ck80 nC80 rfl ?_
      refine r_bipush (v := 64) dX12_tries_12 rfl ?_
      refine r_iload_n (x := v1) dX12_tries_14 rfl ?_
      refine r_iadd dX12_tries_15 ?_
      refine r_aload_n (x := 80) dX12_tries_16 rfl ?_
      refine r_getfield (o := 80) (v := .ref 91) dX12_tries_17 lX12_51 ck80 nC80 rfl ?_
      refine r_iload_n (x := v1) dX12_tries_20 rfl ?_
      obtain ⟨g2, h⟩ := gd_e h
      refine r_iaload (a := 91) dX12_tries_21 ck91 nC91 (inr_IX g2) ?_
      obtain ⟨g3, h⟩ := gd_e h
      refine r_iastore (a := 91) dX12_tries_22 ck91 nC91 (inr_IX g3) ?_
      refine r_topS (fun S4 hS4 => ?_)
      replace h := lt_e hS4 h
      obtain ⟨x5, hx5⟩ : ∃ y : Int32, y = (v1 + 1 : Int32) := ⟨_, rfl⟩
      replace h := lt_e hx5 h
      refine r_iinc (x := v1) (v := x5) (L' := [some (.ref 80), some (.int x5)]) dX12_tries_23 rfl (by rw [hx5]; rfl) (Nat.le_of_ble_eq_true rfl) rfl rfl ?_
      refine r_goto (tgt := 2) dX12_tries_26 (by decide) ?_
      exact ih _ _ _ _ h k0
def fX12_tries (N : Nat)  (S : PS) : Option PS :=
  bT (fX12_tries_2 N  N 0 S) fun q6 =>
  lt (q6.1 : Int32) fun x7 =>
  lt (q6.2 : PS) fun S8 =>
  some S8
set_option maxHeartbeats 4000000 in
set_option maxRecDepth 100000 in
theorem okX12_tries (N : Nat)  (S : PS) (T : PS) (h : fX12_tries N  S = some T) : CT mX12_tries 0 0 [.ref 80] S (qV T) := by
  refine ct_of [some (.ref 80), none] rfl (fun _ => rfl) (fun _ => Nat.le_of_ble_eq_true rfl) ?_
  unfold fX12_tries at h
  refine r_iconst (v := 0) dX12_tries_0 rfl ?_
  refine r_istore_n (L' := [some (.ref 80), some (.int 0)]) dX12_tries_1 (Nat.le_of_ble_eq_true rfl) rfl rfl ?_
  obtain ⟨⟨x7, S8⟩, h10, h⟩ := bT_e h
  dsimp only at h
  replace h := pl_s (pl_s (h))
  refine okX12_tries_2 N  (qV T) 0 (Nat.zero_le _) _ _ _ _ _ h10 ?_
  cases h
  exact r_return dX12_tries_29 rfl (Nat.zero_le _) ⟨rfl, rfl⟩
def fX12_works (N : Nat) (p0 : Int32) (p1 : Int32) (p2 : Int32) (S : PS) : Option (Int32 × PS) :=
  (if p0 = 4 then
    lt ((if p1 = 0 then 0 else (if p2 = 0 then 0 else 1)) : Int32) fun x4 =>
    some (x4, S)
  else if p0 = 5 then
    lt ((if p1 = 0 then (if p2 = 0 then 0 else 1) else 1) : Int32) fun x8 =>
    some (x8, S)
  else if p0 = 6 then
    lt ((if p2 ≤ p1 then 0 else 1) : Int32) fun x11 =>
    some (x11, S)
  else if p0 = 7 then
    lt ((if p1 = p2 then 1 else 0) : Int32) fun x14 =>
    some (x14, S)
  else if p0 = 8 then
    some ((p1 + p2), S)
  else if p0 = 9 then
    some ((p1 - p2), S)
  else if p0 = 10 then
    some ((p1 * p2), S)
  else 
    (if p2 = 0 then
      some (0, S)
    else
      gd (¬ p2 = 0) <|
      some ((p1 / p2), S)))
set_option maxHeartbeats 4000000 in
set_option maxRecDepth 100000 in
theorem okX12_works (N : Nat) (p0 : Int32) (p1 : Int32) (p2 : Int32) (S : PS) (r : Int32) (T : PS) (h : fX12_works N p0 p1 p2 S = some (r, T)) : CT mX12_works 0 0 [.int p0, .int p1, .int p2] S (qI r T) := by
  refine ct_of [some (.int p0), some (.int p1), some (.int p2)] rfl (fun _ => rfl) (fun _ => Nat.le_of_ble_eq_true rfl) ?_
  unfold fX12_works at h
  refine r_iload_n (x := p0) dX12_works_0 rfl ?_
  by_cases c1 : p0 = 4
  · rw [if_pos c1] at h
    refine r_tableIn (tgt := 44) dX12_works_1 (by rw [c1]; decide) (by rw [c1]; decide) (by rw [c1]; rfl) (by decide) ?_
    refine r_iload_n (x := p1) dX12_works_44 rfl ?_
    obtain ⟨x4, hx4⟩ : ∃ y : Int32, y = ((if p1 = 0 then 0 else (if p2 = 0 then 0 else 1)) : Int32) := ⟨_, rfl⟩
    replace h := lt_e hx4 h
    have keyx4 : WP [] mX12_works 0 0 (qI r T) 57 [some (.int p0), some (.int p1), some (.int p2)] (.int x4 :: []) S 0 := by
      cases h
      exact r_ireturn dX12_works_57 rfl (Nat.zero_le _) ⟨rfl, rfl⟩
    refine r_if_eq (tgt := 56) dX12_works_45 (by decide) (fun c2 => ?_) (fun c2 => ?_)
    · refine r_iconst (v := 0) dX12_works_56 rfl ?_
      exact r_tope (by rw [hx4, if_pos c2]) keyx4
    · refine r_iload_n (x := p2) dX12_works_48 rfl ?_
      refine r_if_eq (tgt := 56) dX12_works_49 (by decide) (fun c3 => ?_) (fun c3 => ?_)
      · refine r_iconst (v := 0) dX12_works_56 rfl ?_
        exact r_tope (by rw [hx4, if_neg c2, if_pos c3]) keyx4
      · refine r_iconst (v := 1) dX12_works_52 rfl ?_
        refine r_goto (tgt := 57) dX12_works_53 (by decide) ?_
        exact r_tope (by rw [hx4, if_neg c2, if_neg c3]) keyx4
  rw [if_neg c1] at h
  by_cases c5 : p0 = 5
  · rw [if_pos c5] at h
    refine r_tableIn (tgt := 58) dX12_works_1 (by rw [c5]; decide) (by rw [c5]; decide) (by rw [c5]; rfl) (by decide) ?_
    refine r_iload_n (x := p1) dX12_works_58 rfl ?_
    obtain ⟨x8, hx8⟩ : ∃ y : Int32, y = ((if p1 = 0 then (if p2 = 0 then 0 else 1) else 1) : Int32) := ⟨_, rfl⟩
    replace h := lt_e hx8 h
    have keyx8 : WP [] mX12_works 0 0 (qI r T) 71 [some (.int p0), some (.int p1), some (.int p2)] (.int x8 :: []) S 0 := by
      cases h
      exact r_ireturn dX12_works_71 rfl (Nat.zero_le _) ⟨rfl, rfl⟩
    refine r_if_ne (tgt := 66) dX12_works_59 (by decide) (fun c6 => ?_) (fun c6 => ?_)
    · refine r_iconst (v := 1) dX12_works_66 rfl ?_
      refine r_goto (tgt := 71) dX12_works_67 (by decide) ?_
      exact r_tope (by rw [hx8, if_neg c6]) keyx8
    · refine r_iload_n (x := p2) dX12_works_62 rfl ?_
      refine r_if_eq (tgt := 70) dX12_works_63 (by decide) (fun c7 => ?_) (fun c7 => ?_)
      · refine r_iconst (v := 0) dX12_works_70 rfl ?_
        exact r_tope (by rw [hx8, if_pos c6, if_pos c7]) keyx8
      · refine r_iconst (v := 1) dX12_works_66 rfl ?_
        refine r_goto (tgt := 71) dX12_works_67 (by decide) ?_
        exact r_tope (by rw [hx8, if_pos c6, if_neg c7]) keyx8
  rw [if_neg c5] at h
  by_cases c9 : p0 = 6
  · rw [if_pos c9] at h
    refine r_tableIn (tgt := 72) dX12_works_1 (by rw [c9]; decide) (by rw [c9]; decide) (by rw [c9]; rfl) (by decide) ?_
    refine r_iload_n (x := p1) dX12_works_72 rfl ?_
    refine r_iload_n (x := p2) dX12_works_73 rfl ?_
    obtain ⟨x11, hx11⟩ : ∃ y : Int32, y = ((if p2 ≤ p1 then 0 else 1) : Int32) := ⟨_, rfl⟩
    replace h := lt_e hx11 h
    have keyx11 : WP [] mX12_works 0 0 (qI r T) 82 [some (.int p0), some (.int p1), some (.int p2)] (.int x11 :: []) S 0 := by
      cases h
      exact r_ireturn dX12_works_82 rfl (Nat.zero_le _) ⟨rfl, rfl⟩
    refine r_icmp_ge (tgt := 81) dX12_works_74 (by decide) (fun c10 => ?_) (fun c10 => ?_)
    · refine r_iconst (v := 0) dX12_works_81 rfl ?_
      exact r_tope (by rw [hx11, if_pos c10]) keyx11
    · refine r_iconst (v := 1) dX12_works_77 rfl ?_
      refine r_goto (tgt := 82) dX12_works_78 (by decide) ?_
      exact r_tope (by rw [hx11, if_neg c10]) keyx11
  rw [if_neg c9] at h
  by_cases c12 : p0 = 7
  · rw [if_pos c12] at h
    refine r_tableIn (tgt := 83) dX12_works_1 (by rw [c12]; decide) (by rw [c12]; decide) (by rw [c12]; rfl) (by decide) ?_
    refine r_iload_n (x := p1) dX12_works_83 rfl ?_
    refine r_iload_n (x := p2) dX12_works_84 rfl ?_
    obtain ⟨x14, hx14⟩ : ∃ y : Int32, y = ((if p1 = p2 then 1 else 0) : Int32) := ⟨_, rfl⟩
    replace h := lt_e hx14 h
    have keyx14 : WP [] mX12_works 0 0 (qI r T) 93 [some (.int p0), some (.int p1), some (.int p2)] (.int x14 :: []) S 0 := by
      cases h
      exact r_ireturn dX12_works_93 rfl (Nat.zero_le _) ⟨rfl, rfl⟩
    refine r_icmp_ne (tgt := 92) dX12_works_85 (by decide) (fun c13 => ?_) (fun c13 => ?_)
    · refine r_iconst (v := 0) dX12_works_92 rfl ?_
      exact r_tope (by rw [hx14, if_neg c13]) keyx14
    · refine r_iconst (v := 1) dX12_works_88 rfl ?_
      refine r_goto (tgt := 93) dX12_works_89 (by decide) ?_
      exact r_tope (by rw [hx14, if_pos c13]) keyx14
  rw [if_neg c12] at h
  by_cases c15 : p0 = 8
  · rw [if_pos c15] at h
    refine r_tableIn (tgt := 94) dX12_works_1 (by rw [c15]; decide) (by rw [c15]; decide) (by rw [c15]; rfl) (by decide) ?_
    refine r_iload_n (x := p1) dX12_works_94 rfl ?_
    refine r_iload_n (x := p2) dX12_works_95 rfl ?_
    refine r_iadd dX12_works_96 ?_
    cases h
    exact r_ireturn dX12_works_97 rfl (Nat.zero_le _) ⟨rfl, rfl⟩
  rw [if_neg c15] at h
  by_cases c16 : p0 = 9
  · rw [if_pos c16] at h
    refine r_tableIn (tgt := 98) dX12_works_1 (by rw [c16]; decide) (by rw [c16]; decide) (by rw [c16]; rfl) (by decide) ?_
    refine r_iload_n (x := p1) dX12_works_98 rfl ?_
    refine r_iload_n (x := p2) dX12_works_99 rfl ?_
    refine r_isub dX12_works_100 ?_
    cases h
    exact r_ireturn dX12_works_101 rfl (Nat.zero_le _) ⟨rfl, rfl⟩
  rw [if_neg c16] at h
  by_cases c17 : p0 = 10
  · rw [if_pos c17] at h
    refine r_tableIn (tgt := 102) dX12_works_1 (by rw [c17]; decide) (by rw [c17]; decide) (by rw [c17]; rfl) (by decide) ?_
    refine r_iload_n (x := p1) dX12_works_102 rfl ?_
    refine r_iload_n (x := p2) dX12_works_103 rfl ?_
    refine r_imul dX12_works_104 ?_
    cases h
    exact r_ireturn dX12_works_105 rfl (Nat.zero_le _) ⟨rfl, rfl⟩
  rw [if_neg c17] at h
  refine r_tableOut (tgt := 106) dX12_works_1 (by have nc1 := lv_neT c1 (a := 4) rfl; have nc5 := lv_neT c5 (a := 5) rfl; have nc9 := lv_neT c9 (a := 6) rfl; have nc12 := lv_neT c12 (a := 7) rfl; have nc15 := lv_neT c15 (a := 8) rfl; have nc16 := lv_neT c16 (a := 9) rfl; have nc17 := lv_neT c17 (a := 10) rfl; omega) (by decide) ?_
  refine r_iload_n (x := p2) dX12_works_106 rfl ?_
  refine r_if_ne (tgt := 114) dX12_works_107 (by decide) (fun c18 => ?_) (fun c18 => ?_)
  · rw [if_neg c18] at h
    refine r_iload_n (x := p1) dX12_works_114 rfl ?_
    refine r_iload_n (x := p2) dX12_works_115 rfl ?_
    obtain ⟨g19, h⟩ := gd_e h
    refine r_idiv dX12_works_116 g19 ?_
    cases h
    exact r_ireturn dX12_works_117 rfl (Nat.zero_le _) ⟨rfl, rfl⟩
  · rw [if_pos c18] at h
    refine r_iconst (v := 0) dX12_works_110 rfl ?_
    refine r_goto (tgt := 117) dX12_works_111 (by decide) ?_
    cases h
    exact r_ireturn dX12_works_117 rfl (Nat.zero_le _) ⟨rfl, rfl⟩
def fX12_reckons_4 (N : Nat) (v1 : Int32) : Nat → Int32 → Int32 → PS → Option (Int32 × Int32 × PS)
  | 0, _, _, _ => none
  | n + 1, v2, v3, S =>
    gd (inr v3 1400) <|
    (if (S.1 82 (ix v3)) = 0 then
      some (v2, v3, S)
    else
      gd (inr v3 1400) <|
      lt ((S.1 82 (ix v3)) : Int32) fun x4 =>
      lt (v3 + 1 : Int32) fun x5 =>
      (if x4 = 1 then
        (if x4 = 1 then
          gd (inr x5 1400) <|
          gd (inr v2 950) <|
          lt ((u2 S.1 94 (ix v2) (S.1 82 (ix x5)), S.2) : PS) fun S16 =>
          lt (x5 + 1 : Int32) fun x17 =>
          lt (v2 + 1 : Int32) fun x18 =>
          fX12_reckons_4 N v1 n x18 x17 S16
        else
          gd (inr x5 1400) <|
          gd (inr (S.1 82 (ix x5)) 6) <|
          gd (inr v2 950) <|
          lt ((u2 S.1 94 (ix v2) (S.1 93 (ix (S.1 82 (ix x5)))), S.2) : PS) fun S11 =>
          lt (x5 + 1 : Int32) fun x12 =>
          lt (v2 + 1 : Int32) fun x13 =>
          fX12_reckons_4 N v1 n x13 x12 S11)
      else
        (if x4 = 2 then
          (if x4 = 1 then
            gd (inr x5 1400) <|
            gd (inr v2 950) <|
            lt ((u2 S.1 94 (ix v2) (S.1 82 (ix x5)), S.2) : PS) fun S43 =>
            lt (x5 + 1 : Int32) fun x44 =>
            lt (v2 + 1 : Int32) fun x45 =>
            fX12_reckons_4 N v1 n x45 x44 S43
          else
            gd (inr x5 1400) <|
            gd (inr (S.1 82 (ix x5)) 6) <|
            gd (inr v2 950) <|
            lt ((u2 S.1 94 (ix v2) (S.1 93 (ix (S.1 82 (ix x5)))), S.2) : PS) fun S38 =>
            lt (x5 + 1 : Int32) fun x39 =>
            lt (v2 + 1 : Int32) fun x40 =>
            fX12_reckons_4 N v1 n x40 x39 S38)
        else
          (if x4 = 3 then
            gd (inr (v2 - 1) 950) <|
            lt ((if (S.1 94 (ix (v2 - 1))) = 0 then 1 else 0) : Int32) fun x31 =>
            gd (inr (v2 - 1) 950) <|
            lt ((u2 S.1 94 (ix (v2 - 1)) x31, S.2) : PS) fun S33 =>
            fX12_reckons_4 N v1 n v2 x5 S33
          else
            lt (v2 + (-1) : Int32) fun x21 =>
            gd (inr (x21 - 1) 950) <|
            gd (inr x21 950) <|
            bI (fX12_works N x4 (S.1 94 (ix (x21 - 1))) (S.1 94 (ix x21)) S) fun x24 S25 =>
            gd (inr (x21 - 1) 950) <|
            lt ((u2 S25.1 94 (ix (x21 - 1)) x24, S25.2) : PS) fun S28 =>
            fX12_reckons_4 N v1 n x21 x5 S28))))
set_option maxHeartbeats 4000000 in
set_option maxRecDepth 100000 in
theorem okX12_reckons_4 (N : Nat) (v1 : Int32) (Q : OQ) (u : Nat) (hu : u ≤ 0) : ∀ (n : Nat) (v2 : Int32) (v3 : Int32) (S : PS) (y2 : Int32) (y3 : Int32) (T : PS), fX12_reckons_4 N v1 n v2 v3 S = some (y2, y3, T) → WP [] mX12_reckons 1 0 Q 143 [some (.ref 80), some (.int v1), some (.int y2), some (.int y3), none] [] T u → WP [] mX12_reckons 1 0 Q 4 [some (.ref 80), some (.int v1), some (.int v2), some (.int v3), none] [] S u := by
  intro n
  induction n with
  | zero => intro v2 v3 S y2 y3 T h; rw [fX12_reckons_4] at h; cases h
  | succ n ih =>
    intro v2 v3 S y2 y3 T h k0
    rw [fX12_reckons_4] at h
    refine r_aload_n (x := 80) dX12_reckons_4 rfl ?_
    refine r_getfield (o := 80) (v := .ref 82) dX12_reckons_5 lX12_20 ck80 nC80 rfl ?_
    refine r_iload_n (x := v3) dX12_reckons_8 rfl ?_
    obtain ⟨g1, h⟩ := gd_e h
    refine r_iaload (a := 82) dX12_reckons_9 ck82 nC82 (inr_IX g1) ?_
    refine r_if_eq (tgt := 143) dX12_reckons_10 (by decide) (fun c2 => ?_) (fun c2 => ?_)
    · rw [if_pos c2] at h
      cases h
      exact k0
    · rw [if_neg c2] at h
      refine r_aload_n (x := 80) dX12_reckons_13 rfl ?_
      refine r_getfield (o := 80) (v := .ref 82) dX12_reckons_14 lX12_20 ck80 nC80 rfl ?_
      refine r_iload_n (x := v3) dX12_reckons_17 rfl ?_
      obtain ⟨g3, h⟩ := gd_e h
      refine r_iaload (a := 82) dX12_reckons_18 ck82 nC82 (inr_IX g3) ?_
      refine r_topi (fun x4 hx4 => ?_)
      replace h := lt_e hx4 h
      refine r_istore (L' := [some (.ref 80), some (.int v1), some (.int v2), some (.int v3), some (.int x4)]) dX12_reckons_19 (Nat.le_of_ble_eq_true rfl) rfl rfl ?_
      obtain ⟨x5, hx5⟩ : ∃ y : Int32, y = (v3 + 1 : Int32) := ⟨_, rfl⟩
      replace h := lt_e hx5 h
      refine r_iinc (x := v3) (v := x5) (L' := [some (.ref 80), some (.int v1), some (.int v2), some (.int x5), some (.int x4)]) dX12_reckons_21 rfl (by rw [hx5]; rfl) (Nat.le_of_ble_eq_true rfl) rfl rfl ?_
      refine r_iload (x := x4) dX12_reckons_24 rfl ?_
      refine r_iconst (v := 1) dX12_reckons_26 rfl ?_
      refine r_icmp_eq (tgt := 36) dX12_reckons_27 (by decide) (fun c6 => ?_) (fun c6 => ?_)
      · rw [if_pos c6] at h
        refine r_aload_n (x := 80) dX12_reckons_36 rfl ?_
        refine r_getfield (o := 80) (v := .ref 94) dX12_reckons_37 lX12_60 ck80 nC80 rfl ?_
        refine r_iload_n (x := v2) dX12_reckons_40 rfl ?_
        refine r_iload (x := x4) dX12_reckons_41 rfl ?_
        refine r_iconst (v := 1) dX12_reckons_43 rfl ?_
        refine r_icmp_ne (tgt := 56) dX12_reckons_44 (by decide) (fun c7 => ?_) (fun c7 => ?_)
        · rw [if_neg c7] at h
          refine r_aload_n (x := 80) dX12_reckons_56 rfl ?_
          refine r_getfield (o := 80) (v := .ref 93) dX12_reckons_57 lX12_57 ck80 nC80 rfl ?_
          refine r_aload_n (x := 80) dX12_reckons_60 rfl ?_
          refine r_getfield (o := 80) (v := .ref 82) dX12_reckons_61 lX12_20 ck80 nC80 rfl ?_
          refine r_iload_n (x := x5) dX12_reckons_64 rfl ?_
          obtain ⟨g8, h⟩ := gd_e h
          refine r_iaload (a := 82) dX12_reckons_65 ck82 nC82 (inr_IX g8) ?_
          obtain ⟨g9, h⟩ := gd_e h
          refine r_iaload (a := 93) dX12_reckons_66 ck93 nC93 (inr_IX g9) ?_
          obtain ⟨g10, h⟩ := gd_e h
          refine r_iastore (a := 94) dX12_reckons_67 ck94 nC94 (inr_IX g10) ?_
          refine r_topS (fun S11 hS11 => ?_)
          replace h := lt_e hS11 h
          obtain ⟨x12, hx12⟩ : ∃ y : Int32, y = (x5 + 1 : Int32) := ⟨_, rfl⟩
          replace h := lt_e hx12 h
          refine r_iinc (x := x5) (v := x12) (L' := [some (.ref 80), some (.int v1), some (.int v2), some (.int x12), some (.int x4)]) dX12_reckons_68 rfl (by rw [hx12]; rfl) (Nat.le_of_ble_eq_true rfl) rfl rfl ?_
          obtain ⟨x13, hx13⟩ : ∃ y : Int32, y = (v2 + 1 : Int32) := ⟨_, rfl⟩
          replace h := lt_e hx13 h
          refine r_iinc (x := v2) (v := x13) (L' := [some (.ref 80), some (.int v1), some (.int x13), some (.int x12), some (.int x4)]) dX12_reckons_71 rfl (by rw [hx13]; rfl) (Nat.le_of_ble_eq_true rfl) rfl rfl ?_
          refine r_goto (tgt := 140) dX12_reckons_74 (by decide) ?_
          refine r_goto (tgt := 4) dX12_reckons_140 (by decide) ?_
          refine r_drop [true, true, true, true, false] rfl ?_
          exact ih _ _ _ _ _ _ h k0
        · rw [if_pos c7] at h
          refine r_aload_n (x := 80) dX12_reckons_47 rfl ?_
          refine r_getfield (o := 80) (v := .ref 82) dX12_reckons_48 lX12_20 ck80 nC80 rfl ?_
          refine r_iload_n (x := x5) dX12_reckons_51 rfl ?_
          obtain ⟨g14, h⟩ := gd_e h
          refine r_iaload (a := 82) dX12_reckons_52 ck82 nC82 (inr_IX g14) ?_
          refine r_goto (tgt := 67) dX12_reckons_53 (by decide) ?_
          obtain ⟨g15, h⟩ := gd_e h
          refine r_iastore (a := 94) dX12_reckons_67 ck94 nC94 (inr_IX g15) ?_
          refine r_topS (fun S16 hS16 => ?_)
          replace h := lt_e hS16 h
          obtain ⟨x17, hx17⟩ : ∃ y : Int32, y = (x5 + 1 : Int32) := ⟨_, rfl⟩
          replace h := lt_e hx17 h
          refine r_iinc (x := x5) (v := x17) (L' := [some (.ref 80), some (.int v1), some (.int v2), some (.int x17), some (.int x4)]) dX12_reckons_68 rfl (by rw [hx17]; rfl) (Nat.le_of_ble_eq_true rfl) rfl rfl ?_
          obtain ⟨x18, hx18⟩ : ∃ y : Int32, y = (v2 + 1 : Int32) := ⟨_, rfl⟩
          replace h := lt_e hx18 h
          refine r_iinc (x := v2) (v := x18) (L' := [some (.ref 80), some (.int v1), some (.int x18), some (.int x17), some (.int x4)]) dX12_reckons_71 rfl (by rw [hx18]; rfl) (Nat.le_of_ble_eq_true rfl) rfl rfl ?_
          refine r_goto (tgt := 140) dX12_reckons_74 (by decide) ?_
          refine r_goto (tgt := 4) dX12_reckons_140 (by decide) ?_
          refine r_drop [true, true, true, true, false] rfl ?_
          exact ih _ _ _ _ _ _ h k0
      · rw [if_neg c6] at h
        refine r_iload (x := x4) dX12_reckons_30 rfl ?_
        refine r_iconst (v := 2) dX12_reckons_32 rfl ?_
        refine r_icmp_ne (tgt := 77) dX12_reckons_33 (by decide) (fun c19 => ?_) (fun c19 => ?_)
        · rw [if_neg c19] at h
          refine r_iload (x := x4) dX12_reckons_77 rfl ?_
          refine r_iconst (v := 3) dX12_reckons_79 rfl ?_
          refine r_icmp_ne (tgt := 110) dX12_reckons_80 (by decide) (fun c20 => ?_) (fun c20 => ?_)
          · rw [if_neg c20] at h
            obtain ⟨x21, hx21⟩ : ∃ y : Int32, y = (v2 + (-1) : Int32) := ⟨_, rfl⟩
            replace h := lt_e hx21 h
            refine r_iinc (x := v2) (v := x21) (L' := [some (.ref 80), some (.int v1), some (.int x21), some (.int x5), some (.int x4)]) dX12_reckons_110 rfl (by rw [hx21]; rfl) (Nat.le_of_ble_eq_true rfl) rfl rfl ?_
            refine r_aload_n (x := 80) dX12_reckons_113 rfl ?_
            refine r_getfield (o := 80) (v := .ref 94) dX12_reckons_114 lX12_60 ck80 nC80 rfl ?_
            refine r_iload_n (x := x21) dX12_reckons_117 rfl ?_
            refine r_iconst (v := 1) dX12_reckons_118 rfl ?_
            refine r_isub dX12_reckons_119 ?_
            refine r_iload (x := x4) dX12_reckons_120 rfl ?_
            refine r_aload_n (x := 80) dX12_reckons_122 rfl ?_
            refine r_getfield (o := 80) (v := .ref 94) dX12_reckons_123 lX12_60 ck80 nC80 rfl ?_
            refine r_iload_n (x := x21) dX12_reckons_126 rfl ?_
            refine r_iconst (v := 1) dX12_reckons_127 rfl ?_
            refine r_isub dX12_reckons_128 ?_
            obtain ⟨g22, h⟩ := gd_e h
            refine r_iaload (a := 94) dX12_reckons_129 ck94 nC94 (inr_IX g22) ?_
            refine r_aload_n (x := 80) dX12_reckons_130 rfl ?_
            refine r_getfield (o := 80) (v := .ref 94) dX12_reckons_131 lX12_60 ck80 nC80 rfl ?_
            refine r_iload_n (x := x21) dX12_reckons_134 rfl ?_
            obtain ⟨g23, h⟩ := gd_e h
            refine r_iaload (a := 94) dX12_reckons_135 ck94 nC94 (inr_IX g23) ?_
            obtain ⟨x24, S25, h26, h⟩ := bI_e h
            refine r_cSI (y := mX12_works) (As := [.int x4, .int (S.1 94 (ix (x21 - 1))), .int (S.1 94 (ix x21))]) (rest := [.int (x21 - 1), .ref 94]) dX12_reckons_136 qX12_286 kX12_works rfl (okX12_works N x4 (S.1 94 (ix (x21 - 1))) (S.1 94 (ix x21)) S x24 S25 h26) (by decide) hu rfl (Nat.le_of_ble_eq_true rfl) ?_
            obtain ⟨g27, h⟩ := gd_e h
            refine r_iastore (a := 94) dX12_reckons_139 ck94 nC94 (inr_IX g27) ?_
            refine r_topS (fun S28 hS28 => ?_)
            replace h := lt_e hS28 h
            refine r_goto (tgt := 4) dX12_reckons_140 (by decide) ?_
            refine r_drop [true, true, true, true, false] rfl ?_
            exact ih _ _ _ _ _ _ h k0
          · rw [if_pos c20] at h
            refine r_aload_n (x := 80) dX12_reckons_83 rfl ?_
            refine r_getfield (o := 80) (v := .ref 94) dX12_reckons_84 lX12_60 ck80 nC80 rfl ?_
            refine r_iload_n (x := v2) dX12_reckons_87 rfl ?_
            refine r_iconst (v := 1) dX12_reckons_88 rfl ?_
            refine r_isub dX12_reckons_89 ?_
            refine r_aload_n (x := 80) dX12_reckons_90 rfl ?_
            refine r_getfield (o := 80) (v := .ref 94) dX12_reckons_91 lX12_60 ck80 nC80 rfl ?_
            refine r_iload_n (x := v2) dX12_reckons_94 rfl ?_
            refine r_iconst (v := 1) dX12_reckons_95 rfl ?_
            refine r_isub dX12_reckons_96 ?_
            obtain ⟨g29, h⟩ := gd_e h
            refine r_iaload (a := 94) dX12_reckons_97 ck94 nC94 (inr_IX g29) ?_
            obtain ⟨x31, hx31⟩ : ∃ y : Int32, y = ((if (S.1 94 (ix (v2 - 1))) = 0 then 1 else 0) : Int32) := ⟨_, rfl⟩
            replace h := lt_e hx31 h
            have keyx31 : WP [] mX12_reckons 1 0 Q 106 [some (.ref 80), some (.int v1), some (.int v2), some (.int x5), some (.int x4)] (.int x31 :: [.int (v2 - 1), .ref 94]) S u := by
              obtain ⟨g32, h⟩ := gd_e h
              refine r_iastore (a := 94) dX12_reckons_106 ck94 nC94 (inr_IX g32) ?_
              refine r_topS (fun S33 hS33 => ?_)
              replace h := lt_e hS33 h
              refine r_goto (tgt := 140) dX12_reckons_107 (by decide) ?_
              refine r_goto (tgt := 4) dX12_reckons_140 (by decide) ?_
              refine r_drop [true, true, true, true, false] rfl ?_
              exact ih _ _ _ _ _ _ h k0
            refine r_if_ne (tgt := 105) dX12_reckons_98 (by decide) (fun c30 => ?_) (fun c30 => ?_)
            · refine r_iconst (v := 0) dX12_reckons_105 rfl ?_
              exact r_tope (by rw [hx31, if_neg c30]) keyx31
            · refine r_iconst (v := 1) dX12_reckons_101 rfl ?_
              refine r_goto (tgt := 106) dX12_reckons_102 (by decide) ?_
              exact r_tope (by rw [hx31, if_pos c30]) keyx31
        · rw [if_pos c19] at h
          refine r_aload_n (x := 80) dX12_reckons_36 rfl ?_
          refine r_getfield (o := 80) (v := .ref 94) dX12_reckons_37 lX12_60 ck80 nC80 rfl ?_
          refine r_iload_n (x := v2) dX12_reckons_40 rfl ?_
          refine r_iload (x := x4) dX12_reckons_41 rfl ?_
          refine r_iconst (v := 1) dX12_reckons_43 rfl ?_
          refine r_icmp_ne (tgt := 56) dX12_reckons_44 (by decide) (fun c34 => ?_) (fun c34 => ?_)
          · rw [if_neg c34] at h
            refine r_aload_n (x := 80) dX12_reckons_56 rfl ?_
            refine r_getfield (o := 80) (v := .ref 93) dX12_reckons_57 lX12_57 ck80 nC80 rfl ?_
            refine r_aload_n (x := 80) dX12_reckons_60 rfl ?_
            refine r_getfield (o := 80) (v := .ref 82) dX12_reckons_61 lX12_20 ck80 nC80 rfl ?_
            refine r_iload_n (x := x5) dX12_reckons_64 rfl ?_
            obtain ⟨g35, h⟩ := gd_e h
            refine r_iaload (a := 82) dX12_reckons_65 ck82 nC82 (inr_IX g35) ?_
            obtain ⟨g36, h⟩ := gd_e h
            refine r_iaload (a := 93) dX12_reckons_66 ck93 nC93 (inr_IX g36) ?_
            obtain ⟨g37, h⟩ := gd_e h
            refine r_iastore (a := 94) dX12_reckons_67 ck94 nC94 (inr_IX g37) ?_
            refine r_topS (fun S38 hS38 => ?_)
            replace h := lt_e hS38 h
            obtain ⟨x39, hx39⟩ : ∃ y : Int32, y = (x5 + 1 : Int32) := ⟨_, rfl⟩
            replace h := lt_e hx39 h
            refine r_iinc (x := x5) (v := x39) (L' := [some (.ref 80), some (.int v1), some (.int v2), some (.int x39), some (.int x4)]) dX12_reckons_68 rfl (by rw [hx39]; rfl) (Nat.le_of_ble_eq_true rfl) rfl rfl ?_
            obtain ⟨x40, hx40⟩ : ∃ y : Int32, y = (v2 + 1 : Int32) := ⟨_, rfl⟩
            replace h := lt_e hx40 h
            refine r_iinc (x := v2) (v := x40) (L' := [some (.ref 80), some (.int v1), some (.int x40), some (.int x39), some (.int x4)]) dX12_reckons_71 rfl (by rw [hx40]; rfl) (Nat.le_of_ble_eq_true rfl) rfl rfl ?_
            refine r_goto (tgt := 140) dX12_reckons_74 (by decide) ?_
            refine r_goto (tgt := 4) dX12_reckons_140 (by decide) ?_
            refine r_drop [true, true, true, true, false] rfl ?_
            exact ih _ _ _ _ _ _ h k0
          · rw [if_pos c34] at h
            refine r_aload_n (x := 80) dX12_reckons_47 rfl ?_
            refine r_getfield (o := 80) (v := .ref 82) dX12_reckons_48 lX12_20 ck80 nC80 rfl ?_
            refine r_iload_n (x := x5) dX12_reckons_51 rfl ?_
            obtain ⟨g41, h⟩ := gd_e h
            refine r_iaload (a := 82) dX12_reckons_52 ck82 nC82 (inr_IX g41) ?_
            refine r_goto (tgt := 67) dX12_reckons_53 (by decide) ?_
            obtain ⟨g42, h⟩ := gd_e h
            refine r_iastore (a := 94) dX12_reckons_67 ck94 nC94 (inr_IX g42) ?_
            refine r_topS (fun S43 hS43 => ?_)
            replace h := lt_e hS43 h
            obtain ⟨x44, hx44⟩ : ∃ y : Int32, y = (x5 + 1 : Int32) := ⟨_, rfl⟩
            replace h := lt_e hx44 h
            refine r_iinc (x := x5) (v := x44) (L' := [some (.ref 80), some (.int v1), some (.int v2), some (.int x44), some (.int x4)]) dX12_reckons_68 rfl (by rw [hx44]; rfl) (Nat.le_of_ble_eq_true rfl) rfl rfl ?_
            obtain ⟨x45, hx45⟩ : ∃ y : Int32, y = (v2 + 1 : Int32) := ⟨_, rfl⟩
            replace h := lt_e hx45 h
            refine r_iinc (x := v2) (v := x45) (L' := [some (.ref 80), some (.int v1), some (.int x45), some (.int x44), some (.int x4)]) dX12_reckons_71 rfl (by rw [hx45]; rfl) (Nat.le_of_ble_eq_true rfl) rfl rfl ?_
            refine r_goto (tgt := 140) dX12_reckons_74 (by decide) ?_
            refine r_goto (tgt := 4) dX12_reckons_140 (by decide) ?_
            refine r_drop [true, true, true, true, false] rfl ?_
            exact ih _ _ _ _ _ _ h k0
def fX12_reckons (N : Nat) (p0 : Int32) (S : PS) : Option (Int32 × PS) :=
  bT (fX12_reckons_4 N p0 N 0 p0 S) fun q46 =>
  lt (q46.1 : Int32) fun x47 =>
  lt (q46.2.1 : Int32) fun x48 =>
  lt (q46.2.2 : PS) fun S49 =>
  some ((S49.1 94 0), S49)
set_option maxHeartbeats 4000000 in
set_option maxRecDepth 100000 in
theorem okX12_reckons (N : Nat) (p0 : Int32) (S : PS) (r : Int32) (T : PS) (h : fX12_reckons N p0 S = some (r, T)) : CT mX12_reckons 1 0 [.ref 80, .int p0] S (qI r T) := by
  refine ct_of [some (.ref 80), some (.int p0), none, none, none] rfl (fun _ => rfl) (fun _ => Nat.le_of_ble_eq_true rfl) ?_
  unfold fX12_reckons at h
  refine r_iconst (v := 0) dX12_reckons_0 rfl ?_
  refine r_istore_n (L' := [some (.ref 80), some (.int p0), some (.int 0), none, none]) dX12_reckons_1 (Nat.le_of_ble_eq_true rfl) rfl rfl ?_
  refine r_iload_n (x := p0) dX12_reckons_2 rfl ?_
  refine r_istore_n (L' := [some (.ref 80), some (.int p0), some (.int 0), some (.int p0), none]) dX12_reckons_3 (Nat.le_of_ble_eq_true rfl) rfl rfl ?_
  obtain ⟨⟨x47, x48, S49⟩, h51, h⟩ := bT_e h
  dsimp only at h
  replace h := pl_s (pl_s (pl_s (h)))
  refine okX12_reckons_4 N p0 (qI r T) 0 (Nat.zero_le _) _ _ _ _ _ _ _ h51 ?_
  refine r_aload_n (x := 80) dX12_reckons_143 rfl ?_
  refine r_getfield (o := 80) (v := .ref 94) dX12_reckons_144 lX12_60 ck80 nC80 rfl ?_
  refine r_iconst (v := 0) dX12_reckons_147 rfl ?_
  refine r_iaload (a := 94) (k9 := 0) dX12_reckons_148 ck94 nC94 ⟨by decide, by decide⟩ ?_
  cases h
  exact r_ireturn dX12_reckons_149 rfl (Nat.zero_le _) ⟨rfl, rfl⟩
def fX12_asks (N : Nat) (p0 : Int32) (p1 : Int32) (p2 : Int32) (S : PS) : Option (Int32 × PS) :=
  gd (inr ((p1 + 10) + p2) 128) <|
  lt ((u2 S.1 93 0 (S.1 91 (ix ((p1 + 10) + p2))), S.2) : PS) fun S2 =>
  gd (inr ((p1 + 1) + p2) 128) <|
  lt ((u2 S2.1 93 1 (S2.1 91 (ix ((p1 + 1) + p2))), S2.2) : PS) fun S4 =>
  gd (inr p2 9) <|
  lt ((u2 S4.1 93 2 (S4.1 81 (ix p2)), S4.2) : PS) fun S6 =>
  gd (inr ((p1 + 46) + p2) 128) <|
  lt ((u2 S6.1 93 3 (S6.1 91 (ix ((p1 + 46) + p2))), S6.2) : PS) fun S8 =>
  gd (inr (p1 + 0) 128) <|
  lt ((u2 S8.1 93 4 (S8.1 91 (ix (p1 + 0))), S8.2) : PS) fun S10 =>
  lt ((u2 S10.1 93 5 p2, S10.2) : PS) fun S11 =>
  bI (fX12_reckons N p0 S11) fun x12 S13 =>
  some (x12, S13)
set_option maxHeartbeats 4000000 in
set_option maxRecDepth 100000 in
theorem okX12_asks (N : Nat) (p0 : Int32) (p1 : Int32) (p2 : Int32) (S : PS) (r : Int32) (T : PS) (h : fX12_asks N p0 p1 p2 S = some (r, T)) : CT mX12_asks 2 0 [.ref 80, .int p0, .int p1, .int p2] S (qI r T) := by
  refine ct_of [some (.ref 80), some (.int p0), some (.int p1), some (.int p2)] rfl (fun _ => rfl) (fun _ => Nat.le_of_ble_eq_true rfl) ?_
  unfold fX12_asks at h
  refine r_aload_n (x := 80) dX12_asks_0 rfl ?_
  refine r_getfield (o := 80) (v := .ref 93) dX12_asks_1 lX12_57 ck80 nC80 rfl ?_
  refine r_iconst (v := 0) dX12_asks_4 rfl ?_
  refine r_aload_n (x := 80) dX12_asks_5 rfl ?_
  refine r_getfield (o := 80) (v := .ref 91) dX12_asks_6 lX12_51 ck80 nC80 rfl ?_
  refine r_iload_n (x := p1) dX12_asks_9 rfl ?_
  refine r_bipush (v := 10) dX12_asks_10 rfl ?_
  refine r_iadd dX12_asks_12 ?_
  refine r_iload_n (x := p2) dX12_asks_13 rfl ?_
  refine r_iadd dX12_asks_14 ?_
  obtain ⟨g1, h⟩ := gd_e h
  refine r_iaload (a := 91) dX12_asks_15 ck91 nC91 (inr_IX g1) ?_
  refine r_iastore (a := 93) (k9 := 0) dX12_asks_16 ck93 nC93 ⟨by decide, by decide⟩ ?_
  refine r_topS (fun S2 hS2 => ?_)
  replace h := lt_e hS2 h
  refine r_aload_n (x := 80) dX12_asks_17 rfl ?_
  refine r_getfield (o := 80) (v := .ref 93) dX12_asks_18 lX12_57 ck80 nC80 rfl ?_
  refine r_iconst (v := 1) dX12_asks_21 rfl ?_
  refine r_aload_n (x := 80) dX12_asks_22 rfl ?_
  refine r_getfield (o := 80) (v := .ref 91) dX12_asks_23 lX12_51 ck80 nC80 rfl ?_
  refine r_iload_n (x := p1) dX12_asks_26 rfl ?_
  refine r_iconst (v := 1) dX12_asks_27 rfl ?_
  refine r_iadd dX12_asks_28 ?_
  refine r_iload_n (x := p2) dX12_asks_29 rfl ?_
  refine r_iadd dX12_asks_30 ?_
  obtain ⟨g3, h⟩ := gd_e h
  refine r_iaload (a := 91) dX12_asks_31 ck91 nC91 (inr_IX g3) ?_
  refine r_iastore (a := 93) (k9 := 1) dX12_asks_32 ck93 nC93 ⟨by decide, by decide⟩ ?_
  refine r_topS (fun S4 hS4 => ?_)
  replace h := lt_e hS4 h
  refine r_aload_n (x := 80) dX12_asks_33 rfl ?_
  refine r_getfield (o := 80) (v := .ref 93) dX12_asks_34 lX12_57 ck80 nC80 rfl ?_
  refine r_iconst (v := 2) dX12_asks_37 rfl ?_
  refine r_aload_n (x := 80) dX12_asks_38 rfl ?_
  refine r_getfield (o := 80) (v := .ref 81) dX12_asks_39 lX12_16 ck80 nC80 rfl ?_
  refine r_iload_n (x := p2) dX12_asks_42 rfl ?_
  obtain ⟨g5, h⟩ := gd_e h
  refine r_iaload (a := 81) dX12_asks_43 ck81 nC81 (inr_IX g5) ?_
  refine r_iastore (a := 93) (k9 := 2) dX12_asks_44 ck93 nC93 ⟨by decide, by decide⟩ ?_
  refine r_topS (fun S6 hS6 => ?_)
  replace h := lt_e hS6 h
  refine r_aload_n (x := 80) dX12_asks_45 rfl ?_
  refine r_getfield (o := 80) (v := .ref 93) dX12_asks_46 lX12_57 ck80 nC80 rfl ?_
  refine r_iconst (v := 3) dX12_asks_49 rfl ?_
  refine r_aload_n (x := 80) dX12_asks_50 rfl ?_
  refine r_getfield (o := 80) (v := .ref 91) dX12_asks_51 lX12_51 ck80 nC80 rfl ?_
  refine r_iload_n (x := p1) dX12_asks_54 rfl ?_
  refine r_bipush (v := 46) dX12_asks_55 rfl ?_
  refine r_iadd dX12_asks_57 ?_
  refine r_iload_n (x := p2) dX12_asks_58 rfl ?_
  refine r_iadd dX12_asks_59 ?_
  obtain ⟨g7, h⟩ := gd_e h
  refine r_iaload (a := 91) dX12_asks_60 ck91 nC91 (inr_IX g7) ?_
  refine r_iastore (a := 93) (k9 := 3) dX12_asks_61 ck93 nC93 ⟨by decide, by decide⟩ ?_
  refine r_topS (fun S8 hS8 => ?_)
  replace h := lt_e hS8 h
  refine r_aload_n (x := 80) dX12_asks_62 rfl ?_
  refine r_getfield (o := 80) (v := .ref 93) dX12_asks_63 lX12_57 ck80 nC80 rfl ?_
  refine r_iconst (v := 4) dX12_asks_66 rfl ?_
  refine r_aload_n (x := 80) dX12_asks_67 rfl ?_
  refine r_getfield (o := 80) (v := .ref 91) dX12_asks_68 lX12_51 ck80 nC80 rfl ?_
  refine r_iload_n (x := p1) dX12_asks_71 rfl ?_
  refine r_iconst (v := 0) dX12_asks_72 rfl ?_
  refine r_iadd dX12_asks_73 ?_
  obtain ⟨g9, h⟩ := gd_e h
  refine r_iaload (a := 91) dX12_asks_74 ck91 nC91 (inr_IX g9) ?_
  refine r_iastore (a := 93) (k9 := 4) dX12_asks_75 ck93 nC93 ⟨by decide, by decide⟩ ?_
  refine r_topS (fun S10 hS10 => ?_)
  replace h := lt_e hS10 h
  refine r_aload_n (x := 80) dX12_asks_76 rfl ?_
  refine r_getfield (o := 80) (v := .ref 93) dX12_asks_77 lX12_57 ck80 nC80 rfl ?_
  refine r_iconst (v := 5) dX12_asks_80 rfl ?_
  refine r_iload_n (x := p2) dX12_asks_81 rfl ?_
  refine r_iastore (a := 93) (k9 := 5) dX12_asks_82 ck93 nC93 ⟨by decide, by decide⟩ ?_
  refine r_topS (fun S11 hS11 => ?_)
  replace h := lt_e hS11 h
  refine r_aload_n (x := 80) dX12_asks_83 rfl ?_
  refine r_iload_n (x := p0) dX12_asks_84 rfl ?_
  obtain ⟨x12, S13, h14, h⟩ := bI_e h
  refine r_cVI (y := mX12_reckons) (As := [.int p0]) (rest := []) dX12_asks_85 qX12_290 kX12_reckons rfl ob80 vc12 rfl (okX12_reckons N p0 S11 x12 S13 h14) (by decide) (Nat.zero_le _) rfl (Nat.le_of_ble_eq_true rfl) ?_
  cases h
  exact r_ireturn dX12_asks_88 rfl (Nat.zero_le _) ⟨rfl, rfl⟩
def fX12_falls (N : Nat) (p0 : Int32) (p1 : Int32) (p2 : Int32) (S : PS) : Option PS :=
  gd (inr ((p0 + 19) + p1) 128) <|
  lt ((S.1 91 (ix ((p0 + 19) + p1))) : Int32) fun x2 =>
  gd (inr ((p0 + 28) + p1) 128) <|
  lt ((S.1 91 (ix ((p0 + 28) + p1))) : Int32) fun x4 =>
  (if x2 = (-1) then
    lt ((u2 S.1 80 39 ((S.1 80 39) + p2), S.2) : PS) fun S32 =>
    some S32
  else
    (if x4 = (-1) then
      gd (inr x2 9) <|
      gd (inr x2 9) <|
      lt ((u2 S.1 95 (ix x2) ((S.1 95 (ix x2)) + p2), S.2) : PS) fun S31 =>
      some S31
    else
      gd (inr ((p0 + 37) + p1) 128) <|
      (if (S.1 91 (ix ((p0 + 37) + p1))) = 0 then
        lt (((p2 + 1) / 2) : Int32) fun x19 =>
        gd (inr x2 9) <|
        gd (inr x2 9) <|
        lt ((u2 S.1 95 (ix x2) ((S.1 95 (ix x2)) + x19), S.2) : PS) fun S22 =>
        gd (inr x4 9) <|
        gd (inr x4 9) <|
        lt ((u2 S22.1 95 (ix x4) ((S22.1 95 (ix x4)) + (p2 - x19)), S22.2) : PS) fun S25 =>
        gd (inr ((p0 + 37) + p1) 128) <|
        gd (inr ((p0 + 37) + p1) 128) <|
        lt ((u2 S25.1 91 (ix ((p0 + 37) + p1)) (((S25.1 91 (ix ((p0 + 37) + p1))) + p2) - ((S25.1 91 (ix ((p0 + 37) + p1))) + p2) / 2 * 2), S25.2) : PS) fun S28 =>
        some S28
      else
        lt ((p2 / 2) : Int32) fun x9 =>
        gd (inr x2 9) <|
        gd (inr x2 9) <|
        lt ((u2 S.1 95 (ix x2) ((S.1 95 (ix x2)) + x9), S.2) : PS) fun S12 =>
        gd (inr x4 9) <|
        gd (inr x4 9) <|
        lt ((u2 S12.1 95 (ix x4) ((S12.1 95 (ix x4)) + (p2 - x9)), S12.2) : PS) fun S15 =>
        gd (inr ((p0 + 37) + p1) 128) <|
        gd (inr ((p0 + 37) + p1) 128) <|
        lt ((u2 S15.1 91 (ix ((p0 + 37) + p1)) (((S15.1 91 (ix ((p0 + 37) + p1))) + p2) - ((S15.1 91 (ix ((p0 + 37) + p1))) + p2) / 2 * 2), S15.2) : PS) fun S18 =>
        some S18)))
set_option maxHeartbeats 4000000 in
set_option maxRecDepth 100000 in
theorem okX12_falls (N : Nat) (p0 : Int32) (p1 : Int32) (p2 : Int32) (S : PS) (T : PS) (h : fX12_falls N p0 p1 p2 S = some T) : CT mX12_falls 0 0 [.ref 80, .int p0, .int p1, .int p2] S (qV T) := by
  refine ct_of [some (.ref 80), some (.int p0), some (.int p1), some (.int p2), none, none, none] rfl (fun _ => rfl) (fun _ => Nat.le_of_ble_eq_true rfl) ?_
  unfold fX12_falls at h
  refine r_aload_n (x := 80) dX12_falls_0 rfl ?_
  refine r_getfield (o := 80) (v := .ref 91) dX12_falls_1 lX12_51 ck80 nC80 rfl ?_
  refine r_iload_n (x := p0) dX12_falls_4 rfl ?_
  refine r_bipush (v := 19) dX12_falls_5 rfl ?_
  refine r_iadd dX12_falls_7 ?_
  refine r_iload_n (x := p1) dX12_falls_8 rfl ?_
  refine r_iadd dX12_falls_9 ?_
  obtain ⟨g1, h⟩ := gd_e h
  refine r_iaload (a := 91) dX12_falls_10 ck91 nC91 (inr_IX g1) ?_
  refine r_topi (fun x2 hx2 => ?_)
  replace h := lt_e hx2 h
  refine r_istore (L' := [some (.ref 80), some (.int p0), some (.int p1), some (.int p2), some (.int x2), none, none]) dX12_falls_11 (Nat.le_of_ble_eq_true rfl) rfl rfl ?_
  refine r_aload_n (x := 80) dX12_falls_13 rfl ?_
  refine r_getfield (o := 80) (v := .ref 91) dX12_falls_14 lX12_51 ck80 nC80 rfl ?_
  refine r_iload_n (x := p0) dX12_falls_17 rfl ?_
  refine r_bipush (v := 28) dX12_falls_18 rfl ?_
  refine r_iadd dX12_falls_20 ?_
  refine r_iload_n (x := p1) dX12_falls_21 rfl ?_
  refine r_iadd dX12_falls_22 ?_
  obtain ⟨g3, h⟩ := gd_e h
  refine r_iaload (a := 91) dX12_falls_23 ck91 nC91 (inr_IX g3) ?_
  refine r_topi (fun x4 hx4 => ?_)
  replace h := lt_e hx4 h
  refine r_istore (L' := [some (.ref 80), some (.int p0), some (.int p1), some (.int p2), some (.int x2), some (.int x4), none]) dX12_falls_24 (Nat.le_of_ble_eq_true rfl) rfl rfl ?_
  refine r_iload (x := x2) dX12_falls_26 rfl ?_
  refine r_iconst (v := (-1)) dX12_falls_28 rfl ?_
  refine r_icmp_ne (tgt := 45) dX12_falls_29 (by decide) (fun c5 => ?_) (fun c5 => ?_)
  · rw [if_neg c5] at h
    refine r_iload (x := x4) dX12_falls_45 rfl ?_
    refine r_iconst (v := (-1)) dX12_falls_47 rfl ?_
    refine r_icmp_ne (tgt := 65) dX12_falls_48 (by decide) (fun c6 => ?_) (fun c6 => ?_)
    · rw [if_neg c6] at h
      refine r_aload_n (x := 80) dX12_falls_65 rfl ?_
      refine r_getfield (o := 80) (v := .ref 91) dX12_falls_66 lX12_51 ck80 nC80 rfl ?_
      refine r_iload_n (x := p0) dX12_falls_69 rfl ?_
      refine r_bipush (v := 37) dX12_falls_70 rfl ?_
      refine r_iadd dX12_falls_72 ?_
      refine r_iload_n (x := p1) dX12_falls_73 rfl ?_
      refine r_iadd dX12_falls_74 ?_
      obtain ⟨g7, h⟩ := gd_e h
      refine r_iaload (a := 91) dX12_falls_75 ck91 nC91 (inr_IX g7) ?_
      refine r_if_ne (tgt := 87) dX12_falls_76 (by decide) (fun c8 => ?_) (fun c8 => ?_)
      · rw [if_neg c8] at h
        refine r_iload_n (x := p2) dX12_falls_87 rfl ?_
        refine r_iconst (v := 2) dX12_falls_88 rfl ?_
        refine r_idiv dX12_falls_89 (by decide) ?_
        refine r_topi (fun x9 hx9 => ?_)
        replace h := lt_e hx9 h
        refine r_istore (L' := [some (.ref 80), some (.int p0), some (.int p1), some (.int p2), some (.int x2), some (.int x4), some (.int x9)]) dX12_falls_90 (Nat.le_of_ble_eq_true rfl) rfl rfl ?_
        refine r_aload_n (x := 80) dX12_falls_92 rfl ?_
        refine r_getfield (o := 80) (v := .ref 95) dX12_falls_93 lX12_63 ck80 nC80 rfl ?_
        refine r_iload (x := x2) dX12_falls_96 rfl ?_
        refine r_dup2 dX12_falls_98 ?_
        obtain ⟨g10, h⟩ := gd_e h
        refine r_iaload (a := 95) dX12_falls_99 ck95 nC95 (inr_IX g10) ?_
        refine r_iload (x := x9) dX12_falls_100 rfl ?_
        refine r_iadd dX12_falls_102 ?_
        obtain ⟨g11, h⟩ := gd_e h
        refine r_iastore (a := 95) dX12_falls_103 ck95 nC95 (inr_IX g11) ?_
        refine r_topS (fun S12 hS12 => ?_)
        replace h := lt_e hS12 h
        refine r_aload_n (x := 80) dX12_falls_104 rfl ?_
        refine r_getfield (o := 80) (v := .ref 95) dX12_falls_105 lX12_63 ck80 nC80 rfl ?_
        refine r_iload (x := x4) dX12_falls_108 rfl ?_
        refine r_dup2 dX12_falls_110 ?_
        obtain ⟨g13, h⟩ := gd_e h
        refine r_iaload (a := 95) dX12_falls_111 ck95 nC95 (inr_IX g13) ?_
        refine r_iload_n (x := p2) dX12_falls_112 rfl ?_
        refine r_iload (x := x9) dX12_falls_113 rfl ?_
        refine r_isub dX12_falls_115 ?_
        refine r_iadd dX12_falls_116 ?_
        obtain ⟨g14, h⟩ := gd_e h
        refine r_iastore (a := 95) dX12_falls_117 ck95 nC95 (inr_IX g14) ?_
        refine r_topS (fun S15 hS15 => ?_)
        replace h := lt_e hS15 h
        refine r_aload_n (x := 80) dX12_falls_118 rfl ?_
        refine r_getfield (o := 80) (v := .ref 91) dX12_falls_119 lX12_51 ck80 nC80 rfl ?_
        refine r_iload_n (x := p0) dX12_falls_122 rfl ?_
        refine r_bipush (v := 37) dX12_falls_123 rfl ?_
        refine r_iadd dX12_falls_125 ?_
        refine r_iload_n (x := p1) dX12_falls_126 rfl ?_
        refine r_iadd dX12_falls_127 ?_
        refine r_aload_n (x := 80) dX12_falls_128 rfl ?_
        refine r_getfield (o := 80) (v := .ref 91) dX12_falls_129 lX12_51 ck80 nC80 rfl ?_
        refine r_iload_n (x := p0) dX12_falls_132 rfl ?_
        refine r_bipush (v := 37) dX12_falls_133 rfl ?_
        refine r_iadd dX12_falls_135 ?_
        refine r_iload_n (x := p1) dX12_falls_136 rfl ?_
        refine r_iadd dX12_falls_137 ?_
        obtain ⟨g16, h⟩ := gd_e h
        refine r_iaload (a := 91) dX12_falls_138 ck91 nC91 (inr_IX g16) ?_
        refine r_iload_n (x := p2) dX12_falls_139 rfl ?_
        refine r_iadd dX12_falls_140 ?_
        refine r_iconst (v := 2) dX12_falls_141 rfl ?_
        refine r_irem dX12_falls_142 (by decide) ?_
        obtain ⟨g17, h⟩ := gd_e h
        refine r_iastore (a := 91) dX12_falls_143 ck91 nC91 (inr_IX g17) ?_
        refine r_topS (fun S18 hS18 => ?_)
        replace h := lt_e hS18 h
        cases h
        exact r_return dX12_falls_144 rfl (Nat.zero_le _) ⟨rfl, rfl⟩
      · rw [if_pos c8] at h
        refine r_iload_n (x := p2) dX12_falls_79 rfl ?_
        refine r_iconst (v := 1) dX12_falls_80 rfl ?_
        refine r_iadd dX12_falls_81 ?_
        refine r_iconst (v := 2) dX12_falls_82 rfl ?_
        refine r_idiv dX12_falls_83 (by decide) ?_
        refine r_goto (tgt := 90) dX12_falls_84 (by decide) ?_
        refine r_topi (fun x19 hx19 => ?_)
        replace h := lt_e hx19 h
        refine r_istore (L' := [some (.ref 80), some (.int p0), some (.int p1), some (.int p2), some (.int x2), some (.int x4), some (.int x19)]) dX12_falls_90 (Nat.le_of_ble_eq_true rfl) rfl rfl ?_
        refine r_aload_n (x := 80) dX12_falls_92 rfl ?_
        refine r_getfield (o := 80) (v := .ref 95) dX12_falls_93 lX12_63 ck80 nC80 rfl ?_
        refine r_iload (x := x2) dX12_falls_96 rfl ?_
        refine r_dup2 dX12_falls_98 ?_
        obtain ⟨g20, h⟩ := gd_e h
        refine r_iaload (a := 95) dX12_falls_99 ck95 nC95 (inr_IX g20) ?_
        refine r_iload (x := x19) dX12_falls_100 rfl ?_
        refine r_iadd dX12_falls_102 ?_
        obtain ⟨g21, h⟩ := gd_e h
        refine r_iastore (a := 95) dX12_falls_103 ck95 nC95 (inr_IX g21) ?_
        refine r_topS (fun S22 hS22 => ?_)
        replace h := lt_e hS22 h
        refine r_aload_n (x := 80) dX12_falls_104 rfl ?_
        refine r_getfield (o := 80) (v := .ref 95) dX12_falls_105 lX12_63 ck80 nC80 rfl ?_
        refine r_iload (x := x4) dX12_falls_108 rfl ?_
        refine r_dup2 dX12_falls_110 ?_
        obtain ⟨g23, h⟩ := gd_e h
        refine r_iaload (a := 95) dX12_falls_111 ck95 nC95 (inr_IX g23) ?_
        refine r_iload_n (x := p2) dX12_falls_112 rfl ?_
        refine r_iload (x := x19) dX12_falls_113 rfl ?_
        refine r_isub dX12_falls_115 ?_
        refine r_iadd dX12_falls_116 ?_
        obtain ⟨g24, h⟩ := gd_e h
        refine r_iastore (a := 95) dX12_falls_117 ck95 nC95 (inr_IX g24) ?_
        refine r_topS (fun S25 hS25 => ?_)
        replace h := lt_e hS25 h
        refine r_aload_n (x := 80) dX12_falls_118 rfl ?_
        refine r_getfield (o := 80) (v := .ref 91) dX12_falls_119 lX12_51 ck80 nC80 rfl ?_
        refine r_iload_n (x := p0) dX12_falls_122 rfl ?_
        refine r_bipush (v := 37) dX12_falls_123 rfl ?_
        refine r_iadd dX12_falls_125 ?_
        refine r_iload_n (x := p1) dX12_falls_126 rfl ?_
        refine r_iadd dX12_falls_127 ?_
        refine r_aload_n (x := 80) dX12_falls_128 rfl ?_
        refine r_getfield (o := 80) (v := .ref 91) dX12_falls_129 lX12_51 ck80 nC80 rfl ?_
        refine r_iload_n (x := p0) dX12_falls_132 rfl ?_
        refine r_bipush (v := 37) dX12_falls_133 rfl ?_
        refine r_iadd dX12_falls_135 ?_
        refine r_iload_n (x := p1) dX12_falls_136 rfl ?_
        refine r_iadd dX12_falls_137 ?_
        obtain ⟨g26, h⟩ := gd_e h
        refine r_iaload (a := 91) dX12_falls_138 ck91 nC91 (inr_IX g26) ?_
        refine r_iload_n (x := p2) dX12_falls_139 rfl ?_
        refine r_iadd dX12_falls_140 ?_
        refine r_iconst (v := 2) dX12_falls_141 rfl ?_
        refine r_irem dX12_falls_142 (by decide) ?_
        obtain ⟨g27, h⟩ := gd_e h
        refine r_iastore (a := 91) dX12_falls_143 ck91 nC91 (inr_IX g27) ?_
        refine r_topS (fun S28 hS28 => ?_)
        replace h := lt_e hS28 h
        cases h
        exact r_return dX12_falls_144 rfl (Nat.zero_le _) ⟨rfl, rfl⟩
    · rw [if_pos c6] at h
      refine r_aload_n (x := 80) dX12_falls_51 rfl ?_
      refine r_getfield (o := 80) (v := .ref 95) dX12_falls_52 lX12_63 ck80 nC80 rfl ?_
      refine r_iload (x := x2) dX12_falls_55 rfl ?_
      refine r_dup2 dX12_falls_57 ?_
      obtain ⟨g29, h⟩ := gd_e h
      refine r_iaload (a := 95) dX12_falls_58 ck95 nC95 (inr_IX g29) ?_
      refine r_iload_n (x := p2) dX12_falls_59 rfl ?_
      refine r_iadd dX12_falls_60 ?_
      obtain ⟨g30, h⟩ := gd_e h
      refine r_iastore (a := 95) dX12_falls_61 ck95 nC95 (inr_IX g30) ?_
      refine r_topS (fun S31 hS31 => ?_)
      replace h := lt_e hS31 h
      refine r_goto (tgt := 144) dX12_falls_62 (by decide) ?_
      cases h
      exact r_return dX12_falls_144 rfl (Nat.zero_le _) ⟨rfl, rfl⟩
  · rw [if_pos c5] at h
    refine r_aload_n (x := 80) dX12_falls_32 rfl ?_
    refine r_dup_ref dX12_falls_33 ?_
    refine r_getfield (o := 80) (v := .int (S.1 80 39)) dX12_falls_34 lX12_293 ck80 nC80 rfl ?_
    refine r_iload_n (x := p2) dX12_falls_37 rfl ?_
    refine r_iadd dX12_falls_38 ?_
    refine r_putI dX12_falls_39 lX12_293 ck80 nC80 ?_
    refine r_topS (fun S32 hS32 => ?_)
    replace h := lt_e hS32 h
    refine r_goto (tgt := 144) dX12_falls_42 (by decide) ?_
    cases h
    exact r_return dX12_falls_144 rfl (Nat.zero_le _) ⟨rfl, rfl⟩
def fX12_gets (N : Nat) (p0 : Int32) (p1 : Int32) (p2 : Int32) (S : PS) : Option PS :=
  gd (inr ((p0 + 10) + p1) 128) <|
  lt (((S.1 91 (ix ((p0 + 10) + p1))) + p2) : Int32) fun x2 =>
  gd (inr ((p0 + 1) + p1) 128) <|
  gd (¬ (S.1 91 (ix ((p0 + 1) + p1))) = 0) <|
  lt ((x2 / (S.1 91 (ix ((p0 + 1) + p1)))) : Int32) fun x5 =>
  gd (inr ((p0 + 1) + p1) 128) <|
  gd (¬ (S.1 91 (ix ((p0 + 1) + p1))) = 0) <|
  gd (inr ((p0 + 10) + p1) 128) <|
  lt ((u2 S.1 91 (ix ((p0 + 10) + p1)) (x2 - x2 / (S.1 91 (ix ((p0 + 1) + p1))) * (S.1 91 (ix ((p0 + 1) + p1)))), S.2) : PS) fun S9 =>
  gd (inr ((p0 + 46) + p1) 128) <|
  bI (fX12_lesser N 1000000000 ((S9.1 91 (ix ((p0 + 46) + p1))) + x5) S9) fun x11 S12 =>
  gd (inr ((p0 + 46) + p1) 128) <|
  lt ((u2 S12.1 91 (ix ((p0 + 46) + p1)) x11, S12.2) : PS) fun S15 =>
  gd (inr p1 9) <|
  lt ((u2 S15.1 96 (ix p1) x5, S15.2) : PS) fun S17 =>
  (if x5 = 0 then
    some S17
  else
    lt ((u2 S17.1 80 38 ((S17.1 80 38) ||| (1 <<< (p1 &&& 31))), S17.2) : PS) fun S19 =>
    bV (fX12_falls N p0 p1 x5 S19) fun S21 =>
    some S21)
set_option maxHeartbeats 4000000 in
set_option maxRecDepth 100000 in
theorem okX12_gets (N : Nat) (p0 : Int32) (p1 : Int32) (p2 : Int32) (S : PS) (T : PS) (h : fX12_gets N p0 p1 p2 S = some T) : CT mX12_gets 1 0 [.ref 80, .int p0, .int p1, .int p2] S (qV T) := by
  refine ct_of [some (.ref 80), some (.int p0), some (.int p1), some (.int p2), none, none] rfl (fun _ => rfl) (fun _ => Nat.le_of_ble_eq_true rfl) ?_
  unfold fX12_gets at h
  refine r_aload_n (x := 80) dX12_gets_0 rfl ?_
  refine r_getfield (o := 80) (v := .ref 91) dX12_gets_1 lX12_51 ck80 nC80 rfl ?_
  refine r_iload_n (x := p0) dX12_gets_4 rfl ?_
  refine r_bipush (v := 10) dX12_gets_5 rfl ?_
  refine r_iadd dX12_gets_7 ?_
  refine r_iload_n (x := p1) dX12_gets_8 rfl ?_
  refine r_iadd dX12_gets_9 ?_
  obtain ⟨g1, h⟩ := gd_e h
  refine r_iaload (a := 91) dX12_gets_10 ck91 nC91 (inr_IX g1) ?_
  refine r_iload_n (x := p2) dX12_gets_11 rfl ?_
  refine r_iadd dX12_gets_12 ?_
  refine r_topi (fun x2 hx2 => ?_)
  replace h := lt_e hx2 h
  refine r_istore (L' := [some (.ref 80), some (.int p0), some (.int p1), some (.int p2), some (.int x2), none]) dX12_gets_13 (Nat.le_of_ble_eq_true rfl) rfl rfl ?_
  refine r_iload (x := x2) dX12_gets_15 rfl ?_
  refine r_aload_n (x := 80) dX12_gets_17 rfl ?_
  refine r_getfield (o := 80) (v := .ref 91) dX12_gets_18 lX12_51 ck80 nC80 rfl ?_
  refine r_iload_n (x := p0) dX12_gets_21 rfl ?_
  refine r_iconst (v := 1) dX12_gets_22 rfl ?_
  refine r_iadd dX12_gets_23 ?_
  refine r_iload_n (x := p1) dX12_gets_24 rfl ?_
  refine r_iadd dX12_gets_25 ?_
  obtain ⟨g3, h⟩ := gd_e h
  refine r_iaload (a := 91) dX12_gets_26 ck91 nC91 (inr_IX g3) ?_
  obtain ⟨g4, h⟩ := gd_e h
  refine r_idiv dX12_gets_27 g4 ?_
  refine r_topi (fun x5 hx5 => ?_)
  replace h := lt_e hx5 h
  refine r_istore (L' := [some (.ref 80), some (.int p0), some (.int p1), some (.int p2), some (.int x2), some (.int x5)]) dX12_gets_28 (Nat.le_of_ble_eq_true rfl) rfl rfl ?_
  refine r_aload_n (x := 80) dX12_gets_30 rfl ?_
  refine r_getfield (o := 80) (v := .ref 91) dX12_gets_31 lX12_51 ck80 nC80 rfl ?_
  refine r_iload_n (x := p0) dX12_gets_34 rfl ?_
  refine r_bipush (v := 10) dX12_gets_35 rfl ?_
  refine r_iadd dX12_gets_37 ?_
  refine r_iload_n (x := p1) dX12_gets_38 rfl ?_
  refine r_iadd dX12_gets_39 ?_
  refine r_iload (x := x2) dX12_gets_40 rfl ?_
  refine r_aload_n (x := 80) dX12_gets_42 rfl ?_
  refine r_getfield (o := 80) (v := .ref 91) dX12_gets_43 lX12_51 ck80 nC80 rfl ?_
  refine r_iload_n (x := p0) dX12_gets_46 rfl ?_
  refine r_iconst (v := 1) dX12_gets_47 rfl ?_
  refine r_iadd dX12_gets_48 ?_
  refine r_iload_n (x := p1) dX12_gets_49 rfl ?_
  refine r_iadd dX12_gets_50 ?_
  obtain ⟨g6, h⟩ := gd_e h
  refine r_iaload (a := 91) dX12_gets_51 ck91 nC91 (inr_IX g6) ?_
  obtain ⟨g7, h⟩ := gd_e h
  refine r_irem dX12_gets_52 g7 ?_
  obtain ⟨g8, h⟩ := gd_e h
  refine r_iastore (a := 91) dX12_gets_53 ck91 nC91 (inr_IX g8) ?_
  refine r_topS (fun S9 hS9 => ?_)
  replace h := lt_e hS9 h
  refine r_aload_n (x := 80) dX12_gets_54 rfl ?_
  refine r_getfield (o := 80) (v := .ref 91) dX12_gets_55 lX12_51 ck80 nC80 rfl ?_
  refine r_iload_n (x := p0) dX12_gets_58 rfl ?_
  refine r_bipush (v := 46) dX12_gets_59 rfl ?_
  refine r_iadd dX12_gets_61 ?_
  refine r_iload_n (x := p1) dX12_gets_62 rfl ?_
  refine r_iadd dX12_gets_63 ?_
  refine r_ldcw (v := 1000000000) dX12_gets_64 kX12_296 ?_
  refine r_aload_n (x := 80) dX12_gets_67 rfl ?_
  refine r_getfield (o := 80) (v := .ref 91) dX12_gets_68 lX12_51 ck80 nC80 rfl ?_
  refine r_iload_n (x := p0) dX12_gets_71 rfl ?_
  refine r_bipush (v := 46) dX12_gets_72 rfl ?_
  refine r_iadd dX12_gets_74 ?_
  refine r_iload_n (x := p1) dX12_gets_75 rfl ?_
  refine r_iadd dX12_gets_76 ?_
  obtain ⟨g10, h⟩ := gd_e h
  refine r_iaload (a := 91) dX12_gets_77 ck91 nC91 (inr_IX g10) ?_
  refine r_iload (x := x5) dX12_gets_78 rfl ?_
  refine r_iadd dX12_gets_80 ?_
  obtain ⟨x11, S12, h13, h⟩ := bI_e h
  refine r_cSI (y := mX12_lesser) (As := [.int 1000000000, .int ((S9.1 91 (ix ((p0 + 46) + p1))) + x5)]) (rest := [.int ((p0 + 46) + p1), .ref 91]) dX12_gets_81 qX12_297 kX12_lesser rfl (okX12_lesser N 1000000000 ((S9.1 91 (ix ((p0 + 46) + p1))) + x5) S9 x11 S12 h13) (by decide) (Nat.zero_le _) rfl (Nat.le_of_ble_eq_true rfl) ?_
  obtain ⟨g14, h⟩ := gd_e h
  refine r_iastore (a := 91) dX12_gets_84 ck91 nC91 (inr_IX g14) ?_
  refine r_topS (fun S15 hS15 => ?_)
  replace h := lt_e hS15 h
  refine r_aload_n (x := 80) dX12_gets_85 rfl ?_
  refine r_getfield (o := 80) (v := .ref 96) dX12_gets_86 lX12_66 ck80 nC80 rfl ?_
  refine r_iload_n (x := p1) dX12_gets_89 rfl ?_
  refine r_iload (x := x5) dX12_gets_90 rfl ?_
  obtain ⟨g16, h⟩ := gd_e h
  refine r_iastore (a := 96) dX12_gets_92 ck96 nC96 (inr_IX g16) ?_
  refine r_topS (fun S17 hS17 => ?_)
  replace h := lt_e hS17 h
  refine r_iload (x := x5) dX12_gets_93 rfl ?_
  refine r_if_ne (tgt := 99) dX12_gets_95 (by decide) (fun c18 => ?_) (fun c18 => ?_)
  · rw [if_neg c18] at h
    refine r_aload_n (x := 80) dX12_gets_99 rfl ?_
    refine r_dup_ref dX12_gets_100 ?_
    refine r_getfield (o := 80) (v := .int (S17.1 80 38)) dX12_gets_101 lX12_300 ck80 nC80 rfl ?_
    refine r_iconst (v := 1) dX12_gets_104 rfl ?_
    refine r_iload_n (x := p1) dX12_gets_105 rfl ?_
    refine r_ishl dX12_gets_106 ?_
    refine r_ior dX12_gets_107 ?_
    refine r_putI dX12_gets_108 lX12_300 ck80 nC80 ?_
    refine r_topS (fun S19 hS19 => ?_)
    replace h := lt_e hS19 h
    refine r_aload_n (x := 80) dX12_gets_111 rfl ?_
    refine r_iload_n (x := p0) dX12_gets_112 rfl ?_
    refine r_iload_n (x := p1) dX12_gets_113 rfl ?_
    refine r_iload (x := x5) dX12_gets_114 rfl ?_
    obtain ⟨S21, h22, h⟩ := bV_e h
    refine r_cVV (y := mX12_falls) (As := [.int p0, .int p1, .int x5]) (rest := []) dX12_gets_116 qX12_303 kX12_falls rfl ob80 vc12 rfl (okX12_falls N p0 p1 x5 S19 S21 h22) (by decide) (Nat.zero_le _) rfl (Nat.le_of_ble_eq_true rfl) ?_
    cases h
    exact r_return dX12_gets_119 rfl (Nat.zero_le _) ⟨rfl, rfl⟩
  · rw [if_pos c18] at h
    cases h
    exact r_return dX12_gets_98 rfl (Nat.zero_le _) ⟨rfl, rfl⟩
def fX12_runs (N : Nat) (p0 : Int32) (p1 : Int32) (S : PS) : Option (Int32 × PS) :=
  gd (inr ((p0 + 55) + p1) 128) <|
  (if (S.1 91 (ix ((p0 + 55) + p1))) = 1 then
    some (0, S)
  else
    (if (S.1 80 40) = (-1) then
      (if (S.1 80 3) = (-1) then
        some (1, S)
      else
        bI (fX12_asks N (S.1 80 3) p0 p1 S) fun x8 S9 =>
        lt ((if 0 < x8 then 0 else 1) : Int32) fun x12 =>
        gd (b01 x12) <|
        some (x12, S9))
    else
      lt ((if (S.1 80 40) = 0 then 1 else 0) : Int32) fun x5 =>
      gd (b01 x5) <|
      some (x5, S)))
set_option maxHeartbeats 4000000 in
set_option maxRecDepth 100000 in
theorem okX12_runs (N : Nat) (p0 : Int32) (p1 : Int32) (S : PS) (r : Int32) (T : PS) (h : fX12_runs N p0 p1 S = some (r, T)) : CT mX12_runs 3 0 [.ref 80, .int p0, .int p1] S (qI r T) := by
  refine ct_of [some (.ref 80), some (.int p0), some (.int p1)] rfl (fun _ => rfl) (fun _ => Nat.le_of_ble_eq_true rfl) ?_
  unfold fX12_runs at h
  refine r_aload_n (x := 80) dX12_runs_0 rfl ?_
  refine r_getfield (o := 80) (v := .ref 91) dX12_runs_1 lX12_51 ck80 nC80 rfl ?_
  refine r_iload_n (x := p0) dX12_runs_4 rfl ?_
  refine r_bipush (v := 55) dX12_runs_5 rfl ?_
  refine r_iadd dX12_runs_7 ?_
  refine r_iload_n (x := p1) dX12_runs_8 rfl ?_
  refine r_iadd dX12_runs_9 ?_
  obtain ⟨g1, h⟩ := gd_e h
  refine r_iaload (a := 91) dX12_runs_10 ck91 nC91 (inr_IX g1) ?_
  refine r_iconst (v := 1) dX12_runs_11 rfl ?_
  refine r_icmp_ne (tgt := 17) dX12_runs_12 (by decide) (fun c2 => ?_) (fun c2 => ?_)
  · rw [if_neg c2] at h
    refine r_aload_n (x := 80) dX12_runs_17 rfl ?_
    refine r_getfield (o := 80) (v := .int (S.1 80 40)) dX12_runs_18 lX12_69 ck80 nC80 rfl ?_
    refine r_iconst (v := (-1)) dX12_runs_21 rfl ?_
    refine r_icmp_ne (tgt := 54) dX12_runs_22 (by decide) (fun c3 => ?_) (fun c3 => ?_)
    · rw [if_neg c3] at h
      refine r_aload_n (x := 80) dX12_runs_54 rfl ?_
      refine r_getfield (o := 80) (v := .int (S.1 80 40)) dX12_runs_55 lX12_69 ck80 nC80 rfl ?_
      obtain ⟨x5, hx5⟩ : ∃ y : Int32, y = ((if (S.1 80 40) = 0 then 1 else 0) : Int32) := ⟨_, rfl⟩
      replace h := lt_e hx5 h
      have keyx5 : WP [] mX12_runs 3 0 (qI r T) 66 [some (.ref 80), some (.int p0), some (.int p1)] (.int x5 :: []) S 0 := by
        obtain ⟨g6, h⟩ := gd_e h
        cases h
        exact r_zreturn dX12_runs_66 rfl (nar01 g6) (Nat.zero_le _) ⟨rfl, rfl⟩
      refine r_if_ne (tgt := 65) dX12_runs_58 (by decide) (fun c4 => ?_) (fun c4 => ?_)
      · refine r_iconst (v := 0) dX12_runs_65 rfl ?_
        exact r_tope (by rw [hx5, if_neg c4]) keyx5
      · refine r_iconst (v := 1) dX12_runs_61 rfl ?_
        refine r_goto (tgt := 66) dX12_runs_62 (by decide) ?_
        exact r_tope (by rw [hx5, if_pos c4]) keyx5
    · rw [if_pos c3] at h
      refine r_aload_n (x := 80) dX12_runs_25 rfl ?_
      refine r_getfield (o := 80) (v := .int (S.1 80 3)) dX12_runs_26 lX12_13 ck80 nC80 rfl ?_
      refine r_iconst (v := (-1)) dX12_runs_29 rfl ?_
      refine r_icmp_eq (tgt := 46) dX12_runs_30 (by decide) (fun c7 => ?_) (fun c7 => ?_)
      · rw [if_pos c7] at h
        refine r_iconst (v := 1) dX12_runs_46 rfl ?_
        refine r_goto (tgt := 66) dX12_runs_47 (by decide) ?_
        cases h
        exact r_zreturn dX12_runs_66 rfl rfl (Nat.zero_le _) ⟨rfl, rfl⟩
      · rw [if_neg c7] at h
        refine r_aload_n (x := 80) dX12_runs_33 rfl ?_
        refine r_aload_n (x := 80) dX12_runs_34 rfl ?_
        refine r_getfield (o := 80) (v := .int (S.1 80 3)) dX12_runs_35 lX12_13 ck80 nC80 rfl ?_
        refine r_iload_n (x := p0) dX12_runs_38 rfl ?_
        refine r_iload_n (x := p1) dX12_runs_39 rfl ?_
        obtain ⟨x8, S9, h10, h⟩ := bI_e h
        refine r_cVI (y := mX12_asks) (As := [.int (S.1 80 3), .int p0, .int p1]) (rest := []) dX12_runs_40 qX12_307 kX12_asks rfl ob80 vc12 rfl (okX12_asks N (S.1 80 3) p0 p1 S x8 S9 h10) (by decide) (Nat.zero_le _) rfl (Nat.le_of_ble_eq_true rfl) ?_
        obtain ⟨x12, hx12⟩ : ∃ y : Int32, y = ((if 0 < x8 then 0 else 1) : Int32) := ⟨_, rfl⟩
        replace h := lt_e hx12 h
        have keyx12 : WP [] mX12_runs 3 0 (qI r T) 66 [some (.ref 80), some (.int p0), some (.int p1)] (.int x12 :: []) S9 0 := by
          obtain ⟨g13, h⟩ := gd_e h
          cases h
          exact r_zreturn dX12_runs_66 rfl (nar01 g13) (Nat.zero_le _) ⟨rfl, rfl⟩
        refine r_if_gt (tgt := 50) dX12_runs_43 (by decide) (fun c11 => ?_) (fun c11 => ?_)
        · refine r_iconst (v := 0) dX12_runs_50 rfl ?_
          refine r_goto (tgt := 66) dX12_runs_51 (by decide) ?_
          exact r_tope (by rw [hx12, if_pos c11]) keyx12
        · refine r_iconst (v := 1) dX12_runs_46 rfl ?_
          refine r_goto (tgt := 66) dX12_runs_47 (by decide) ?_
          exact r_tope (by rw [hx12, if_neg c11]) keyx12
  · rw [if_pos c2] at h
    refine r_iconst (v := 0) dX12_runs_15 rfl ?_
    cases h
    exact r_zreturn dX12_runs_16 rfl rfl (Nat.zero_le _) ⟨rfl, rfl⟩
def fX12_begins0_7 (N : Nat)  : Nat → Int32 → PS → Option (Int32 × PS)
  | 0, _, _ => none
  | n + 1, v1, S =>
    (if (S.1 80 1) ≤ v1 then
      some (v1, S)
    else
      gd (inr v1 9) <|
      lt ((u2 S.1 95 (ix v1) 0, S.2) : PS) fun S4 =>
      gd (inr v1 9) <|
      lt ((u2 S4.1 96 (ix v1) 0, S4.2) : PS) fun S6 =>
      lt (v1 + 1 : Int32) fun x7 =>
      fX12_begins0_7 N  n x7 S6)
set_option maxHeartbeats 4000000 in
set_option maxRecDepth 100000 in
theorem okX12_begins0_7 (N : Nat)  (Q : OQ) (u : Nat) (hu : u ≤ 0) : ∀ (n : Nat) (v1 : Int32) (S : PS) (y1 : Int32) (T : PS), fX12_begins0_7 N  n v1 S = some (y1, T) → WP [] mX12_begins0 0 0 Q 35 [some (.ref 80), some (.int y1)] [] T u → WP [] mX12_begins0 0 0 Q 7 [some (.ref 80), some (.int v1)] [] S u := by
  intro n
  induction n with
  | zero => intro v1 S y1 T h; rw [fX12_begins0_7] at h; cases h
  | succ n ih =>
    intro v1 S y1 T h k0
    rw [fX12_begins0_7] at h
    refine r_iload_n (x := v1) dX12_begins0_7 rfl ?_
    refine r_aload_n (x := 80) dX12_begins0_8 rfl ?_
    refine r_getfield (o := 80) (v := .int (S.1 80 1)) dX12_begins0_9 lX12_269 ck80 nC80 rfl ?_
    refine r_icmp_ge (tgt := 35) dX12_begins0_12 (by decide) (fun c2 => ?_) (fun c2 => ?_)
    · rw [if_pos c2] at h
      cases h
      exact k0
    · rw [if_neg c2] at h
      refine r_aload_n (x := 80) dX12_begins0_15 rfl ?_
      refine r_getfield (o := 80) (v := .ref 95) dX12_begins0_16 lX12_63 ck80 nC80 rfl ?_
      refine r_iload_n (x := v1) dX12_begins0_19 rfl ?_
      refine r_iconst (v := 0) dX12_begins0_20 rfl ?_
      obtain ⟨g3, h⟩ := gd_e h
      refine r_iastore (a := 95) dX12_begins0_21 ck95 nC95 (inr_IX g3) ?_
      refine r_topS (fun S4 hS4 => ?_)
      replace h := lt_e hS4 h
      refine r_aload_n (x := 80) dX12_begins0_22 rfl ?_
      refine r_getfield (o := 80) (v := .ref 96) dX12_begins0_23 lX12_66 ck80 nC80 rfl ?_
      refine r_iload_n (x := v1) dX12_begins0_26 rfl ?_
      refine r_iconst (v := 0) dX12_begins0_27 rfl ?_
      obtain ⟨g5, h⟩ := gd_e h
      refine r_iastore (a := 96) dX12_begins0_28 ck96 nC96 (inr_IX g5) ?_
      refine r_topS (fun S6 hS6 => ?_)
      replace h := lt_e hS6 h
      obtain ⟨x7, hx7⟩ : ∃ y : Int32, y = (v1 + 1 : Int32) := ⟨_, rfl⟩
      replace h := lt_e hx7 h
      refine r_iinc (x := v1) (v := x7) (L' := [some (.ref 80), some (.int x7)]) dX12_begins0_29 rfl (by rw [hx7]; rfl) (Nat.le_of_ble_eq_true rfl) rfl rfl ?_
      refine r_goto (tgt := 7) dX12_begins0_32 (by decide) ?_
      exact ih _ _ _ _ h k0
def fX12_begins0 (N : Nat)  (S : PS) : Option PS :=
  lt ((u2 S.1 80 38 0, S.2) : PS) fun S1 =>
  bT (fX12_begins0_7 N  N 0 S1) fun q8 =>
  lt (q8.1 : Int32) fun x9 =>
  lt (q8.2 : PS) fun S10 =>
  some S10
set_option maxHeartbeats 4000000 in
set_option maxRecDepth 100000 in
theorem okX12_begins0 (N : Nat)  (S : PS) (T : PS) (h : fX12_begins0 N  S = some T) : CT mX12_begins0 0 0 [.ref 80] S (qV T) := by
  refine ct_of [some (.ref 80), none] rfl (fun _ => rfl) (fun _ => Nat.le_of_ble_eq_true rfl) ?_
  unfold fX12_begins0 at h
  refine r_aload_n (x := 80) dX12_begins0_0 rfl ?_
  refine r_iconst (v := 0) dX12_begins0_1 rfl ?_
  refine r_putI dX12_begins0_2 lX12_300 ck80 nC80 ?_
  refine r_topS (fun S1 hS1 => ?_)
  replace h := lt_e hS1 h
  refine r_iconst (v := 0) dX12_begins0_5 rfl ?_
  refine r_istore_n (L' := [some (.ref 80), some (.int 0)]) dX12_begins0_6 (Nat.le_of_ble_eq_true rfl) rfl rfl ?_
  obtain ⟨⟨x9, S10⟩, h12, h⟩ := bT_e h
  dsimp only at h
  replace h := pl_s (pl_s (h))
  refine okX12_begins0_7 N  (qV T) 0 (Nat.zero_le _) _ _ _ _ _ h12 ?_
  cases h
  exact r_return dX12_begins0_35 rfl (Nat.zero_le _) ⟨rfl, rfl⟩
def fX12_hourGoes_11 (N : Nat) (v1 : Int32) : Nat → Int32 → PS → Option (Int32 × PS)
  | 0, _, _ => none
  | n + 1, v2, S =>
    (if (S.1 80 1) ≤ v2 then
      some (v2, S)
    else
      gd (inr v2 9) <|
      bI (fX12_runs N v1 v2 S) fun x7 S8 =>
      (if x7 = 0 then
        bV (fX12_gets N v1 v2 ((S.1 95 (ix v2)) + 0) S8) fun S12 =>
        lt (v2 + 1 : Int32) fun x14 =>
        fX12_hourGoes_11 N v1 n x14 S12
      else
        gd (inr v2 9) <|
        bV (fX12_gets N v1 v2 ((S.1 95 (ix v2)) + (S8.1 81 (ix v2))) S8) fun S17 =>
        lt (v2 + 1 : Int32) fun x19 =>
        fX12_hourGoes_11 N v1 n x19 S17))
set_option maxHeartbeats 4000000 in
set_option maxRecDepth 100000 in
theorem okX12_hourGoes_11 (N : Nat) (v1 : Int32) (Q : OQ) (u : Nat) (hu : u ≤ 0) : ∀ (n : Nat) (v2 : Int32) (S : PS) (y2 : Int32) (T : PS), fX12_hourGoes_11 N v1 n v2 S = some (y2, T) → WP [] mX12_hourGoes 4 0 Q 57 [some (.ref 80), some (.int v1), some (.int y2), none] [] T u → WP [] mX12_hourGoes 4 0 Q 11 [some (.ref 80), some (.int v1), some (.int v2), none] [] S u := by
  intro n
  induction n with
  | zero => intro v2 S y2 T h; rw [fX12_hourGoes_11] at h; cases h
  | succ n ih =>
    intro v2 S y2 T h k0
    rw [fX12_hourGoes_11] at h
    refine r_iload_n (x := v2) dX12_hourGoes_11 rfl ?_
    refine r_aload_n (x := 80) dX12_hourGoes_12 rfl ?_
    refine r_getfield (o := 80) (v := .int (S.1 80 1)) dX12_hourGoes_13 lX12_269 ck80 nC80 rfl ?_
    refine r_icmp_ge (tgt := 57) dX12_hourGoes_16 (by decide) (fun c5 => ?_) (fun c5 => ?_)
    · rw [if_pos c5] at h
      cases h
      exact k0
    · rw [if_neg c5] at h
      refine r_aload_n (x := 80) dX12_hourGoes_19 rfl ?_
      refine r_iload_n (x := v1) dX12_hourGoes_20 rfl ?_
      refine r_iload_n (x := v2) dX12_hourGoes_21 rfl ?_
      refine r_aload_n (x := 80) dX12_hourGoes_22 rfl ?_
      refine r_getfield (o := 80) (v := .ref 95) dX12_hourGoes_23 lX12_63 ck80 nC80 rfl ?_
      refine r_iload_n (x := v2) dX12_hourGoes_26 rfl ?_
      obtain ⟨g6, h⟩ := gd_e h
      refine r_iaload (a := 95) dX12_hourGoes_27 ck95 nC95 (inr_IX g6) ?_
      refine r_aload_n (x := 80) dX12_hourGoes_28 rfl ?_
      refine r_iload_n (x := v1) dX12_hourGoes_29 rfl ?_
      refine r_iload_n (x := v2) dX12_hourGoes_30 rfl ?_
      obtain ⟨x7, S8, h9, h⟩ := bI_e h
      refine r_cVI (y := mX12_runs) (As := [.int v1, .int v2]) (rest := [.int (S.1 95 (ix v2)), .int v2, .int v1, .ref 80]) dX12_hourGoes_31 qX12_313 kX12_runs rfl ob80 vc12 rfl (okX12_runs N v1 v2 S x7 S8 h9) (by decide) hu rfl (Nat.le_of_ble_eq_true rfl) ?_
      refine r_if_eq (tgt := 46) dX12_hourGoes_34 (by decide) (fun c10 => ?_) (fun c10 => ?_)
      · rw [if_pos c10] at h
        refine r_iconst (v := 0) dX12_hourGoes_46 rfl ?_
        refine r_iadd dX12_hourGoes_47 ?_
        obtain ⟨S12, h13, h⟩ := bV_e h
        refine r_cVV (y := mX12_gets) (As := [.int v1, .int v2, .int ((S.1 95 (ix v2)) + 0)]) (rest := []) dX12_hourGoes_48 qX12_317 kX12_gets rfl ob80 vc12 rfl (okX12_gets N v1 v2 ((S.1 95 (ix v2)) + 0) S8 S12 h13) (by decide) hu rfl (Nat.le_of_ble_eq_true rfl) ?_
        obtain ⟨x14, hx14⟩ : ∃ y : Int32, y = (v2 + 1 : Int32) := ⟨_, rfl⟩
        replace h := lt_e hx14 h
        refine r_iinc (x := v2) (v := x14) (L' := [some (.ref 80), some (.int v1), some (.int x14), none]) dX12_hourGoes_51 rfl (by rw [hx14]; rfl) (Nat.le_of_ble_eq_true rfl) rfl rfl ?_
        refine r_goto (tgt := 11) dX12_hourGoes_54 (by decide) ?_
        exact ih _ _ _ _ h k0
      · rw [if_neg c10] at h
        refine r_aload_n (x := 80) dX12_hourGoes_37 rfl ?_
        refine r_getfield (o := 80) (v := .ref 81) dX12_hourGoes_38 lX12_16 ck80 nC80 rfl ?_
        refine r_iload_n (x := v2) dX12_hourGoes_41 rfl ?_
        obtain ⟨g15, h⟩ := gd_e h
        refine r_iaload (a := 81) dX12_hourGoes_42 ck81 nC81 (inr_IX g15) ?_
        refine r_goto (tgt := 47) dX12_hourGoes_43 (by decide) ?_
        refine r_iadd dX12_hourGoes_47 ?_
        obtain ⟨S17, h18, h⟩ := bV_e h
        refine r_cVV (y := mX12_gets) (As := [.int v1, .int v2, .int ((S.1 95 (ix v2)) + (S8.1 81 (ix v2)))]) (rest := []) dX12_hourGoes_48 qX12_317 kX12_gets rfl ob80 vc12 rfl (okX12_gets N v1 v2 ((S.1 95 (ix v2)) + (S8.1 81 (ix v2))) S8 S17 h18) (by decide) hu rfl (Nat.le_of_ble_eq_true rfl) ?_
        obtain ⟨x19, hx19⟩ : ∃ y : Int32, y = (v2 + 1 : Int32) := ⟨_, rfl⟩
        replace h := lt_e hx19 h
        refine r_iinc (x := v2) (v := x19) (L' := [some (.ref 80), some (.int v1), some (.int x19), none]) dX12_hourGoes_51 rfl (by rw [hx19]; rfl) (Nat.le_of_ble_eq_true rfl) rfl rfl ?_
        refine r_goto (tgt := 11) dX12_hourGoes_54 (by decide) ?_
        exact ih _ _ _ _ h k0
def fX12_hourGoes_59 (N : Nat) (v1 : Int32) : Nat → Int32 → PS → Option (Int32 × PS)
  | 0, _, _ => none
  | n + 1, v2, S =>
    (if (S.1 80 1) ≤ v2 then
      some (v2, S)
    else
      (if (S.1 80 2) = (-1) then
        some (v2, S)
      else
        bI (fX12_asks N (S.1 80 2) v1 v2 S) fun x27 S28 =>
        gd (inr ((v1 + 10) + v2) 128) <|
        bI (fX12_bounded N x27 0 (S28.1 91 (ix ((v1 + 10) + v2))) S28) fun x31 S32 =>
        gd (inr ((v1 + 10) + v2) 128) <|
        gd (inr ((v1 + 10) + v2) 128) <|
        lt ((u2 S32.1 91 (ix ((v1 + 10) + v2)) ((S32.1 91 (ix ((v1 + 10) + v2))) - x31), S32.2) : PS) fun S36 =>
        lt ((u2 S36.1 80 39 ((S36.1 80 39) + x31), S36.2) : PS) fun S37 =>
        lt (v2 + 1 : Int32) fun x38 =>
        fX12_hourGoes_59 N v1 n x38 S37))
set_option maxHeartbeats 4000000 in
set_option maxRecDepth 100000 in
theorem okX12_hourGoes_59 (N : Nat) (v1 : Int32) (Q : OQ) (u : Nat) (hu : u ≤ 0) : ∀ (n : Nat) (v2 : Int32) (S : PS) (y2 : Int32) (T : PS), fX12_hourGoes_59 N v1 n v2 S = some (y2, T) → WP [] mX12_hourGoes 4 0 Q 132 [some (.ref 80), some (.int v1), some (.int y2), none] [] T u → WP [] mX12_hourGoes 4 0 Q 59 [some (.ref 80), some (.int v1), some (.int v2), none] [] S u := by
  intro n
  induction n with
  | zero => intro v2 S y2 T h; rw [fX12_hourGoes_59] at h; cases h
  | succ n ih =>
    intro v2 S y2 T h k0
    rw [fX12_hourGoes_59] at h
    refine r_iload_n (x := v2) dX12_hourGoes_59 rfl ?_
    refine r_aload_n (x := 80) dX12_hourGoes_60 rfl ?_
    refine r_getfield (o := 80) (v := .int (S.1 80 1)) dX12_hourGoes_61 lX12_269 ck80 nC80 rfl ?_
    refine r_icmp_ge (tgt := 132) dX12_hourGoes_64 (by decide) (fun c25 => ?_) (fun c25 => ?_)
    · rw [if_pos c25] at h
      cases h
      exact k0
    · rw [if_neg c25] at h
      refine r_aload_n (x := 80) dX12_hourGoes_67 rfl ?_
      refine r_getfield (o := 80) (v := .int (S.1 80 2)) dX12_hourGoes_68 lX12_9 ck80 nC80 rfl ?_
      refine r_iconst (v := (-1)) dX12_hourGoes_71 rfl ?_
      refine r_icmp_eq (tgt := 132) dX12_hourGoes_72 (by decide) (fun c26 => ?_) (fun c26 => ?_)
      · rw [if_pos c26] at h
        cases h
        exact k0
      · rw [if_neg c26] at h
        refine r_aload_n (x := 80) dX12_hourGoes_75 rfl ?_
        refine r_aload_n (x := 80) dX12_hourGoes_76 rfl ?_
        refine r_getfield (o := 80) (v := .int (S.1 80 2)) dX12_hourGoes_77 lX12_9 ck80 nC80 rfl ?_
        refine r_iload_n (x := v1) dX12_hourGoes_80 rfl ?_
        refine r_iload_n (x := v2) dX12_hourGoes_81 rfl ?_
        obtain ⟨x27, S28, h29, h⟩ := bI_e h
        refine r_cVI (y := mX12_asks) (As := [.int (S.1 80 2), .int v1, .int v2]) (rest := []) dX12_hourGoes_82 qX12_307 kX12_asks rfl ob80 vc12 rfl (okX12_asks N (S.1 80 2) v1 v2 S x27 S28 h29) (by decide) hu rfl (Nat.le_of_ble_eq_true rfl) ?_
        refine r_iconst (v := 0) dX12_hourGoes_85 rfl ?_
        refine r_aload_n (x := 80) dX12_hourGoes_86 rfl ?_
        refine r_getfield (o := 80) (v := .ref 91) dX12_hourGoes_87 lX12_51 ck80 nC80 rfl ?_
        refine r_iload_n (x := v1) dX12_hourGoes_90 rfl ?_
        refine r_bipush (v := 10) dX12_hourGoes_91 rfl ?_
        refine r_iadd dX12_hourGoes_93 ?_
        refine r_iload_n (x := v2) dX12_hourGoes_94 rfl ?_
        refine r_iadd dX12_hourGoes_95 ?_
        obtain ⟨g30, h⟩ := gd_e h
        refine r_iaload (a := 91) dX12_hourGoes_96 ck91 nC91 (inr_IX g30) ?_
        obtain ⟨x31, S32, h33, h⟩ := bI_e h
        refine r_cSI (y := mX12_bounded) (As := [.int x27, .int 0, .int (S28.1 91 (ix ((v1 + 10) + v2)))]) (rest := []) dX12_hourGoes_97 qX12_320 kX12_bounded rfl (okX12_bounded N x27 0 (S28.1 91 (ix ((v1 + 10) + v2))) S28 x31 S32 h33) (by decide) hu rfl (Nat.le_of_ble_eq_true rfl) ?_
        refine r_istore_n (L' := [some (.ref 80), some (.int v1), some (.int v2), some (.int x31)]) dX12_hourGoes_100 (Nat.le_of_ble_eq_true rfl) rfl rfl ?_
        refine r_aload_n (x := 80) dX12_hourGoes_101 rfl ?_
        refine r_getfield (o := 80) (v := .ref 91) dX12_hourGoes_102 lX12_51 ck80 nC80 rfl ?_
        refine r_iload_n (x := v1) dX12_hourGoes_105 rfl ?_
        refine r_bipush (v := 10) dX12_hourGoes_106 rfl ?_
        refine r_iadd dX12_hourGoes_108 ?_
        refine r_iload_n (x := v2) dX12_hourGoes_109 rfl ?_
        refine r_iadd dX12_hourGoes_110 ?_
        refine r_dup2 dX12_hourGoes_111 ?_
        obtain ⟨g34, h⟩ := gd_e h
        refine r_iaload (a := 91) dX12_hourGoes_112 ck91 nC91 (inr_IX g34) ?_
        refine r_iload_n (x := x31) dX12_hourGoes_113 rfl ?_
        refine r_isub dX12_hourGoes_114 ?_
        obtain ⟨g35, h⟩ := gd_e h
        refine r_iastore (a := 91) dX12_hourGoes_115 ck91 nC91 (inr_IX g35) ?_
        refine r_topS (fun S36 hS36 => ?_)
        replace h := lt_e hS36 h
        refine r_aload_n (x := 80) dX12_hourGoes_116 rfl ?_
        refine r_dup_ref dX12_hourGoes_117 ?_
        refine r_getfield (o := 80) (v := .int (S36.1 80 39)) dX12_hourGoes_118 lX12_293 ck80 nC80 rfl ?_
        refine r_iload_n (x := x31) dX12_hourGoes_121 rfl ?_
        refine r_iadd dX12_hourGoes_122 ?_
        refine r_putI dX12_hourGoes_123 lX12_293 ck80 nC80 ?_
        refine r_topS (fun S37 hS37 => ?_)
        replace h := lt_e hS37 h
        obtain ⟨x38, hx38⟩ : ∃ y : Int32, y = (v2 + 1 : Int32) := ⟨_, rfl⟩
        replace h := lt_e hx38 h
        refine r_iinc (x := v2) (v := x38) (L' := [some (.ref 80), some (.int v1), some (.int x38), some (.int x31)]) dX12_hourGoes_126 rfl (by rw [hx38]; rfl) (Nat.le_of_ble_eq_true rfl) rfl rfl ?_
        refine r_goto (tgt := 59) dX12_hourGoes_129 (by decide) ?_
        refine r_drop [true, true, true, false] rfl ?_
        exact ih _ _ _ _ h k0
def fX12_hourGoes (N : Nat) (p0 : Int32) (S : PS) : Option PS :=
  bV (fX12_begins0 N  S) fun S2 =>
  lt ((u2 S2.1 80 39 0, S2.2) : PS) fun S4 =>
  bT (fX12_hourGoes_11 N p0 N 0 S4) fun q20 =>
  lt (q20.1 : Int32) fun x21 =>
  lt (q20.2 : PS) fun S22 =>
  bT (fX12_hourGoes_59 N p0 N 0 S22) fun q39 =>
  lt (q39.1 : Int32) fun x40 =>
  lt (q39.2 : PS) fun S41 =>
  gd (inr (p0 + 0) 128) <|
  gd (inr (p0 + 0) 128) <|
  lt ((u2 S41.1 91 (ix (p0 + 0)) ((S41.1 91 (ix (p0 + 0))) + 1), S41.2) : PS) fun S46 =>
  some S46
set_option maxHeartbeats 4000000 in
set_option maxRecDepth 100000 in
theorem okX12_hourGoes (N : Nat) (p0 : Int32) (S : PS) (T : PS) (h : fX12_hourGoes N p0 S = some T) : CT mX12_hourGoes 4 0 [.ref 80, .int p0] S (qV T) := by
  refine ct_of [some (.ref 80), some (.int p0), none, none] rfl (fun _ => rfl) (fun _ => Nat.le_of_ble_eq_true rfl) ?_
  unfold fX12_hourGoes at h
  refine r_aload_n (x := 80) dX12_hourGoes_0 rfl ?_
  obtain ⟨S2, h3, h⟩ := bV_e h
  refine r_cVV (y := mX12_begins0) (As := []) (rest := []) dX12_hourGoes_1 qX12_310 kX12_begins0 rfl ob80 vc12 rfl (okX12_begins0 N  S S2 h3) (by decide) (Nat.zero_le _) rfl (Nat.le_of_ble_eq_true rfl) ?_
  refine r_aload_n (x := 80) dX12_hourGoes_4 rfl ?_
  refine r_iconst (v := 0) dX12_hourGoes_5 rfl ?_
  refine r_putI dX12_hourGoes_6 lX12_293 ck80 nC80 ?_
  refine r_topS (fun S4 hS4 => ?_)
  replace h := lt_e hS4 h
  refine r_iconst (v := 0) dX12_hourGoes_9 rfl ?_
  refine r_istore_n (L' := [some (.ref 80), some (.int p0), some (.int 0), none]) dX12_hourGoes_10 (Nat.le_of_ble_eq_true rfl) rfl rfl ?_
  obtain ⟨⟨x21, S22⟩, h24, h⟩ := bT_e h
  dsimp only at h
  replace h := pl_s (pl_s (h))
  refine okX12_hourGoes_11 N p0 (qV T) 0 (Nat.zero_le _) _ _ _ _ _ h24 ?_
  refine r_iconst (v := 0) dX12_hourGoes_57 rfl ?_
  refine r_istore_n (L' := [some (.ref 80), some (.int p0), some (.int 0), none]) dX12_hourGoes_58 (Nat.le_of_ble_eq_true rfl) rfl rfl ?_
  obtain ⟨⟨x40, S41⟩, h43, h⟩ := bT_e h
  dsimp only at h
  replace h := pl_s (pl_s (h))
  refine okX12_hourGoes_59 N p0 (qV T) 0 (Nat.zero_le _) _ _ _ _ _ h43 ?_
  refine r_aload_n (x := 80) dX12_hourGoes_132 rfl ?_
  refine r_getfield (o := 80) (v := .ref 91) dX12_hourGoes_133 lX12_51 ck80 nC80 rfl ?_
  refine r_iload_n (x := p0) dX12_hourGoes_136 rfl ?_
  refine r_iconst (v := 0) dX12_hourGoes_137 rfl ?_
  refine r_iadd dX12_hourGoes_138 ?_
  refine r_dup2 dX12_hourGoes_139 ?_
  obtain ⟨g44, h⟩ := gd_e h
  refine r_iaload (a := 91) dX12_hourGoes_140 ck91 nC91 (inr_IX g44) ?_
  refine r_iconst (v := 1) dX12_hourGoes_141 rfl ?_
  refine r_iadd dX12_hourGoes_142 ?_
  obtain ⟨g45, h⟩ := gd_e h
  refine r_iastore (a := 91) dX12_hourGoes_143 ck91 nC91 (inr_IX g45) ?_
  refine r_topS (fun S46 hS46 => ?_)
  replace h := lt_e hS46 h
  cases h
  exact r_return dX12_hourGoes_144 rfl (Nat.zero_le _) ⟨rfl, rfl⟩
def fX12_hoursGo_2 (N : Nat) (v1 : Int32) : Nat → Int32 → PS → Option (Int32 × PS)
  | 0, _, _ => none
  | n + 1, v2, S =>
    (if v1 ≤ v2 then
      some (v2, S)
    else
      bV (fX12_hourGoes N 64 S) fun S3 =>
      lt (v2 + 1 : Int32) fun x5 =>
      fX12_hoursGo_2 N v1 n x5 S3)
set_option maxHeartbeats 4000000 in
set_option maxRecDepth 100000 in
theorem okX12_hoursGo_2 (N : Nat) (v1 : Int32) (Q : OQ) (u : Nat) (hu : u ≤ 0) : ∀ (n : Nat) (v2 : Int32) (S : PS) (y2 : Int32) (T : PS), fX12_hoursGo_2 N v1 n v2 S = some (y2, T) → WP [] mX12_hoursGo 5 0 Q 19 [some (.ref 80), some (.int v1), some (.int y2)] [] T u → WP [] mX12_hoursGo 5 0 Q 2 [some (.ref 80), some (.int v1), some (.int v2)] [] S u := by
  intro n
  induction n with
  | zero => intro v2 S y2 T h; rw [fX12_hoursGo_2] at h; cases h
  | succ n ih =>
    intro v2 S y2 T h k0
    rw [fX12_hoursGo_2] at h
    refine r_iload_n (x := v2) dX12_hoursGo_2 rfl ?_
    refine r_iload_n (x := v1) dX12_hoursGo_3 rfl ?_
    refine r_icmp_ge (tgt := 19) dX12_hoursGo_4 (by decide) (fun c1 => ?_) (fun c1 => ?_)
    · rw [if_pos c1] at h
      cases h
      exact k0
    · rw [if_neg c1] at h
      refine r_aload_n (x := 80) dX12_hoursGo_7 rfl ?_
      refine r_bipush (v := 64) dX12_hoursGo_8 rfl ?_
      obtain ⟨S3, h4, h⟩ := bV_e h
      refine r_cVV (y := mX12_hourGoes) (As := [.int 64]) (rest := []) dX12_hoursGo_10 qX12_323 kX12_hourGoes rfl ob80 vc12 rfl (okX12_hourGoes N 64 S S3 h4) (by decide) hu rfl (Nat.le_of_ble_eq_true rfl) ?_
      obtain ⟨x5, hx5⟩ : ∃ y : Int32, y = (v2 + 1 : Int32) := ⟨_, rfl⟩
      replace h := lt_e hx5 h
      refine r_iinc (x := v2) (v := x5) (L' := [some (.ref 80), some (.int v1), some (.int x5)]) dX12_hoursGo_13 rfl (by rw [hx5]; rfl) (Nat.le_of_ble_eq_true rfl) rfl rfl ?_
      refine r_goto (tgt := 2) dX12_hoursGo_16 (by decide) ?_
      exact ih _ _ _ _ h k0
def fX12_hoursGo (N : Nat) (p0 : Int32) (S : PS) : Option PS :=
  bT (fX12_hoursGo_2 N p0 N 0 S) fun q6 =>
  lt (q6.1 : Int32) fun x7 =>
  lt (q6.2 : PS) fun S8 =>
  some S8
set_option maxHeartbeats 4000000 in
set_option maxRecDepth 100000 in
theorem okX12_hoursGo (N : Nat) (p0 : Int32) (S : PS) (T : PS) (h : fX12_hoursGo N p0 S = some T) : CT mX12_hoursGo 5 0 [.ref 80, .int p0] S (qV T) := by
  refine ct_of [some (.ref 80), some (.int p0), none] rfl (fun _ => rfl) (fun _ => Nat.le_of_ble_eq_true rfl) ?_
  unfold fX12_hoursGo at h
  refine r_iconst (v := 0) dX12_hoursGo_0 rfl ?_
  refine r_istore_n (L' := [some (.ref 80), some (.int p0), some (.int 0)]) dX12_hoursGo_1 (Nat.le_of_ble_eq_true rfl) rfl rfl ?_
  obtain ⟨⟨x7, S8⟩, h10, h⟩ := bT_e h
  dsimp only at h
  replace h := pl_s (pl_s (h))
  refine okX12_hoursGo_2 N p0 (qV T) 0 (Nat.zero_le _) _ _ _ _ _ h10 ?_
  cases h
  exact r_return dX12_hoursGo_19 rfl (Nat.zero_le _) ⟨rfl, rfl⟩
def fX12_goesInto (N : Nat) (p0 : Int32) (p1 : Int32) (S : PS) : Option (Int32 × PS) :=
  gd (inr (19 + p0) 128) <|
  (if (S.1 91 (ix (19 + p0))) = p1 then
    some (1, S)
  else
    gd (inr (28 + p0) 128) <|
    lt ((if (S.1 91 (ix (28 + p0))) = p1 then 1 else 0) : Int32) fun x5 =>
    gd (b01 x5) <|
    some (x5, S))
set_option maxHeartbeats 4000000 in
set_option maxRecDepth 100000 in
theorem okX12_goesInto (N : Nat) (p0 : Int32) (p1 : Int32) (S : PS) (r : Int32) (T : PS) (h : fX12_goesInto N p0 p1 S = some (r, T)) : CT mX12_goesInto 0 0 [.ref 80, .int p0, .int p1] S (qI r T) := by
  refine ct_of [some (.ref 80), some (.int p0), some (.int p1)] rfl (fun _ => rfl) (fun _ => Nat.le_of_ble_eq_true rfl) ?_
  unfold fX12_goesInto at h
  refine r_aload_n (x := 80) dX12_goesInto_0 rfl ?_
  refine r_getfield (o := 80) (v := .ref 91) dX12_goesInto_1 lX12_51 ck80 nC80 rfl ?_
  refine r_bipush (v := 19) dX12_goesInto_4 rfl ?_
  refine r_iload_n (x := p0) dX12_goesInto_6 rfl ?_
  refine r_iadd dX12_goesInto_7 ?_
  obtain ⟨g1, h⟩ := gd_e h
  refine r_iaload (a := 91) dX12_goesInto_8 ck91 nC91 (inr_IX g1) ?_
  refine r_iload_n (x := p1) dX12_goesInto_9 rfl ?_
  refine r_icmp_eq (tgt := 26) dX12_goesInto_10 (by decide) (fun c2 => ?_) (fun c2 => ?_)
  · rw [if_pos c2] at h
    refine r_iconst (v := 1) dX12_goesInto_26 rfl ?_
    refine r_goto (tgt := 31) dX12_goesInto_27 (by decide) ?_
    cases h
    exact r_zreturn dX12_goesInto_31 rfl rfl (Nat.zero_le _) ⟨rfl, rfl⟩
  · rw [if_neg c2] at h
    refine r_aload_n (x := 80) dX12_goesInto_13 rfl ?_
    refine r_getfield (o := 80) (v := .ref 91) dX12_goesInto_14 lX12_51 ck80 nC80 rfl ?_
    refine r_bipush (v := 28) dX12_goesInto_17 rfl ?_
    refine r_iload_n (x := p0) dX12_goesInto_19 rfl ?_
    refine r_iadd dX12_goesInto_20 ?_
    obtain ⟨g3, h⟩ := gd_e h
    refine r_iaload (a := 91) dX12_goesInto_21 ck91 nC91 (inr_IX g3) ?_
    refine r_iload_n (x := p1) dX12_goesInto_22 rfl ?_
    obtain ⟨x5, hx5⟩ : ∃ y : Int32, y = ((if (S.1 91 (ix (28 + p0))) = p1 then 1 else 0) : Int32) := ⟨_, rfl⟩
    replace h := lt_e hx5 h
    have keyx5 : WP [] mX12_goesInto 0 0 (qI r T) 31 [some (.ref 80), some (.int p0), some (.int p1)] (.int x5 :: []) S 0 := by
      obtain ⟨g6, h⟩ := gd_e h
      cases h
      exact r_zreturn dX12_goesInto_31 rfl (nar01 g6) (Nat.zero_le _) ⟨rfl, rfl⟩
    refine r_icmp_ne (tgt := 30) dX12_goesInto_23 (by decide) (fun c4 => ?_) (fun c4 => ?_)
    · refine r_iconst (v := 0) dX12_goesInto_30 rfl ?_
      exact r_tope (by rw [hx5, if_neg c4]) keyx5
    · refine r_iconst (v := 1) dX12_goesInto_26 rfl ?_
      refine r_goto (tgt := 31) dX12_goesInto_27 (by decide) ?_
      exact r_tope (by rw [hx5, if_pos c4]) keyx5
def fX12_giversOf_4 (N : Nat) (v1 : Int32) : Nat → Int32 → Int32 → PS → Option (Int32 × Int32 × PS)
  | 0, _, _, _ => none
  | n + 1, v2, v3, S =>
    (if (S.1 80 1) ≤ v3 then
      some (v2, v3, S)
    else
      bI (fX12_goesInto N v3 v1 S) fun x2 S3 =>
      lt ((if x2 = 0 then 0 else (1 <<< (v3 &&& 31))) : Int32) fun x6 =>
      lt ((v2 ||| x6) : Int32) fun x7 =>
      lt (v3 + 1 : Int32) fun x8 =>
      fX12_giversOf_4 N v1 n x7 x8 S3)
set_option maxHeartbeats 4000000 in
set_option maxRecDepth 100000 in
theorem okX12_giversOf_4 (N : Nat) (v1 : Int32) (Q : OQ) (u : Nat) (hu : u ≤ 0) : ∀ (n : Nat) (v2 : Int32) (v3 : Int32) (S : PS) (y2 : Int32) (y3 : Int32) (T : PS), fX12_giversOf_4 N v1 n v2 v3 S = some (y2, y3, T) → WP [] mX12_giversOf 1 0 Q 37 [some (.ref 80), some (.int v1), some (.int y2), some (.int y3)] [] T u → WP [] mX12_giversOf 1 0 Q 4 [some (.ref 80), some (.int v1), some (.int v2), some (.int v3)] [] S u := by
  intro n
  induction n with
  | zero => intro v2 v3 S y2 y3 T h; rw [fX12_giversOf_4] at h; cases h
  | succ n ih =>
    intro v2 v3 S y2 y3 T h k0
    rw [fX12_giversOf_4] at h
    refine r_iload_n (x := v3) dX12_giversOf_4 rfl ?_
    refine r_aload_n (x := 80) dX12_giversOf_5 rfl ?_
    refine r_getfield (o := 80) (v := .int (S.1 80 1)) dX12_giversOf_6 lX12_269 ck80 nC80 rfl ?_
    refine r_icmp_ge (tgt := 37) dX12_giversOf_9 (by decide) (fun c1 => ?_) (fun c1 => ?_)
    · rw [if_pos c1] at h
      cases h
      exact k0
    · rw [if_neg c1] at h
      refine r_iload_n (x := v2) dX12_giversOf_12 rfl ?_
      refine r_aload_n (x := 80) dX12_giversOf_13 rfl ?_
      refine r_iload_n (x := v3) dX12_giversOf_14 rfl ?_
      refine r_iload_n (x := v1) dX12_giversOf_15 rfl ?_
      obtain ⟨x2, S3, h4, h⟩ := bI_e h
      refine r_cVI (y := mX12_goesInto) (As := [.int v3, .int v1]) (rest := [.int v2]) dX12_giversOf_16 qX12_329 kX12_goesInto rfl ob80 vc12 rfl (okX12_goesInto N v3 v1 S x2 S3 h4) (by decide) hu rfl (Nat.le_of_ble_eq_true rfl) ?_
      obtain ⟨x6, hx6⟩ : ∃ y : Int32, y = ((if x2 = 0 then 0 else (1 <<< (v3 &&& 31))) : Int32) := ⟨_, rfl⟩
      replace h := lt_e hx6 h
      have keyx6 : WP [] mX12_giversOf 1 0 Q 29 [some (.ref 80), some (.int v1), some (.int v2), some (.int v3)] (.int x6 :: [.int v2]) S3 u := by
        refine r_ior dX12_giversOf_29 ?_
        refine r_topi (fun x7 hx7 => ?_)
        replace h := lt_e hx7 h
        refine r_istore_n (L' := [some (.ref 80), some (.int v1), some (.int x7), some (.int v3)]) dX12_giversOf_30 (Nat.le_of_ble_eq_true rfl) rfl rfl ?_
        obtain ⟨x8, hx8⟩ : ∃ y : Int32, y = (v3 + 1 : Int32) := ⟨_, rfl⟩
        replace h := lt_e hx8 h
        refine r_iinc (x := v3) (v := x8) (L' := [some (.ref 80), some (.int v1), some (.int x7), some (.int x8)]) dX12_giversOf_31 rfl (by rw [hx8]; rfl) (Nat.le_of_ble_eq_true rfl) rfl rfl ?_
        refine r_goto (tgt := 4) dX12_giversOf_34 (by decide) ?_
        exact ih _ _ _ _ _ _ h k0
      refine r_if_eq (tgt := 28) dX12_giversOf_19 (by decide) (fun c5 => ?_) (fun c5 => ?_)
      · refine r_iconst (v := 0) dX12_giversOf_28 rfl ?_
        exact r_tope (by rw [hx6, if_pos c5]) keyx6
      · refine r_iconst (v := 1) dX12_giversOf_22 rfl ?_
        refine r_iload_n (x := v3) dX12_giversOf_23 rfl ?_
        refine r_ishl dX12_giversOf_24 ?_
        refine r_goto (tgt := 29) dX12_giversOf_25 (by decide) ?_
        exact r_tope (by rw [hx6, if_neg c5]) keyx6
def fX12_giversOf (N : Nat) (p0 : Int32) (S : PS) : Option (Int32 × PS) :=
  bT (fX12_giversOf_4 N p0 N 0 0 S) fun q9 =>
  lt (q9.1 : Int32) fun x10 =>
  lt (q9.2.1 : Int32) fun x11 =>
  lt (q9.2.2 : PS) fun S12 =>
  some (x10, S12)
set_option maxHeartbeats 4000000 in
set_option maxRecDepth 100000 in
theorem okX12_giversOf (N : Nat) (p0 : Int32) (S : PS) (r : Int32) (T : PS) (h : fX12_giversOf N p0 S = some (r, T)) : CT mX12_giversOf 1 0 [.ref 80, .int p0] S (qI r T) := by
  refine ct_of [some (.ref 80), some (.int p0), none, none] rfl (fun _ => rfl) (fun _ => Nat.le_of_ble_eq_true rfl) ?_
  unfold fX12_giversOf at h
  refine r_iconst (v := 0) dX12_giversOf_0 rfl ?_
  refine r_istore_n (L' := [some (.ref 80), some (.int p0), some (.int 0), none]) dX12_giversOf_1 (Nat.le_of_ble_eq_true rfl) rfl rfl ?_
  refine r_iconst (v := 0) dX12_giversOf_2 rfl ?_
  refine r_istore_n (L' := [some (.ref 80), some (.int p0), some (.int 0), some (.int 0)]) dX12_giversOf_3 (Nat.le_of_ble_eq_true rfl) rfl rfl ?_
  obtain ⟨⟨x10, x11, S12⟩, h14, h⟩ := bT_e h
  dsimp only at h
  replace h := pl_s (pl_s (pl_s (h)))
  refine okX12_giversOf_4 N p0 (qI r T) 0 (Nat.zero_le _) _ _ _ _ _ _ _ h14 ?_
  refine r_iload_n (x := x10) dX12_giversOf_37 rfl ?_
  cases h
  exact r_ireturn dX12_giversOf_38 rfl (Nat.zero_le _) ⟨rfl, rfl⟩
def fX12_sumOf_5 (N : Nat) (v1 : Int32) (v2 : Int32) : Nat → Int32 → Int32 → PS → Option (Int32 × Int32 × PS)
  | 0, _, _, _ => none
  | n + 1, v3, v4, S =>
    (if (S.1 80 1) ≤ v4 then
      some (v3, v4, S)
    else
      gd (inr ((v1 + v2) + v4) 128) <|
      bI (fX12_lesser N 1000000000 (v3 + (S.1 91 (ix ((v1 + v2) + v4)))) S) fun x3 S4 =>
      lt (v4 + 1 : Int32) fun x6 =>
      fX12_sumOf_5 N v1 v2 n x3 x6 S4)
set_option maxHeartbeats 4000000 in
set_option maxRecDepth 100000 in
theorem okX12_sumOf_5 (N : Nat) (v1 : Int32) (v2 : Int32) (Q : OQ) (u : Nat) (hu : u ≤ 0) : ∀ (n : Nat) (v3 : Int32) (v4 : Int32) (S : PS) (y3 : Int32) (y4 : Int32) (T : PS), fX12_sumOf_5 N v1 v2 n v3 v4 S = some (y3, y4, T) → WP [] mX12_sumOf 1 0 Q 40 [some (.ref 80), some (.int v1), some (.int v2), some (.int y3), some (.int y4)] [] T u → WP [] mX12_sumOf 1 0 Q 5 [some (.ref 80), some (.int v1), some (.int v2), some (.int v3), some (.int v4)] [] S u := by
  intro n
  induction n with
  | zero => intro v3 v4 S y3 y4 T h; rw [fX12_sumOf_5] at h; cases h
  | succ n ih =>
    intro v3 v4 S y3 y4 T h k0
    rw [fX12_sumOf_5] at h
    refine r_iload (x := v4) dX12_sumOf_5 rfl ?_
    refine r_aload_n (x := 80) dX12_sumOf_7 rfl ?_
    refine r_getfield (o := 80) (v := .int (S.1 80 1)) dX12_sumOf_8 lX12_269 ck80 nC80 rfl ?_
    refine r_icmp_ge (tgt := 40) dX12_sumOf_11 (by decide) (fun c1 => ?_) (fun c1 => ?_)
    · rw [if_pos c1] at h
      cases h
      exact k0
    · rw [if_neg c1] at h
      refine r_ldcw (v := 1000000000) dX12_sumOf_14 kX12_296 ?_
      refine r_iload_n (x := v3) dX12_sumOf_17 rfl ?_
      refine r_aload_n (x := 80) dX12_sumOf_18 rfl ?_
      refine r_getfield (o := 80) (v := .ref 91) dX12_sumOf_19 lX12_51 ck80 nC80 rfl ?_
      refine r_iload_n (x := v1) dX12_sumOf_22 rfl ?_
      refine r_iload_n (x := v2) dX12_sumOf_23 rfl ?_
      refine r_iadd dX12_sumOf_24 ?_
      refine r_iload (x := v4) dX12_sumOf_25 rfl ?_
      refine r_iadd dX12_sumOf_27 ?_
      obtain ⟨g2, h⟩ := gd_e h
      refine r_iaload (a := 91) dX12_sumOf_28 ck91 nC91 (inr_IX g2) ?_
      refine r_iadd dX12_sumOf_29 ?_
      obtain ⟨x3, S4, h5, h⟩ := bI_e h
      refine r_cSI (y := mX12_lesser) (As := [.int 1000000000, .int (v3 + (S.1 91 (ix ((v1 + v2) + v4))))]) (rest := []) dX12_sumOf_30 qX12_297 kX12_lesser rfl (okX12_lesser N 1000000000 (v3 + (S.1 91 (ix ((v1 + v2) + v4)))) S x3 S4 h5) (by decide) hu rfl (Nat.le_of_ble_eq_true rfl) ?_
      refine r_istore_n (L' := [some (.ref 80), some (.int v1), some (.int v2), some (.int x3), some (.int v4)]) dX12_sumOf_33 (Nat.le_of_ble_eq_true rfl) rfl rfl ?_
      obtain ⟨x6, hx6⟩ : ∃ y : Int32, y = (v4 + 1 : Int32) := ⟨_, rfl⟩
      replace h := lt_e hx6 h
      refine r_iinc (x := v4) (v := x6) (L' := [some (.ref 80), some (.int v1), some (.int v2), some (.int x3), some (.int x6)]) dX12_sumOf_34 rfl (by rw [hx6]; rfl) (Nat.le_of_ble_eq_true rfl) rfl rfl ?_
      refine r_goto (tgt := 5) dX12_sumOf_37 (by decide) ?_
      exact ih _ _ _ _ _ _ h k0
def fX12_sumOf (N : Nat) (p0 : Int32) (p1 : Int32) (S : PS) : Option (Int32 × PS) :=
  bT (fX12_sumOf_5 N p0 p1 N 0 0 S) fun q7 =>
  lt (q7.1 : Int32) fun x8 =>
  lt (q7.2.1 : Int32) fun x9 =>
  lt (q7.2.2 : PS) fun S10 =>
  some (x8, S10)
set_option maxHeartbeats 4000000 in
set_option maxRecDepth 100000 in
theorem okX12_sumOf (N : Nat) (p0 : Int32) (p1 : Int32) (S : PS) (r : Int32) (T : PS) (h : fX12_sumOf N p0 p1 S = some (r, T)) : CT mX12_sumOf 1 0 [.ref 80, .int p0, .int p1] S (qI r T) := by
  refine ct_of [some (.ref 80), some (.int p0), some (.int p1), none, none] rfl (fun _ => rfl) (fun _ => Nat.le_of_ble_eq_true rfl) ?_
  unfold fX12_sumOf at h
  refine r_iconst (v := 0) dX12_sumOf_0 rfl ?_
  refine r_istore_n (L' := [some (.ref 80), some (.int p0), some (.int p1), some (.int 0), none]) dX12_sumOf_1 (Nat.le_of_ble_eq_true rfl) rfl rfl ?_
  refine r_iconst (v := 0) dX12_sumOf_2 rfl ?_
  refine r_istore (L' := [some (.ref 80), some (.int p0), some (.int p1), some (.int 0), some (.int 0)]) dX12_sumOf_3 (Nat.le_of_ble_eq_true rfl) rfl rfl ?_
  obtain ⟨⟨x8, x9, S10⟩, h12, h⟩ := bT_e h
  dsimp only at h
  replace h := pl_s (pl_s (pl_s (h)))
  refine okX12_sumOf_5 N p0 p1 (qI r T) 0 (Nat.zero_le _) _ _ _ _ _ _ _ h12 ?_
  refine r_iload_n (x := x8) dX12_sumOf_40 rfl ?_
  cases h
  exact r_ireturn dX12_sumOf_41 rfl (Nat.zero_le _) ⟨rfl, rfl⟩
def fX12_alike_14 (N : Nat) (v2 : Int32) : Nat → Int32 → Int32 → PS → Option (Int32 × Int32 × PS)
  | 0, _, _, _ => none
  | n + 1, v1, v3, S =>
    (if v2 ≤ v3 then
      some (v1, v3, S)
    else
      gd (inr (1 + v2) 128) <|
      gd (inr (1 + v3) 128) <|
      (if (S.1 91 (ix (1 + v2))) = (S.1 91 (ix (1 + v3))) then
        gd (inr (10 + v2) 128) <|
        gd (inr (10 + v3) 128) <|
        (if (S.1 91 (ix (10 + v2))) = (S.1 91 (ix (10 + v3))) then
          gd (inr v2 9) <|
          gd (inr v3 9) <|
          lt ((if (S.1 81 (ix v2)) = (S.1 81 (ix v3)) then 1 else 0) : Int32) fun x16 =>
          lt ((v1 + x16) : Int32) fun x17 =>
          lt (v3 + 1 : Int32) fun x18 =>
          fX12_alike_14 N v2 n x17 x18 S
        else
          lt ((v1 + 0) : Int32) fun x11 =>
          lt (v3 + 1 : Int32) fun x12 =>
          fX12_alike_14 N v2 n x11 x12 S)
      else
        lt ((v1 + 0) : Int32) fun x6 =>
        lt (v3 + 1 : Int32) fun x7 =>
        fX12_alike_14 N v2 n x6 x7 S))
set_option maxHeartbeats 4000000 in
set_option maxRecDepth 100000 in
theorem okX12_alike_14 (N : Nat) (v2 : Int32) (Q : OQ) (u : Nat) (hu : u ≤ 0) : ∀ (n : Nat) (v1 : Int32) (v3 : Int32) (S : PS) (y1 : Int32) (y3 : Int32) (T : PS), fX12_alike_14 N v2 n v1 v3 S = some (y1, y3, T) → WP [] mX12_alike 0 0 Q 88 [some (.ref 80), some (.int y1), some (.int v2), some (.int y3)] [] T u → WP [] mX12_alike 0 0 Q 14 [some (.ref 80), some (.int v1), some (.int v2), some (.int v3)] [] S u := by
  intro n
  induction n with
  | zero => intro v1 v3 S y1 y3 T h; rw [fX12_alike_14] at h; cases h
  | succ n ih =>
    intro v1 v3 S y1 y3 T h k0
    rw [fX12_alike_14] at h
    refine r_iload_n (x := v3) dX12_alike_14 rfl ?_
    refine r_iload_n (x := v2) dX12_alike_15 rfl ?_
    refine r_icmp_ge (tgt := 88) dX12_alike_16 (by decide) (fun c2 => ?_) (fun c2 => ?_)
    · rw [if_pos c2] at h
      cases h
      exact k0
    · rw [if_neg c2] at h
      refine r_iload_n (x := v1) dX12_alike_19 rfl ?_
      refine r_aload_n (x := 80) dX12_alike_20 rfl ?_
      refine r_getfield (o := 80) (v := .ref 91) dX12_alike_21 lX12_51 ck80 nC80 rfl ?_
      refine r_iconst (v := 1) dX12_alike_24 rfl ?_
      refine r_iload_n (x := v2) dX12_alike_25 rfl ?_
      refine r_iadd dX12_alike_26 ?_
      obtain ⟨g3, h⟩ := gd_e h
      refine r_iaload (a := 91) dX12_alike_27 ck91 nC91 (inr_IX g3) ?_
      refine r_aload_n (x := 80) dX12_alike_28 rfl ?_
      refine r_getfield (o := 80) (v := .ref 91) dX12_alike_29 lX12_51 ck80 nC80 rfl ?_
      refine r_iconst (v := 1) dX12_alike_32 rfl ?_
      refine r_iload_n (x := v3) dX12_alike_33 rfl ?_
      refine r_iadd dX12_alike_34 ?_
      obtain ⟨g4, h⟩ := gd_e h
      refine r_iaload (a := 91) dX12_alike_35 ck91 nC91 (inr_IX g4) ?_
      refine r_icmp_ne (tgt := 79) dX12_alike_36 (by decide) (fun c5 => ?_) (fun c5 => ?_)
      · rw [if_neg c5] at h
        refine r_iconst (v := 0) dX12_alike_79 rfl ?_
        refine r_iadd dX12_alike_80 ?_
        refine r_topi (fun x6 hx6 => ?_)
        replace h := lt_e hx6 h
        refine r_istore_n (L' := [some (.ref 80), some (.int x6), some (.int v2), some (.int v3)]) dX12_alike_81 (Nat.le_of_ble_eq_true rfl) rfl rfl ?_
        obtain ⟨x7, hx7⟩ : ∃ y : Int32, y = (v3 + 1 : Int32) := ⟨_, rfl⟩
        replace h := lt_e hx7 h
        refine r_iinc (x := v3) (v := x7) (L' := [some (.ref 80), some (.int x6), some (.int v2), some (.int x7)]) dX12_alike_82 rfl (by rw [hx7]; rfl) (Nat.le_of_ble_eq_true rfl) rfl rfl ?_
        refine r_goto (tgt := 14) dX12_alike_85 (by decide) ?_
        exact ih _ _ _ _ _ _ h k0
      · rw [if_pos c5] at h
        refine r_aload_n (x := 80) dX12_alike_39 rfl ?_
        refine r_getfield (o := 80) (v := .ref 91) dX12_alike_40 lX12_51 ck80 nC80 rfl ?_
        refine r_bipush (v := 10) dX12_alike_43 rfl ?_
        refine r_iload_n (x := v2) dX12_alike_45 rfl ?_
        refine r_iadd dX12_alike_46 ?_
        obtain ⟨g8, h⟩ := gd_e h
        refine r_iaload (a := 91) dX12_alike_47 ck91 nC91 (inr_IX g8) ?_
        refine r_aload_n (x := 80) dX12_alike_48 rfl ?_
        refine r_getfield (o := 80) (v := .ref 91) dX12_alike_49 lX12_51 ck80 nC80 rfl ?_
        refine r_bipush (v := 10) dX12_alike_52 rfl ?_
        refine r_iload_n (x := v3) dX12_alike_54 rfl ?_
        refine r_iadd dX12_alike_55 ?_
        obtain ⟨g9, h⟩ := gd_e h
        refine r_iaload (a := 91) dX12_alike_56 ck91 nC91 (inr_IX g9) ?_
        refine r_icmp_ne (tgt := 79) dX12_alike_57 (by decide) (fun c10 => ?_) (fun c10 => ?_)
        · rw [if_neg c10] at h
          refine r_iconst (v := 0) dX12_alike_79 rfl ?_
          refine r_iadd dX12_alike_80 ?_
          refine r_topi (fun x11 hx11 => ?_)
          replace h := lt_e hx11 h
          refine r_istore_n (L' := [some (.ref 80), some (.int x11), some (.int v2), some (.int v3)]) dX12_alike_81 (Nat.le_of_ble_eq_true rfl) rfl rfl ?_
          obtain ⟨x12, hx12⟩ : ∃ y : Int32, y = (v3 + 1 : Int32) := ⟨_, rfl⟩
          replace h := lt_e hx12 h
          refine r_iinc (x := v3) (v := x12) (L' := [some (.ref 80), some (.int x11), some (.int v2), some (.int x12)]) dX12_alike_82 rfl (by rw [hx12]; rfl) (Nat.le_of_ble_eq_true rfl) rfl rfl ?_
          refine r_goto (tgt := 14) dX12_alike_85 (by decide) ?_
          exact ih _ _ _ _ _ _ h k0
        · rw [if_pos c10] at h
          refine r_aload_n (x := 80) dX12_alike_60 rfl ?_
          refine r_getfield (o := 80) (v := .ref 81) dX12_alike_61 lX12_16 ck80 nC80 rfl ?_
          refine r_iload_n (x := v2) dX12_alike_64 rfl ?_
          obtain ⟨g13, h⟩ := gd_e h
          refine r_iaload (a := 81) dX12_alike_65 ck81 nC81 (inr_IX g13) ?_
          refine r_aload_n (x := 80) dX12_alike_66 rfl ?_
          refine r_getfield (o := 80) (v := .ref 81) dX12_alike_67 lX12_16 ck80 nC80 rfl ?_
          refine r_iload_n (x := v3) dX12_alike_70 rfl ?_
          obtain ⟨g14, h⟩ := gd_e h
          refine r_iaload (a := 81) dX12_alike_71 ck81 nC81 (inr_IX g14) ?_
          obtain ⟨x16, hx16⟩ : ∃ y : Int32, y = ((if (S.1 81 (ix v2)) = (S.1 81 (ix v3)) then 1 else 0) : Int32) := ⟨_, rfl⟩
          replace h := lt_e hx16 h
          have keyx16 : WP [] mX12_alike 0 0 Q 80 [some (.ref 80), some (.int v1), some (.int v2), some (.int v3)] (.int x16 :: [.int v1]) S u := by
            refine r_iadd dX12_alike_80 ?_
            refine r_topi (fun x17 hx17 => ?_)
            replace h := lt_e hx17 h
            refine r_istore_n (L' := [some (.ref 80), some (.int x17), some (.int v2), some (.int v3)]) dX12_alike_81 (Nat.le_of_ble_eq_true rfl) rfl rfl ?_
            obtain ⟨x18, hx18⟩ : ∃ y : Int32, y = (v3 + 1 : Int32) := ⟨_, rfl⟩
            replace h := lt_e hx18 h
            refine r_iinc (x := v3) (v := x18) (L' := [some (.ref 80), some (.int x17), some (.int v2), some (.int x18)]) dX12_alike_82 rfl (by rw [hx18]; rfl) (Nat.le_of_ble_eq_true rfl) rfl rfl ?_
            refine r_goto (tgt := 14) dX12_alike_85 (by decide) ?_
            exact ih _ _ _ _ _ _ h k0
          refine r_icmp_ne (tgt := 79) dX12_alike_72 (by decide) (fun c15 => ?_) (fun c15 => ?_)
          · refine r_iconst (v := 0) dX12_alike_79 rfl ?_
            exact r_tope (by rw [hx16, if_neg c15]) keyx16
          · refine r_iconst (v := 1) dX12_alike_75 rfl ?_
            refine r_goto (tgt := 80) dX12_alike_76 (by decide) ?_
            exact r_tope (by rw [hx16, if_pos c15]) keyx16
def fX12_alike_4 (N : Nat)  : Nat → Int32 → Int32 → PS → Option (Int32 × Int32 × PS)
  | 0, _, _, _ => none
  | n + 1, v1, v2, S =>
    (if (S.1 80 1) ≤ v2 then
      some (v1, v2, S)
    else
      bT (fX12_alike_14 N v2 N v1 0 S) fun q19 =>
      lt (q19.1 : Int32) fun x20 =>
      lt (q19.2.1 : Int32) fun x21 =>
      lt (q19.2.2 : PS) fun S22 =>
      lt (v2 + 1 : Int32) fun x25 =>
      fX12_alike_4 N  n x20 x25 S22)
set_option maxHeartbeats 4000000 in
set_option maxRecDepth 100000 in
theorem okX12_alike_4 (N : Nat)  (Q : OQ) (u : Nat) (hu : u ≤ 0) : ∀ (n : Nat) (v1 : Int32) (v2 : Int32) (S : PS) (y1 : Int32) (y2 : Int32) (T : PS), fX12_alike_4 N  n v1 v2 S = some (y1, y2, T) → WP [] mX12_alike 0 0 Q 94 [some (.ref 80), some (.int y1), some (.int y2), none] [] T u → WP [] mX12_alike 0 0 Q 4 [some (.ref 80), some (.int v1), some (.int v2), none] [] S u := by
  intro n
  induction n with
  | zero => intro v1 v2 S y1 y2 T h; rw [fX12_alike_4] at h; cases h
  | succ n ih =>
    intro v1 v2 S y1 y2 T h k0
    rw [fX12_alike_4] at h
    refine r_iload_n (x := v2) dX12_alike_4 rfl ?_
    refine r_aload_n (x := 80) dX12_alike_5 rfl ?_
    refine r_getfield (o := 80) (v := .int (S.1 80 1)) dX12_alike_6 lX12_269 ck80 nC80 rfl ?_
    refine r_icmp_ge (tgt := 94) dX12_alike_9 (by decide) (fun c1 => ?_) (fun c1 => ?_)
    · rw [if_pos c1] at h
      cases h
      exact k0
    · rw [if_neg c1] at h
      refine r_iconst (v := 0) dX12_alike_12 rfl ?_
      refine r_istore_n (L' := [some (.ref 80), some (.int v1), some (.int v2), some (.int 0)]) dX12_alike_13 (Nat.le_of_ble_eq_true rfl) rfl rfl ?_
      obtain ⟨⟨x20, x21, S22⟩, h24, h⟩ := bT_e h
      dsimp only at h
      replace h := pl_s (pl_s (pl_s (h)))
      refine okX12_alike_14 N v2 Q u hu _ _ _ _ _ _ _ h24 ?_
      obtain ⟨x25, hx25⟩ : ∃ y : Int32, y = (v2 + 1 : Int32) := ⟨_, rfl⟩
      replace h := lt_e hx25 h
      refine r_iinc (x := v2) (v := x25) (L' := [some (.ref 80), some (.int x20), some (.int x25), some (.int x21)]) dX12_alike_88 rfl (by rw [hx25]; rfl) (Nat.le_of_ble_eq_true rfl) rfl rfl ?_
      refine r_goto (tgt := 4) dX12_alike_91 (by decide) ?_
      refine r_drop [true, true, true, false] rfl ?_
      exact ih _ _ _ _ _ _ h k0
def fX12_alike (N : Nat)  (S : PS) : Option (Int32 × PS) :=
  bT (fX12_alike_4 N  N 0 0 S) fun q26 =>
  lt (q26.1 : Int32) fun x27 =>
  lt (q26.2.1 : Int32) fun x28 =>
  lt (q26.2.2 : PS) fun S29 =>
  some (x27, S29)
set_option maxHeartbeats 4000000 in
set_option maxRecDepth 100000 in
theorem okX12_alike (N : Nat)  (S : PS) (r : Int32) (T : PS) (h : fX12_alike N  S = some (r, T)) : CT mX12_alike 0 0 [.ref 80] S (qI r T) := by
  refine ct_of [some (.ref 80), none, none, none] rfl (fun _ => rfl) (fun _ => Nat.le_of_ble_eq_true rfl) ?_
  unfold fX12_alike at h
  refine r_iconst (v := 0) dX12_alike_0 rfl ?_
  refine r_istore_n (L' := [some (.ref 80), some (.int 0), none, none]) dX12_alike_1 (Nat.le_of_ble_eq_true rfl) rfl rfl ?_
  refine r_iconst (v := 0) dX12_alike_2 rfl ?_
  refine r_istore_n (L' := [some (.ref 80), some (.int 0), some (.int 0), none]) dX12_alike_3 (Nat.le_of_ble_eq_true rfl) rfl rfl ?_
  obtain ⟨⟨x27, x28, S29⟩, h31, h⟩ := bT_e h
  dsimp only at h
  replace h := pl_s (pl_s (pl_s (h)))
  refine okX12_alike_4 N  (qI r T) 0 (Nat.zero_le _) _ _ _ _ _ _ _ h31 ?_
  refine r_iload_n (x := x27) dX12_alike_94 rfl ?_
  cases h
  exact r_ireturn dX12_alike_95 rfl (Nat.zero_le _) ⟨rfl, rfl⟩
def fX12_plugged_4 (N : Nat)  : Nat → Int32 → Int32 → PS → Option (Int32 × Int32 × PS)
  | 0, _, _, _ => none
  | n + 1, v1, v2, S =>
    (if (S.1 80 1) ≤ v2 then
      some (v1, v2, S)
    else
      gd (inr (55 + v2) 128) <|
      lt ((v1 ||| ((S.1 91 (ix (55 + v2))) <<< (v2 &&& 31))) : Int32) fun x3 =>
      lt (v2 + 1 : Int32) fun x4 =>
      fX12_plugged_4 N  n x3 x4 S)
set_option maxHeartbeats 4000000 in
set_option maxRecDepth 100000 in
theorem okX12_plugged_4 (N : Nat)  (Q : OQ) (u : Nat) (hu : u ≤ 0) : ∀ (n : Nat) (v1 : Int32) (v2 : Int32) (S : PS) (y1 : Int32) (y2 : Int32) (T : PS), fX12_plugged_4 N  n v1 v2 S = some (y1, y2, T) → WP [] mX12_plugged 0 0 Q 32 [some (.ref 80), some (.int y1), some (.int y2)] [] T u → WP [] mX12_plugged 0 0 Q 4 [some (.ref 80), some (.int v1), some (.int v2)] [] S u := by
  intro n
  induction n with
  | zero => intro v1 v2 S y1 y2 T h; rw [fX12_plugged_4] at h; cases h
  | succ n ih =>
    intro v1 v2 S y1 y2 T h k0
    rw [fX12_plugged_4] at h
    refine r_iload_n (x := v2) dX12_plugged_4 rfl ?_
    refine r_aload_n (x := 80) dX12_plugged_5 rfl ?_
    refine r_getfield (o := 80) (v := .int (S.1 80 1)) dX12_plugged_6 lX12_269 ck80 nC80 rfl ?_
    refine r_icmp_ge (tgt := 32) dX12_plugged_9 (by decide) (fun c1 => ?_) (fun c1 => ?_)
    · rw [if_pos c1] at h
      cases h
      exact k0
    · rw [if_neg c1] at h
      refine r_iload_n (x := v1) dX12_plugged_12 rfl ?_
      refine r_aload_n (x := 80) dX12_plugged_13 rfl ?_
      refine r_getfield (o := 80) (v := .ref 91) dX12_plugged_14 lX12_51 ck80 nC80 rfl ?_
      refine r_bipush (v := 55) dX12_plugged_17 rfl ?_
      refine r_iload_n (x := v2) dX12_plugged_19 rfl ?_
      refine r_iadd dX12_plugged_20 ?_
      obtain ⟨g2, h⟩ := gd_e h
      refine r_iaload (a := 91) dX12_plugged_21 ck91 nC91 (inr_IX g2) ?_
      refine r_iload_n (x := v2) dX12_plugged_22 rfl ?_
      refine r_ishl dX12_plugged_23 ?_
      refine r_ior dX12_plugged_24 ?_
      refine r_topi (fun x3 hx3 => ?_)
      replace h := lt_e hx3 h
      refine r_istore_n (L' := [some (.ref 80), some (.int x3), some (.int v2)]) dX12_plugged_25 (Nat.le_of_ble_eq_true rfl) rfl rfl ?_
      obtain ⟨x4, hx4⟩ : ∃ y : Int32, y = (v2 + 1 : Int32) := ⟨_, rfl⟩
      replace h := lt_e hx4 h
      refine r_iinc (x := v2) (v := x4) (L' := [some (.ref 80), some (.int x3), some (.int x4)]) dX12_plugged_26 rfl (by rw [hx4]; rfl) (Nat.le_of_ble_eq_true rfl) rfl rfl ?_
      refine r_goto (tgt := 4) dX12_plugged_29 (by decide) ?_
      exact ih _ _ _ _ _ _ h k0
def fX12_plugged (N : Nat)  (S : PS) : Option (Int32 × PS) :=
  bT (fX12_plugged_4 N  N 0 0 S) fun q5 =>
  lt (q5.1 : Int32) fun x6 =>
  lt (q5.2.1 : Int32) fun x7 =>
  lt (q5.2.2 : PS) fun S8 =>
  some (x6, S8)
set_option maxHeartbeats 4000000 in
set_option maxRecDepth 100000 in
theorem okX12_plugged (N : Nat)  (S : PS) (r : Int32) (T : PS) (h : fX12_plugged N  S = some (r, T)) : CT mX12_plugged 0 0 [.ref 80] S (qI r T) := by
  refine ct_of [some (.ref 80), none, none] rfl (fun _ => rfl) (fun _ => Nat.le_of_ble_eq_true rfl) ?_
  unfold fX12_plugged at h
  refine r_iconst (v := 0) dX12_plugged_0 rfl ?_
  refine r_istore_n (L' := [some (.ref 80), some (.int 0), none]) dX12_plugged_1 (Nat.le_of_ble_eq_true rfl) rfl rfl ?_
  refine r_iconst (v := 0) dX12_plugged_2 rfl ?_
  refine r_istore_n (L' := [some (.ref 80), some (.int 0), some (.int 0)]) dX12_plugged_3 (Nat.le_of_ble_eq_true rfl) rfl rfl ?_
  obtain ⟨⟨x6, x7, S8⟩, h10, h⟩ := bT_e h
  dsimp only at h
  replace h := pl_s (pl_s (pl_s (h)))
  refine okX12_plugged_4 N  (qI r T) 0 (Nat.zero_le _) _ _ _ _ _ _ _ h10 ?_
  refine r_iload_n (x := x6) dX12_plugged_32 rfl ?_
  cases h
  exact r_ireturn dX12_plugged_33 rfl (Nat.zero_le _) ⟨rfl, rfl⟩
def fX12_isCup (N : Nat) (p0 : Int32) (S : PS) : Option (Int32 × PS) :=
  (if p0 < 0 then
    bI (fX12_right N 0 1 S) fun x2 S3 =>
    gd (b01 x2) <|
    some (x2, S3)
  else
    lt ((if (S.1 80 1) ≤ p0 then 0 else 1) : Int32) fun x7 =>
    bI (fX12_right N x7 1 S) fun x8 S9 =>
    gd (b01 x8) <|
    some (x8, S9))
set_option maxHeartbeats 4000000 in
set_option maxRecDepth 100000 in
theorem okX12_isCup (N : Nat) (p0 : Int32) (S : PS) (r : Int32) (T : PS) (h : fX12_isCup N p0 S = some (r, T)) : CT mX12_isCup 1 0 [.ref 80, .int p0] S (qI r T) := by
  refine ct_of [some (.ref 80), some (.int p0)] rfl (fun _ => rfl) (fun _ => Nat.le_of_ble_eq_true rfl) ?_
  unfold fX12_isCup at h
  refine r_aload_n (x := 80) dX12_isCup_0 rfl ?_
  refine r_iload_n (x := p0) dX12_isCup_1 rfl ?_
  refine r_if_lt (tgt := 17) dX12_isCup_2 (by decide) (fun c1 => ?_) (fun c1 => ?_)
  · rw [if_pos c1] at h
    refine r_iconst (v := 0) dX12_isCup_17 rfl ?_
    refine r_iconst (v := 1) dX12_isCup_18 rfl ?_
    obtain ⟨x2, S3, h4, h⟩ := bI_e h
    refine r_cVI (y := mX12_right) (As := [.int 0, .int 1]) (rest := []) dX12_isCup_19 qX12_262 kX12_right rfl ob80 vc12 rfl (okX12_right N 0 1 S x2 S3 h4) (by decide) (Nat.zero_le _) rfl (Nat.le_of_ble_eq_true rfl) ?_
    obtain ⟨g5, h⟩ := gd_e h
    cases h
    exact r_zreturn dX12_isCup_22 rfl (nar01 g5) (Nat.zero_le _) ⟨rfl, rfl⟩
  · rw [if_neg c1] at h
    refine r_iload_n (x := p0) dX12_isCup_5 rfl ?_
    refine r_aload_n (x := 80) dX12_isCup_6 rfl ?_
    refine r_getfield (o := 80) (v := .int (S.1 80 1)) dX12_isCup_7 lX12_269 ck80 nC80 rfl ?_
    obtain ⟨x7, hx7⟩ : ∃ y : Int32, y = ((if (S.1 80 1) ≤ p0 then 0 else 1) : Int32) := ⟨_, rfl⟩
    replace h := lt_e hx7 h
    have keyx7 : WP [] mX12_isCup 1 0 (qI r T) 18 [some (.ref 80), some (.int p0)] (.int x7 :: [.ref 80]) S 0 := by
      refine r_iconst (v := 1) dX12_isCup_18 rfl ?_
      obtain ⟨x8, S9, h10, h⟩ := bI_e h
      refine r_cVI (y := mX12_right) (As := [.int x7, .int 1]) (rest := []) dX12_isCup_19 qX12_262 kX12_right rfl ob80 vc12 rfl (okX12_right N x7 1 S x8 S9 h10) (by decide) (Nat.zero_le _) rfl (Nat.le_of_ble_eq_true rfl) ?_
      obtain ⟨g11, h⟩ := gd_e h
      cases h
      exact r_zreturn dX12_isCup_22 rfl (nar01 g11) (Nat.zero_le _) ⟨rfl, rfl⟩
    refine r_icmp_ge (tgt := 17) dX12_isCup_10 (by decide) (fun c6 => ?_) (fun c6 => ?_)
    · refine r_iconst (v := 0) dX12_isCup_17 rfl ?_
      exact r_tope (by rw [hx7, if_pos c6]) keyx7
    · refine r_iconst (v := 1) dX12_isCup_13 rfl ?_
      refine r_goto (tgt := 18) dX12_isCup_14 (by decide) ?_
      exact r_tope (by rw [hx7, if_neg c6]) keyx7
def fX12_isWhat (N : Nat) (p0 : Int32) (p1 : Int32) (S : PS) : Option (Int32 × PS) :=
  bI (fX12_within N p0 0 p1 S) fun x1 S2 =>
  bI (fX12_right N x1 1 S2) fun x4 S5 =>
  gd (b01 x4) <|
  some (x4, S5)
set_option maxHeartbeats 4000000 in
set_option maxRecDepth 100000 in
theorem okX12_isWhat (N : Nat) (p0 : Int32) (p1 : Int32) (S : PS) (r : Int32) (T : PS) (h : fX12_isWhat N p0 p1 S = some (r, T)) : CT mX12_isWhat 1 0 [.ref 80, .int p0, .int p1] S (qI r T) := by
  refine ct_of [some (.ref 80), some (.int p0), some (.int p1)] rfl (fun _ => rfl) (fun _ => Nat.le_of_ble_eq_true rfl) ?_
  unfold fX12_isWhat at h
  refine r_aload_n (x := 80) dX12_isWhat_0 rfl ?_
  refine r_iload_n (x := p0) dX12_isWhat_1 rfl ?_
  refine r_iconst (v := 0) dX12_isWhat_2 rfl ?_
  refine r_iload_n (x := p1) dX12_isWhat_3 rfl ?_
  obtain ⟨x1, S2, h3, h⟩ := bI_e h
  refine r_cSI (y := mX12_within) (As := [.int p0, .int 0, .int p1]) (rest := [.ref 80]) dX12_isWhat_4 qX12_332 kX12_within rfl (okX12_within N p0 0 p1 S x1 S2 h3) (by decide) (Nat.zero_le _) rfl (Nat.le_of_ble_eq_true rfl) ?_
  refine r_iconst (v := 1) dX12_isWhat_7 rfl ?_
  obtain ⟨x4, S5, h6, h⟩ := bI_e h
  refine r_cVI (y := mX12_right) (As := [.int x1, .int 1]) (rest := []) dX12_isWhat_8 qX12_262 kX12_right rfl ob80 vc12 rfl (okX12_right N x1 1 S2 x4 S5 h6) (by decide) (Nat.zero_le _) rfl (Nat.le_of_ble_eq_true rfl) ?_
  obtain ⟨g7, h⟩ := gd_e h
  cases h
  exact r_zreturn dX12_isWhat_11 rfl (nar01 g7) (Nat.zero_le _) ⟨rfl, rfl⟩
def fX12_isSome (N : Nat) (p0 : Int32) (S : PS) : Option (Int32 × PS) :=
  (if p0 < 0 then
    bI (fX12_right N 0 1 S) fun x2 S3 =>
    gd (b01 x2) <|
    some (x2, S3)
  else
    lt ((if (1 <<< ((S.1 80 1) &&& 31)) ≤ p0 then 0 else 1) : Int32) fun x7 =>
    bI (fX12_right N x7 1 S) fun x8 S9 =>
    gd (b01 x8) <|
    some (x8, S9))
set_option maxHeartbeats 4000000 in
set_option maxRecDepth 100000 in
theorem okX12_isSome (N : Nat) (p0 : Int32) (S : PS) (r : Int32) (T : PS) (h : fX12_isSome N p0 S = some (r, T)) : CT mX12_isSome 1 0 [.ref 80, .int p0] S (qI r T) := by
  refine ct_of [some (.ref 80), some (.int p0)] rfl (fun _ => rfl) (fun _ => Nat.le_of_ble_eq_true rfl) ?_
  unfold fX12_isSome at h
  refine r_aload_n (x := 80) dX12_isSome_0 rfl ?_
  refine r_iload_n (x := p0) dX12_isSome_1 rfl ?_
  refine r_if_lt (tgt := 19) dX12_isSome_2 (by decide) (fun c1 => ?_) (fun c1 => ?_)
  · rw [if_pos c1] at h
    refine r_iconst (v := 0) dX12_isSome_19 rfl ?_
    refine r_iconst (v := 1) dX12_isSome_20 rfl ?_
    obtain ⟨x2, S3, h4, h⟩ := bI_e h
    refine r_cVI (y := mX12_right) (As := [.int 0, .int 1]) (rest := []) dX12_isSome_21 qX12_262 kX12_right rfl ob80 vc12 rfl (okX12_right N 0 1 S x2 S3 h4) (by decide) (Nat.zero_le _) rfl (Nat.le_of_ble_eq_true rfl) ?_
    obtain ⟨g5, h⟩ := gd_e h
    cases h
    exact r_zreturn dX12_isSome_24 rfl (nar01 g5) (Nat.zero_le _) ⟨rfl, rfl⟩
  · rw [if_neg c1] at h
    refine r_iload_n (x := p0) dX12_isSome_5 rfl ?_
    refine r_iconst (v := 1) dX12_isSome_6 rfl ?_
    refine r_aload_n (x := 80) dX12_isSome_7 rfl ?_
    refine r_getfield (o := 80) (v := .int (S.1 80 1)) dX12_isSome_8 lX12_269 ck80 nC80 rfl ?_
    refine r_ishl dX12_isSome_11 ?_
    obtain ⟨x7, hx7⟩ : ∃ y : Int32, y = ((if (1 <<< ((S.1 80 1) &&& 31)) ≤ p0 then 0 else 1) : Int32) := ⟨_, rfl⟩
    replace h := lt_e hx7 h
    have keyx7 : WP [] mX12_isSome 1 0 (qI r T) 20 [some (.ref 80), some (.int p0)] (.int x7 :: [.ref 80]) S 0 := by
      refine r_iconst (v := 1) dX12_isSome_20 rfl ?_
      obtain ⟨x8, S9, h10, h⟩ := bI_e h
      refine r_cVI (y := mX12_right) (As := [.int x7, .int 1]) (rest := []) dX12_isSome_21 qX12_262 kX12_right rfl ob80 vc12 rfl (okX12_right N x7 1 S x8 S9 h10) (by decide) (Nat.zero_le _) rfl (Nat.le_of_ble_eq_true rfl) ?_
      obtain ⟨g11, h⟩ := gd_e h
      cases h
      exact r_zreturn dX12_isSome_24 rfl (nar01 g11) (Nat.zero_le _) ⟨rfl, rfl⟩
    refine r_icmp_ge (tgt := 19) dX12_isSome_12 (by decide) (fun c6 => ?_) (fun c6 => ?_)
    · refine r_iconst (v := 0) dX12_isSome_19 rfl ?_
      exact r_tope (by rw [hx7, if_pos c6]) keyx7
    · refine r_iconst (v := 1) dX12_isSome_15 rfl ?_
      refine r_goto (tgt := 20) dX12_isSome_16 (by decide) ?_
      exact r_tope (by rw [hx7, if_neg c6]) keyx7
