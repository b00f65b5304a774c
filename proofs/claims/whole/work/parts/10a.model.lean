def fX12_thrown (N : Nat)  (S : PS) : Option (Int32 × PS) :=
  some ((S.1 80 0), S)
set_option maxHeartbeats 4000000 in
set_option maxRecDepth 100000 in
theorem okX12_thrown (N : Nat)  (S : PS) (r : Int32) (T : PS) (h : fX12_thrown N  S = some (r, T)) : CT mX12_thrown 0 0 [.ref 80] S (qI r T) := by
  refine ct_of [some (.ref 80)] rfl (fun _ => rfl) (fun _ => Nat.le_of_ble_eq_true rfl) ?_
  unfold fX12_thrown at h
  refine r_aload_n (x := 80) dX12_thrown_0 rfl ?_
  refine r_getfield (o := 80) (v := .int (S.1 80 0)) dX12_thrown_1 lX12_114 ck80 nC80 rfl ?_
  cases h
  exact r_ireturn dX12_thrown_4 rfl (Nat.zero_le _) ⟨rfl, rfl⟩
def fX12_right (N : Nat) (p0 : Int32) (p1 : Int32) (S : PS) : Option (Int32 × PS) :=
  (if (S.1 80 0) = 0 then
    (if p0 = 0 then
      lt ((u2 S.1 80 0 p1, S.2) : PS) fun S9 =>
      lt ((if (S9.1 80 0) = 0 then 1 else 0) : Int32) fun x11 =>
      gd (b01 x11) <|
      some (x11, S9)
    else
      lt ((if (S.1 80 0) = 0 then 1 else 0) : Int32) fun x7 =>
      gd (b01 x7) <|
      some (x7, S))
  else
    lt ((if (S.1 80 0) = 0 then 1 else 0) : Int32) fun x3 =>
    gd (b01 x3) <|
    some (x3, S))
set_option maxHeartbeats 4000000 in
set_option maxRecDepth 100000 in
theorem okX12_right (N : Nat) (p0 : Int32) (p1 : Int32) (S : PS) (r : Int32) (T : PS) (h : fX12_right N p0 p1 S = some (r, T)) : CT mX12_right 0 0 [.ref 80, .int p0, .int p1] S (qI r T) := by
  refine ct_of [some (.ref 80), some (.int p0), some (.int p1)] rfl (fun _ => rfl) (fun _ => Nat.le_of_ble_eq_true rfl) ?_
  unfold fX12_right at h
  refine r_aload_n (x := 80) dX12_right_0 rfl ?_
  refine r_getfield (o := 80) (v := .int (S.1 80 0)) dX12_right_1 lX12_114 ck80 nC80 rfl ?_
  refine r_if_ne (tgt := 16) dX12_right_4 (by decide) (fun c1 => ?_) (fun c1 => ?_)
  · rw [if_neg c1] at h
    refine r_aload_n (x := 80) dX12_right_16 rfl ?_
    refine r_getfield (o := 80) (v := .int (S.1 80 0)) dX12_right_17 lX12_114 ck80 nC80 rfl ?_
    obtain ⟨x3, hx3⟩ : ∃ y : Int32, y = ((if (S.1 80 0) = 0 then 1 else 0) : Int32) := ⟨_, rfl⟩
    replace h := lt_e hx3 h
    have keyx3 : WP [] mX12_right 0 0 (qI r T) 28 [some (.ref 80), some (.int p0), some (.int p1)] (.int x3 :: []) S 0 := by
      obtain ⟨g4, h⟩ := gd_e h
      cases h
      exact r_zreturn dX12_right_28 rfl (nar01 g4) (Nat.zero_le _) ⟨rfl, rfl⟩
    refine r_if_ne (tgt := 27) dX12_right_20 (by decide) (fun c2 => ?_) (fun c2 => ?_)
    · refine r_iconst (v := 0) dX12_right_27 rfl ?_
      exact r_tope (by rw [hx3, if_neg c2]) keyx3
    · refine r_iconst (v := 1) dX12_right_23 rfl ?_
      refine r_goto (tgt := 28) dX12_right_24 (by decide) ?_
      exact r_tope (by rw [hx3, if_pos c2]) keyx3
  · rw [if_pos c1] at h
    refine r_iload_n (x := p0) dX12_right_7 rfl ?_
    refine r_if_ne (tgt := 16) dX12_right_8 (by decide) (fun c5 => ?_) (fun c5 => ?_)
    · rw [if_neg c5] at h
      refine r_aload_n (x := 80) dX12_right_16 rfl ?_
      refine r_getfield (o := 80) (v := .int (S.1 80 0)) dX12_right_17 lX12_114 ck80 nC80 rfl ?_
      obtain ⟨x7, hx7⟩ : ∃ y : Int32, y = ((if (S.1 80 0) = 0 then 1 else 0) : Int32) := ⟨_, rfl⟩
      replace h := lt_e hx7 h
      have keyx7 : WP [] mX12_right 0 0 (qI r T) 28 [some (.ref 80), some (.int p0), some (.int p1)] (.int x7 :: []) S 0 := by
        obtain ⟨g8, h⟩ := gd_e h
        cases h
        exact r_zreturn dX12_right_28 rfl (nar01 g8) (Nat.zero_le _) ⟨rfl, rfl⟩
      refine r_if_ne (tgt := 27) dX12_right_20 (by decide) (fun c6 => ?_) (fun c6 => ?_)
      · refine r_iconst (v := 0) dX12_right_27 rfl ?_
        exact r_tope (by rw [hx7, if_neg c6]) keyx7
      · refine r_iconst (v := 1) dX12_right_23 rfl ?_
        refine r_goto (tgt := 28) dX12_right_24 (by decide) ?_
        exact r_tope (by rw [hx7, if_pos c6]) keyx7
    · rw [if_pos c5] at h
      refine r_aload_n (x := 80) dX12_right_11 rfl ?_
      refine r_iload_n (x := p1) dX12_right_12 rfl ?_
      refine r_putI dX12_right_13 lX12_114 ck80 nC80 ?_
      refine r_topS (fun S9 hS9 => ?_)
      replace h := lt_e hS9 h
      refine r_aload_n (x := 80) dX12_right_16 rfl ?_
      refine r_getfield (o := 80) (v := .int (S9.1 80 0)) dX12_right_17 lX12_114 ck80 nC80 rfl ?_
      obtain ⟨x11, hx11⟩ : ∃ y : Int32, y = ((if (S9.1 80 0) = 0 then 1 else 0) : Int32) := ⟨_, rfl⟩
      replace h := lt_e hx11 h
      have keyx11 : WP [] mX12_right 0 0 (qI r T) 28 [some (.ref 80), some (.int p0), some (.int p1)] (.int x11 :: []) S9 0 := by
        obtain ⟨g12, h⟩ := gd_e h
        cases h
        exact r_zreturn dX12_right_28 rfl (nar01 g12) (Nat.zero_le _) ⟨rfl, rfl⟩
      refine r_if_ne (tgt := 27) dX12_right_20 (by decide) (fun c10 => ?_) (fun c10 => ?_)
      · refine r_iconst (v := 0) dX12_right_27 rfl ?_
        exact r_tope (by rw [hx11, if_neg c10]) keyx11
      · refine r_iconst (v := 1) dX12_right_23 rfl ?_
        refine r_goto (tgt := 28) dX12_right_24 (by decide) ?_
        exact r_tope (by rw [hx11, if_pos c10]) keyx11
def fX12_within (N : Nat) (p0 : Int32) (p1 : Int32) (p2 : Int32) (S : PS) : Option (Int32 × PS) :=
  lt ((if p0 < p1 then 0 else (if p2 < p0 then 0 else 1)) : Int32) fun x3 =>
  gd (b01 x3) <|
  some (x3, S)
set_option maxHeartbeats 4000000 in
set_option maxRecDepth 100000 in
theorem okX12_within (N : Nat) (p0 : Int32) (p1 : Int32) (p2 : Int32) (S : PS) (r : Int32) (T : PS) (h : fX12_within N p0 p1 p2 S = some (r, T)) : CT mX12_within 0 0 [.int p0, .int p1, .int p2] S (qI r T) := by
  refine ct_of [some (.int p0), some (.int p1), some (.int p2)] rfl (fun _ => rfl) (fun _ => Nat.le_of_ble_eq_true rfl) ?_
  unfold fX12_within at h
  refine r_iload_n (x := p0) dX12_within_0 rfl ?_
  refine r_iload_n (x := p1) dX12_within_1 rfl ?_
  obtain ⟨x3, hx3⟩ : ∃ y : Int32, y = ((if p0 < p1 then 0 else (if p2 < p0 then 0 else 1)) : Int32) := ⟨_, rfl⟩
  replace h := lt_e hx3 h
  have keyx3 : WP [] mX12_within 0 0 (qI r T) 15 [some (.int p0), some (.int p1), some (.int p2)] (.int x3 :: []) S 0 := by
    obtain ⟨g4, h⟩ := gd_e h
    cases h
    exact r_zreturn dX12_within_15 rfl (nar01 g4) (Nat.zero_le _) ⟨rfl, rfl⟩
  refine r_icmp_lt (tgt := 14) dX12_within_2 (by decide) (fun c1 => ?_) (fun c1 => ?_)
  · refine r_iconst (v := 0) dX12_within_14 rfl ?_
    exact r_tope (by rw [hx3, if_pos c1]) keyx3
  · refine r_iload_n (x := p0) dX12_within_5 rfl ?_
    refine r_iload_n (x := p2) dX12_within_6 rfl ?_
    refine r_icmp_gt (tgt := 14) dX12_within_7 (by decide) (fun c2 => ?_) (fun c2 => ?_)
    · refine r_iconst (v := 0) dX12_within_14 rfl ?_
      exact r_tope (by rw [hx3, if_neg c1, if_pos c2]) keyx3
    · refine r_iconst (v := 1) dX12_within_10 rfl ?_
      refine r_goto (tgt := 15) dX12_within_11 (by decide) ?_
      exact r_tope (by rw [hx3, if_neg c1, if_neg c2]) keyx3
def fX12_bounded (N : Nat) (p0 : Int32) (p1 : Int32) (p2 : Int32) (S : PS) : Option (Int32 × PS) :=
  lt ((if p1 ≤ p0 then (if p0 ≤ p2 then p0 else p2) else p1) : Int32) fun x3 =>
  some (x3, S)
set_option maxHeartbeats 4000000 in
set_option maxRecDepth 100000 in
theorem okX12_bounded (N : Nat) (p0 : Int32) (p1 : Int32) (p2 : Int32) (S : PS) (r : Int32) (T : PS) (h : fX12_bounded N p0 p1 p2 S = some (r, T)) : CT mX12_bounded 0 0 [.int p0, .int p1, .int p2] S (qI r T) := by
  refine ct_of [some (.int p0), some (.int p1), some (.int p2)] rfl (fun _ => rfl) (fun _ => Nat.le_of_ble_eq_true rfl) ?_
  unfold fX12_bounded at h
  refine r_iload_n (x := p0) dX12_bounded_0 rfl ?_
  refine r_iload_n (x := p1) dX12_bounded_1 rfl ?_
  obtain ⟨x3, hx3⟩ : ∃ y : Int32, y = ((if p1 ≤ p0 then (if p0 ≤ p2 then p0 else p2) else p1) : Int32) := ⟨_, rfl⟩
  replace h := lt_e hx3 h
  have keyx3 : WP [] mX12_bounded 0 0 (qI r T) 19 [some (.int p0), some (.int p1), some (.int p2)] (.int x3 :: []) S 0 := by
    cases h
    exact r_ireturn dX12_bounded_19 rfl (Nat.zero_le _) ⟨rfl, rfl⟩
  refine r_icmp_ge (tgt := 9) dX12_bounded_2 (by decide) (fun c1 => ?_) (fun c1 => ?_)
  · refine r_iload_n (x := p0) dX12_bounded_9 rfl ?_
    refine r_iload_n (x := p2) dX12_bounded_10 rfl ?_
    refine r_icmp_le (tgt := 18) dX12_bounded_11 (by decide) (fun c2 => ?_) (fun c2 => ?_)
    · refine r_iload_n (x := p0) dX12_bounded_18 rfl ?_
      exact r_tope (by rw [hx3, if_pos c1, if_pos c2]) keyx3
    · refine r_iload_n (x := p2) dX12_bounded_14 rfl ?_
      refine r_goto (tgt := 19) dX12_bounded_15 (by decide) ?_
      exact r_tope (by rw [hx3, if_pos c1, if_neg c2]) keyx3
  · refine r_iload_n (x := p1) dX12_bounded_5 rfl ?_
    refine r_goto (tgt := 19) dX12_bounded_6 (by decide) ?_
    exact r_tope (by rw [hx3, if_neg c1]) keyx3
def fX12_lesser (N : Nat) (p0 : Int32) (p1 : Int32) (S : PS) : Option (Int32 × PS) :=
  lt ((if p1 ≤ p0 then p1 else p0) : Int32) fun x2 =>
  some (x2, S)
set_option maxHeartbeats 4000000 in
set_option maxRecDepth 100000 in
theorem okX12_lesser (N : Nat) (p0 : Int32) (p1 : Int32) (S : PS) (r : Int32) (T : PS) (h : fX12_lesser N p0 p1 S = some (r, T)) : CT mX12_lesser 0 0 [.int p0, .int p1] S (qI r T) := by
  refine ct_of [some (.int p0), some (.int p1)] rfl (fun _ => rfl) (fun _ => Nat.le_of_ble_eq_true rfl) ?_
  unfold fX12_lesser at h
  refine r_iload_n (x := p0) dX12_lesser_0 rfl ?_
  refine r_iload_n (x := p1) dX12_lesser_1 rfl ?_
  obtain ⟨x2, hx2⟩ : ∃ y : Int32, y = ((if p1 ≤ p0 then p1 else p0) : Int32) := ⟨_, rfl⟩
  replace h := lt_e hx2 h
  have keyx2 : WP [] mX12_lesser 0 0 (qI r T) 10 [some (.int p0), some (.int p1)] (.int x2 :: []) S 0 := by
    cases h
    exact r_ireturn dX12_lesser_10 rfl (Nat.zero_le _) ⟨rfl, rfl⟩
  refine r_icmp_ge (tgt := 9) dX12_lesser_2 (by decide) (fun c1 => ?_) (fun c1 => ?_)
  · refine r_iload_n (x := p1) dX12_lesser_9 rfl ?_
    exact r_tope (by rw [hx2, if_pos c1]) keyx2
  · refine r_iload_n (x := p0) dX12_lesser_5 rfl ?_
    refine r_goto (tgt := 10) dX12_lesser_6 (by decide) ?_
    exact r_tope (by rw [hx2, if_neg c1]) keyx2
def fX12_greater (N : Nat) (p0 : Int32) (p1 : Int32) (S : PS) : Option (Int32 × PS) :=
  lt ((if p0 ≤ p1 then p1 else p0) : Int32) fun x2 =>
  some (x2, S)
set_option maxHeartbeats 4000000 in
set_option maxRecDepth 100000 in
theorem okX12_greater (N : Nat) (p0 : Int32) (p1 : Int32) (S : PS) (r : Int32) (T : PS) (h : fX12_greater N p0 p1 S = some (r, T)) : CT mX12_greater 0 0 [.int p0, .int p1] S (qI r T) := by
  refine ct_of [some (.int p0), some (.int p1)] rfl (fun _ => rfl) (fun _ => Nat.le_of_ble_eq_true rfl) ?_
  unfold fX12_greater at h
  refine r_iload_n (x := p0) dX12_greater_0 rfl ?_
  refine r_iload_n (x := p1) dX12_greater_1 rfl ?_
  obtain ⟨x2, hx2⟩ : ∃ y : Int32, y = ((if p0 ≤ p1 then p1 else p0) : Int32) := ⟨_, rfl⟩
  replace h := lt_e hx2 h
  have keyx2 : WP [] mX12_greater 0 0 (qI r T) 10 [some (.int p0), some (.int p1)] (.int x2 :: []) S 0 := by
    cases h
    exact r_ireturn dX12_greater_10 rfl (Nat.zero_le _) ⟨rfl, rfl⟩
  refine r_icmp_le (tgt := 9) dX12_greater_2 (by decide) (fun c1 => ?_) (fun c1 => ?_)
  · refine r_iload_n (x := p1) dX12_greater_9 rfl ?_
    exact r_tope (by rw [hx2, if_pos c1]) keyx2
  · refine r_iload_n (x := p0) dX12_greater_5 rfl ?_
    refine r_goto (tgt := 10) dX12_greater_6 (by decide) ?_
    exact r_tope (by rw [hx2, if_neg c1]) keyx2
def fX12_copies_2 (N : Nat) (v1 : Nat) (v2 : Nat) : Nat → Int32 → PS → Option (Int32 × PS)
  | 0, _, _ => none
  | n + 1, v3, S =>
    gd (arr v1 1 (ck v1).2) <|
    (if (Int32.ofNat (ck v1).2) ≤ v3 then
      some (v3, S)
    else
      gd (arr v1 1 (ck v1).2) <|
      gd (inr v3 (ck v1).2) <|
      gd (arr v2 1 (ck v2).2) <|
      gd (inr v3 (ck v2).2) <|
      lt ((u2 S.1 v2 (ix v3) (S.1 v1 (ix v3)), S.2) : PS) fun S7 =>
      lt (v3 + 1 : Int32) fun x8 =>
      fX12_copies_2 N v1 v2 n x8 S7)
set_option maxHeartbeats 4000000 in
set_option maxRecDepth 100000 in
theorem okX12_copies_2 (N : Nat) (v1 : Nat) (v2 : Nat) (Q : OQ) (u : Nat) (hu : u ≤ 0) : ∀ (n : Nat) (v3 : Int32) (S : PS) (y3 : Int32) (T : PS), fX12_copies_2 N v1 v2 n v3 S = some (y3, T) → WP [] mX12_copies 0 0 Q 20 [some (.ref 80), some (.ref v1), some (.ref v2), some (.int y3)] [] T u → WP [] mX12_copies 0 0 Q 2 [some (.ref 80), some (.ref v1), some (.ref v2), some (.int v3)] [] S u := by
  intro n
  induction n with
  | zero => intro v3 S y3 T h; rw [fX12_copies_2] at h; cases h
  | succ n ih =>
    intro v3 S y3 T h k0
    rw [fX12_copies_2] at h
    refine r_iload_n (x := v3) dX12_copies_2 rfl ?_
    refine r_aload_n (x := v1) dX12_copies_3 rfl ?_
    obtain ⟨g1, h⟩ := gd_e h
    refine r_alen (v := (Int32.ofNat (ck v1).2)) dX12_copies_4 g1.1 (by decide) g1.2 rfl ?_
    refine r_icmp_ge (tgt := 20) dX12_copies_5 (by decide) (fun c2 => ?_) (fun c2 => ?_)
    · rw [if_pos c2] at h
      cases h
      exact k0
    · rw [if_neg c2] at h
      refine r_aload_n (x := v2) dX12_copies_8 rfl ?_
      refine r_iload_n (x := v3) dX12_copies_9 rfl ?_
      refine r_aload_n (x := v1) dX12_copies_10 rfl ?_
      refine r_iload_n (x := v3) dX12_copies_11 rfl ?_
      obtain ⟨g3, h⟩ := gd_e h
      obtain ⟨g4, h⟩ := gd_e h
      refine r_iaload (a := v1) dX12_copies_12 g3.1 g3.2 (inr_IX g4) ?_
      obtain ⟨g5, h⟩ := gd_e h
      obtain ⟨g6, h⟩ := gd_e h
      refine r_iastore (a := v2) dX12_copies_13 g5.1 g5.2 (inr_IX g6) ?_
      refine r_topS (fun S7 hS7 => ?_)
      replace h := lt_e hS7 h
      obtain ⟨x8, hx8⟩ : ∃ y : Int32, y = (v3 + 1 : Int32) := ⟨_, rfl⟩
      replace h := lt_e hx8 h
      refine r_iinc (x := v3) (v := x8) (L' := [some (.ref 80), some (.ref v1), some (.ref v2), some (.int x8)]) dX12_copies_14 rfl (by rw [hx8]; rfl) (Nat.le_of_ble_eq_true rfl) rfl rfl ?_
      refine r_goto (tgt := 2) dX12_copies_17 (by decide) ?_
      exact ih _ _ _ _ h k0
def fX12_copies (N : Nat) (p0 : Nat) (p1 : Nat) (S : PS) : Option PS :=
  bT (fX12_copies_2 N p0 p1 N 0 S) fun q9 =>
  lt (q9.1 : Int32) fun x10 =>
  lt (q9.2 : PS) fun S11 =>
  some S11
set_option maxHeartbeats 4000000 in
set_option maxRecDepth 100000 in
theorem okX12_copies (N : Nat) (p0 : Nat) (p1 : Nat) (S : PS) (T : PS) (h : fX12_copies N p0 p1 S = some T) : CT mX12_copies 0 0 [.ref 80, .ref p0, .ref p1] S (qV T) := by
  refine ct_of [some (.ref 80), some (.ref p0), some (.ref p1), none] rfl (fun _ => rfl) (fun _ => Nat.le_of_ble_eq_true rfl) ?_
  unfold fX12_copies at h
  refine r_iconst (v := 0) dX12_copies_0 rfl ?_
  refine r_istore_n (L' := [some (.ref 80), some (.ref p0), some (.ref p1), some (.int 0)]) dX12_copies_1 (Nat.le_of_ble_eq_true rfl) rfl rfl ?_
  obtain ⟨⟨x10, S11⟩, h13, h⟩ := bT_e h
  dsimp only at h
  replace h := pl_s (pl_s (h))
  refine okX12_copies_2 N p0 p1 (qV T) 0 (Nat.zero_le _) _ _ _ _ _ h13 ?_
  cases h
  exact r_return dX12_copies_20 rfl (Nat.zero_le _) ⟨rfl, rfl⟩
def fX12_bits_4 (N : Nat) (v0 : Int32) : Nat → Int32 → Int32 → PS → Option (Int32 × Int32 × PS)
  | 0, _, _, _ => none
  | n + 1, v1, v2, S =>
    (if 9 ≤ v2 then
      some (v1, v2, S)
    else
      lt ((v1 + ((v0 >>> (v2 &&& 31)) &&& 1)) : Int32) fun x2 =>
      lt (v2 + 1 : Int32) fun x3 =>
      fX12_bits_4 N v0 n x2 x3 S)
set_option maxHeartbeats 4000000 in
set_option maxRecDepth 100000 in
theorem okX12_bits_4 (N : Nat) (v0 : Int32) (Q : OQ) (u : Nat) (hu : u ≤ 0) : ∀ (n : Nat) (v1 : Int32) (v2 : Int32) (S : PS) (y1 : Int32) (y2 : Int32) (T : PS), fX12_bits_4 N v0 n v1 v2 S = some (y1, y2, T) → WP [] mX12_bits 0 0 Q 24 [some (.int v0), some (.int y1), some (.int y2)] [] T u → WP [] mX12_bits 0 0 Q 4 [some (.int v0), some (.int v1), some (.int v2)] [] S u := by
  intro n
  induction n with
  | zero => intro v1 v2 S y1 y2 T h; rw [fX12_bits_4] at h; cases h
  | succ n ih =>
    intro v1 v2 S y1 y2 T h k0
    rw [fX12_bits_4] at h
    refine r_iload_n (x := v2) dX12_bits_4 rfl ?_
    refine r_bipush (v := 9) dX12_bits_5 rfl ?_
    refine r_icmp_ge (tgt := 24) dX12_bits_7 (by decide) (fun c1 => ?_) (fun c1 => ?_)
    · rw [if_pos c1] at h
      cases h
      exact k0
    · rw [if_neg c1] at h
      refine r_iload_n (x := v1) dX12_bits_10 rfl ?_
      refine r_iload_n (x := v0) dX12_bits_11 rfl ?_
      refine r_iload_n (x := v2) dX12_bits_12 rfl ?_
      refine r_ishr dX12_bits_13 ?_
      refine r_iconst (v := 1) dX12_bits_14 rfl ?_
      refine r_iand dX12_bits_15 ?_
      refine r_iadd dX12_bits_16 ?_
      refine r_topi (fun x2 hx2 => ?_)
      replace h := lt_e hx2 h
      refine r_istore_n (L' := [some (.int v0), some (.int x2), some (.int v2)]) dX12_bits_17 (Nat.le_of_ble_eq_true rfl) rfl rfl ?_
      obtain ⟨x3, hx3⟩ : ∃ y : Int32, y = (v2 + 1 : Int32) := ⟨_, rfl⟩
      replace h := lt_e hx3 h
      refine r_iinc (x := v2) (v := x3) (L' := [some (.int v0), some (.int x2), some (.int x3)]) dX12_bits_18 rfl (by rw [hx3]; rfl) (Nat.le_of_ble_eq_true rfl) rfl rfl ?_
      refine r_goto (tgt := 4) dX12_bits_21 (by decide) ?_
      exact ih _ _ _ _ _ _ h k0
def fX12_bits (N : Nat) (p0 : Int32) (S : PS) : Option (Int32 × PS) :=
  bT (fX12_bits_4 N p0 N 0 0 S) fun q4 =>
  lt (q4.1 : Int32) fun x5 =>
  lt (q4.2.1 : Int32) fun x6 =>
  lt (q4.2.2 : PS) fun S7 =>
  some (x5, S7)
set_option maxHeartbeats 4000000 in
set_option maxRecDepth 100000 in
theorem okX12_bits (N : Nat) (p0 : Int32) (S : PS) (r : Int32) (T : PS) (h : fX12_bits N p0 S = some (r, T)) : CT mX12_bits 0 0 [.int p0] S (qI r T) := by
  refine ct_of [some (.int p0), none, none] rfl (fun _ => rfl) (fun _ => Nat.le_of_ble_eq_true rfl) ?_
  unfold fX12_bits at h
  refine r_iconst (v := 0) dX12_bits_0 rfl ?_
  refine r_istore_n (L' := [some (.int p0), some (.int 0), none]) dX12_bits_1 (Nat.le_of_ble_eq_true rfl) rfl rfl ?_
  refine r_iconst (v := 0) dX12_bits_2 rfl ?_
  refine r_istore_n (L' := [some (.int p0), some (.int 0), some (.int 0)]) dX12_bits_3 (Nat.le_of_ble_eq_true rfl) rfl rfl ?_
  obtain ⟨⟨x5, x6, S7⟩, h9, h⟩ := bT_e h
  dsimp only at h
  replace h := pl_s (pl_s (pl_s (h)))
  refine okX12_bits_4 N p0 (qI r T) 0 (Nat.zero_le _) _ _ _ _ _ _ _ h9 ?_
  refine r_iload_n (x := x5) dX12_bits_24 rfl ?_
  cases h
  exact r_ireturn dX12_bits_25 rfl (Nat.zero_le _) ⟨rfl, rfl⟩
def fX12_lays_3 (N : Nat) (v1 : Int32) : Nat → Int32 → PS → Option (Int32 × PS)
  | 0, _, _ => none
  | n + 1, v2, S =>
    (if v2 < 0 then
      some (v2, S)
    else
      gd (inr (S.1 80 7) 700) <|
      lt ((u2 S.1 83 (ix (S.1 80 7)) ((v1 >>> (v2 &&& 31)) &&& 255), S.2) : PS) fun S3 =>
      lt ((u2 S3.1 80 7 ((S3.1 80 7) + 1), S3.2) : PS) fun S4 =>
      lt (v2 + (-8) : Int32) fun x5 =>
      fX12_lays_3 N v1 n x5 S4)
set_option maxHeartbeats 4000000 in
set_option maxRecDepth 100000 in
theorem okX12_lays_3 (N : Nat) (v1 : Int32) (Q : OQ) (u : Nat) (hu : u ≤ 0) : ∀ (n : Nat) (v2 : Int32) (S : PS) (y2 : Int32) (T : PS), fX12_lays_3 N v1 n v2 S = some (y2, T) → WP [] mX12_lays 0 0 Q 39 [some (.ref 80), some (.int v1), some (.int y2)] [] T u → WP [] mX12_lays 0 0 Q 3 [some (.ref 80), some (.int v1), some (.int v2)] [] S u := by
  intro n
  induction n with
  | zero => intro v2 S y2 T h; rw [fX12_lays_3] at h; cases h
  | succ n ih =>
    intro v2 S y2 T h k0
    rw [fX12_lays_3] at h
    refine r_iload_n (x := v2) dX12_lays_3 rfl ?_
    refine r_if_lt (tgt := 39) dX12_lays_4 (by decide) (fun c1 => ?_) (fun c1 => ?_)
    · rw [if_pos c1] at h
      cases h
      exact k0
    · rw [if_neg c1] at h
      refine r_aload_n (x := 80) dX12_lays_7 rfl ?_
      refine r_getfield (o := 80) (v := .ref 83) dX12_lays_8 lX12_23 ck80 nC80 rfl ?_
      refine r_aload_n (x := 80) dX12_lays_11 rfl ?_
      refine r_getfield (o := 80) (v := .int (S.1 80 7)) dX12_lays_12 lX12_117 ck80 nC80 rfl ?_
      refine r_iload_n (x := v1) dX12_lays_15 rfl ?_
      refine r_iload_n (x := v2) dX12_lays_16 rfl ?_
      refine r_ishr dX12_lays_17 ?_
      refine r_sipush (v := 255) dX12_lays_18 rfl ?_
      refine r_iand dX12_lays_21 ?_
      obtain ⟨g2, h⟩ := gd_e h
      refine r_iastore (a := 83) dX12_lays_22 ck83 nC83 (inr_IX g2) ?_
      refine r_topS (fun S3 hS3 => ?_)
      replace h := lt_e hS3 h
      refine r_aload_n (x := 80) dX12_lays_23 rfl ?_
      refine r_dup_ref dX12_lays_24 ?_
      refine r_getfield (o := 80) (v := .int (S3.1 80 7)) dX12_lays_25 lX12_117 ck80 nC80 rfl ?_
      refine r_iconst (v := 1) dX12_lays_28 rfl ?_
      refine r_iadd dX12_lays_29 ?_
      refine r_putI dX12_lays_30 lX12_117 ck80 nC80 ?_
      refine r_topS (fun S4 hS4 => ?_)
      replace h := lt_e hS4 h
      obtain ⟨x5, hx5⟩ : ∃ y : Int32, y = (v2 + (-8) : Int32) := ⟨_, rfl⟩
      replace h := lt_e hx5 h
      refine r_iinc (x := v2) (v := x5) (L' := [some (.ref 80), some (.int v1), some (.int x5)]) dX12_lays_33 rfl (by rw [hx5]; rfl) (Nat.le_of_ble_eq_true rfl) rfl rfl ?_
      refine r_goto (tgt := 3) dX12_lays_36 (by decide) ?_
      exact ih _ _ _ _ h k0
def fX12_lays (N : Nat) (p0 : Int32) (S : PS) : Option PS :=
  bT (fX12_lays_3 N p0 N 24 S) fun q6 =>
  lt (q6.1 : Int32) fun x7 =>
  lt (q6.2 : PS) fun S8 =>
  some S8
set_option maxHeartbeats 4000000 in
set_option maxRecDepth 100000 in
theorem okX12_lays (N : Nat) (p0 : Int32) (S : PS) (T : PS) (h : fX12_lays N p0 S = some T) : CT mX12_lays 0 0 [.ref 80, .int p0] S (qV T) := by
  refine ct_of [some (.ref 80), some (.int p0), none] rfl (fun _ => rfl) (fun _ => Nat.le_of_ble_eq_true rfl) ?_
  unfold fX12_lays at h
  refine r_bipush (v := 24) dX12_lays_0 rfl ?_
  refine r_istore_n (L' := [some (.ref 80), some (.int p0), some (.int 24)]) dX12_lays_2 (Nat.le_of_ble_eq_true rfl) rfl rfl ?_
  obtain ⟨⟨x7, S8⟩, h10, h⟩ := bT_e h
  dsimp only at h
  replace h := pl_s (pl_s (h))
  refine okX12_lays_3 N p0 (qV T) 0 (Nat.zero_le _) _ _ _ _ _ h10 ?_
  cases h
  exact r_return dX12_lays_39 rfl (Nat.zero_le _) ⟨rfl, rfl⟩
def fX12_byteAt (N : Nat) (p0 : Int32) (S : PS) : Option (Int32 × PS) :=
  (if (S.1 80 11) ≤ p0 then
    some (0, S)
  else
    gd (inr p0 700) <|
    some ((S.1 83 (ix p0)), S))
set_option maxHeartbeats 4000000 in
set_option maxRecDepth 100000 in
theorem okX12_byteAt (N : Nat) (p0 : Int32) (S : PS) (r : Int32) (T : PS) (h : fX12_byteAt N p0 S = some (r, T)) : CT mX12_byteAt 0 0 [.ref 80, .int p0] S (qI r T) := by
  refine ct_of [some (.ref 80), some (.int p0)] rfl (fun _ => rfl) (fun _ => Nat.le_of_ble_eq_true rfl) ?_
  unfold fX12_byteAt at h
  refine r_iload_n (x := p0) dX12_byteAt_0 rfl ?_
  refine r_aload_n (x := 80) dX12_byteAt_1 rfl ?_
  refine r_getfield (o := 80) (v := .int (S.1 80 11)) dX12_byteAt_2 lX12_124 ck80 nC80 rfl ?_
  refine r_icmp_ge (tgt := 17) dX12_byteAt_5 (by decide) (fun c1 => ?_) (fun c1 => ?_)
  · rw [if_pos c1] at h
    refine r_iconst (v := 0) dX12_byteAt_17 rfl ?_
    cases h
    exact r_ireturn dX12_byteAt_18 rfl (Nat.zero_le _) ⟨rfl, rfl⟩
  · rw [if_neg c1] at h
    refine r_aload_n (x := 80) dX12_byteAt_8 rfl ?_
    refine r_getfield (o := 80) (v := .ref 83) dX12_byteAt_9 lX12_23 ck80 nC80 rfl ?_
    refine r_iload_n (x := p0) dX12_byteAt_12 rfl ?_
    obtain ⟨g2, h⟩ := gd_e h
    refine r_iaload (a := 83) dX12_byteAt_13 ck83 nC83 (inr_IX g2) ?_
    refine r_goto (tgt := 18) dX12_byteAt_14 (by decide) ?_
    cases h
    exact r_ireturn dX12_byteAt_18 rfl (Nat.zero_le _) ⟨rfl, rfl⟩
def fX12_isLetter (N : Nat) (p0 : Int32) (S : PS) : Option (Int32 × PS) :=
  lt ((if p0 < 97 then 0 else (if 122 < p0 then 0 else 1)) : Int32) fun x3 =>
  gd (b01 x3) <|
  some (x3, S)
set_option maxHeartbeats 4000000 in
set_option maxRecDepth 100000 in
theorem okX12_isLetter (N : Nat) (p0 : Int32) (S : PS) (r : Int32) (T : PS) (h : fX12_isLetter N p0 S = some (r, T)) : CT mX12_isLetter 0 0 [.int p0] S (qI r T) := by
  refine ct_of [some (.int p0)] rfl (fun _ => rfl) (fun _ => Nat.le_of_ble_eq_true rfl) ?_
  unfold fX12_isLetter at h
  refine r_iload_n (x := p0) dX12_isLetter_0 rfl ?_
  refine r_bipush (v := 97) dX12_isLetter_1 rfl ?_
  obtain ⟨x3, hx3⟩ : ∃ y : Int32, y = ((if p0 < 97 then 0 else (if 122 < p0 then 0 else 1)) : Int32) := ⟨_, rfl⟩
  replace h := lt_e hx3 h
  have keyx3 : WP [] mX12_isLetter 0 0 (qI r T) 17 [some (.int p0)] (.int x3 :: []) S 0 := by
    obtain ⟨g4, h⟩ := gd_e h
    cases h
    exact r_zreturn dX12_isLetter_17 rfl (nar01 g4) (Nat.zero_le _) ⟨rfl, rfl⟩
  refine r_icmp_lt (tgt := 16) dX12_isLetter_3 (by decide) (fun c1 => ?_) (fun c1 => ?_)
  · refine r_iconst (v := 0) dX12_isLetter_16 rfl ?_
    exact r_tope (by rw [hx3, if_pos c1]) keyx3
  · refine r_iload_n (x := p0) dX12_isLetter_6 rfl ?_
    refine r_bipush (v := 122) dX12_isLetter_7 rfl ?_
    refine r_icmp_gt (tgt := 16) dX12_isLetter_9 (by decide) (fun c2 => ?_) (fun c2 => ?_)
    · refine r_iconst (v := 0) dX12_isLetter_16 rfl ?_
      exact r_tope (by rw [hx3, if_neg c1, if_pos c2]) keyx3
    · refine r_iconst (v := 1) dX12_isLetter_12 rfl ?_
      refine r_goto (tgt := 17) dX12_isLetter_13 (by decide) ?_
      exact r_tope (by rw [hx3, if_neg c1, if_neg c2]) keyx3
def fX12_isDigit (N : Nat) (p0 : Int32) (S : PS) : Option (Int32 × PS) :=
  lt ((if p0 < 48 then 0 else (if 57 < p0 then 0 else 1)) : Int32) fun x3 =>
  gd (b01 x3) <|
  some (x3, S)
set_option maxHeartbeats 4000000 in
set_option maxRecDepth 100000 in
theorem okX12_isDigit (N : Nat) (p0 : Int32) (S : PS) (r : Int32) (T : PS) (h : fX12_isDigit N p0 S = some (r, T)) : CT mX12_isDigit 0 0 [.int p0] S (qI r T) := by
  refine ct_of [some (.int p0)] rfl (fun _ => rfl) (fun _ => Nat.le_of_ble_eq_true rfl) ?_
  unfold fX12_isDigit at h
  refine r_iload_n (x := p0) dX12_isDigit_0 rfl ?_
  refine r_bipush (v := 48) dX12_isDigit_1 rfl ?_
  obtain ⟨x3, hx3⟩ : ∃ y : Int32, y = ((if p0 < 48 then 0 else (if 57 < p0 then 0 else 1)) : Int32) := ⟨_, rfl⟩
  replace h := lt_e hx3 h
  have keyx3 : WP [] mX12_isDigit 0 0 (qI r T) 17 [some (.int p0)] (.int x3 :: []) S 0 := by
    obtain ⟨g4, h⟩ := gd_e h
    cases h
    exact r_zreturn dX12_isDigit_17 rfl (nar01 g4) (Nat.zero_le _) ⟨rfl, rfl⟩
  refine r_icmp_lt (tgt := 16) dX12_isDigit_3 (by decide) (fun c1 => ?_) (fun c1 => ?_)
  · refine r_iconst (v := 0) dX12_isDigit_16 rfl ?_
    exact r_tope (by rw [hx3, if_pos c1]) keyx3
  · refine r_iload_n (x := p0) dX12_isDigit_6 rfl ?_
    refine r_bipush (v := 57) dX12_isDigit_7 rfl ?_
    refine r_icmp_gt (tgt := 16) dX12_isDigit_9 (by decide) (fun c2 => ?_) (fun c2 => ?_)
    · refine r_iconst (v := 0) dX12_isDigit_16 rfl ?_
      exact r_tope (by rw [hx3, if_neg c1, if_pos c2]) keyx3
    · refine r_iconst (v := 1) dX12_isDigit_12 rfl ?_
      refine r_goto (tgt := 17) dX12_isDigit_13 (by decide) ?_
      exact r_tope (by rw [hx3, if_neg c1, if_neg c2]) keyx3
def fX12_goes_0 (N : Nat)  : Nat → PS → Option (PS)
  | 0, _ => none
  | n + 1, S =>
    (if (S.1 80 11) ≤ (S.1 80 12) then
      some S
    else
      bI (fX12_byteAt N (S.1 80 12) S) fun x2 S3 =>
      (if x2 = 32 then
        lt ((u2 S3.1 80 12 ((S3.1 80 12) + 1), S3.2) : PS) fun S6 =>
        fX12_goes_0 N  n  S6
      else
        bI (fX12_byteAt N (S3.1 80 12) S3) fun x7 S8 =>
        (if x7 = 10 then
          lt ((u2 S8.1 80 12 ((S8.1 80 12) + 1), S8.2) : PS) fun S11 =>
          fX12_goes_0 N  n  S11
        else
          some S8)))
set_option maxHeartbeats 4000000 in
set_option maxRecDepth 100000 in
theorem okX12_goes_0 (N : Nat)  (Q : OQ) (u : Nat) (hu : u ≤ 0) : ∀ (n : Nat)  (S : PS)  (T : PS), fX12_goes_0 N  n  S = some T → WP [] mX12_goes 1 0 Q 50 [some (.ref 80), none] [] T u → WP [] mX12_goes 1 0 Q 0 [some (.ref 80), none] [] S u := by
  intro n
  induction n with
  | zero => intro S T h; rw [fX12_goes_0] at h; cases h
  | succ n ih =>
    intro S T h k0
    rw [fX12_goes_0] at h
    refine r_aload_n (x := 80) dX12_goes_0 rfl ?_
    refine r_getfield (o := 80) (v := .int (S.1 80 12)) dX12_goes_1 lX12_127 ck80 nC80 rfl ?_
    refine r_aload_n (x := 80) dX12_goes_4 rfl ?_
    refine r_getfield (o := 80) (v := .int (S.1 80 11)) dX12_goes_5 lX12_124 ck80 nC80 rfl ?_
    refine r_icmp_ge (tgt := 50) dX12_goes_8 (by decide) (fun c1 => ?_) (fun c1 => ?_)
    · rw [if_pos c1] at h
      cases h
      exact k0
    · rw [if_neg c1] at h
      refine r_aload_n (x := 80) dX12_goes_11 rfl ?_
      refine r_aload_n (x := 80) dX12_goes_12 rfl ?_
      refine r_getfield (o := 80) (v := .int (S.1 80 12)) dX12_goes_13 lX12_127 ck80 nC80 rfl ?_
      obtain ⟨x2, S3, h4, h⟩ := bI_e h
      refine r_cVI (y := mX12_byteAt) (As := [.int (S.1 80 12)]) (rest := []) dX12_goes_16 qX12_130 kX12_byteAt rfl ob80 vc12 rfl (okX12_byteAt N (S.1 80 12) S x2 S3 h4) (by decide) hu rfl (Nat.le_of_ble_eq_true rfl) ?_
      refine r_bipush (v := 32) dX12_goes_19 rfl ?_
      refine r_icmp_eq (tgt := 37) dX12_goes_21 (by decide) (fun c5 => ?_) (fun c5 => ?_)
      · rw [if_pos c5] at h
        refine r_aload_n (x := 80) dX12_goes_37 rfl ?_
        refine r_dup_ref dX12_goes_38 ?_
        refine r_getfield (o := 80) (v := .int (S3.1 80 12)) dX12_goes_39 lX12_127 ck80 nC80 rfl ?_
        refine r_iconst (v := 1) dX12_goes_42 rfl ?_
        refine r_iadd dX12_goes_43 ?_
        refine r_putI dX12_goes_44 lX12_127 ck80 nC80 ?_
        refine r_topS (fun S6 hS6 => ?_)
        replace h := lt_e hS6 h
        refine r_goto (tgt := 0) dX12_goes_47 (by decide) ?_
        exact ih _ _ h k0
      · rw [if_neg c5] at h
        refine r_aload_n (x := 80) dX12_goes_24 rfl ?_
        refine r_aload_n (x := 80) dX12_goes_25 rfl ?_
        refine r_getfield (o := 80) (v := .int (S3.1 80 12)) dX12_goes_26 lX12_127 ck80 nC80 rfl ?_
        obtain ⟨x7, S8, h9, h⟩ := bI_e h
        refine r_cVI (y := mX12_byteAt) (As := [.int (S3.1 80 12)]) (rest := []) dX12_goes_29 qX12_130 kX12_byteAt rfl ob80 vc12 rfl (okX12_byteAt N (S3.1 80 12) S3 x7 S8 h9) (by decide) hu rfl (Nat.le_of_ble_eq_true rfl) ?_
        refine r_bipush (v := 10) dX12_goes_32 rfl ?_
        refine r_icmp_ne (tgt := 50) dX12_goes_34 (by decide) (fun c10 => ?_) (fun c10 => ?_)
        · rw [if_neg c10] at h
          cases h
          exact k0
        · rw [if_pos c10] at h
          refine r_aload_n (x := 80) dX12_goes_37 rfl ?_
          refine r_dup_ref dX12_goes_38 ?_
          refine r_getfield (o := 80) (v := .int (S8.1 80 12)) dX12_goes_39 lX12_127 ck80 nC80 rfl ?_
          refine r_iconst (v := 1) dX12_goes_42 rfl ?_
          refine r_iadd dX12_goes_43 ?_
          refine r_putI dX12_goes_44 lX12_127 ck80 nC80 ?_
          refine r_topS (fun S11 hS11 => ?_)
          replace h := lt_e hS11 h
          refine r_goto (tgt := 0) dX12_goes_47 (by decide) ?_
          exact ih _ _ h k0
def fX12_goes_187 (N : Nat) (v1 : Int32) : Nat → PS → Option (PS)
  | 0, _ => none
  | n + 1, S =>
    bI (fX12_byteAt N (S.1 80 12) S) fun x45 S46 =>
    bI (fX12_isDigit N x45 S46) fun x48 S49 =>
    (if x48 = 0 then
      some S49
    else
      (if 4 ≤ ((S49.1 80 12) - (S49.1 80 14)) then
        lt ((u2 S49.1 80 12 ((S49.1 80 12) + 1), S49.2) : PS) fun S53 =>
        fX12_goes_187 N v1 n  S53
      else
        bI (fX12_byteAt N (S49.1 80 12) S49) fun x54 S55 =>
        lt ((u2 S55.1 80 16 (((10 * (S49.1 80 16)) + x54) - 48), S55.2) : PS) fun S57 =>
        lt ((u2 S57.1 80 12 ((S57.1 80 12) + 1), S57.2) : PS) fun S58 =>
        fX12_goes_187 N v1 n  S58))
set_option maxHeartbeats 4000000 in
set_option maxRecDepth 100000 in
theorem okX12_goes_187 (N : Nat) (v1 : Int32) (Q : OQ) (u : Nat) (hu : u ≤ 0) : ∀ (n : Nat)  (S : PS)  (T : PS), fX12_goes_187 N v1 n  S = some T → WP [] mX12_goes 1 0 Q 250 [some (.ref 80), some (.int v1)] [] T u → WP [] mX12_goes 1 0 Q 187 [some (.ref 80), some (.int v1)] [] S u := by
  intro n
  induction n with
  | zero => intro S T h; rw [fX12_goes_187] at h; cases h
  | succ n ih =>
    intro S T h k0
    rw [fX12_goes_187] at h
    refine r_aload_n (x := 80) dX12_goes_187 rfl ?_
    refine r_aload_n (x := 80) dX12_goes_188 rfl ?_
    refine r_getfield (o := 80) (v := .int (S.1 80 12)) dX12_goes_189 lX12_127 ck80 nC80 rfl ?_
    obtain ⟨x45, S46, h47, h⟩ := bI_e h
    refine r_cVI (y := mX12_byteAt) (As := [.int (S.1 80 12)]) (rest := []) dX12_goes_192 qX12_130 kX12_byteAt rfl ob80 vc12 rfl (okX12_byteAt N (S.1 80 12) S x45 S46 h47) (by decide) hu rfl (Nat.le_of_ble_eq_true rfl) ?_
    obtain ⟨x48, S49, h50, h⟩ := bI_e h
    refine r_cSI (y := mX12_isDigit) (As := [.int x45]) (rest := []) dX12_goes_195 qX12_154 kX12_isDigit rfl (okX12_isDigit N x45 S46 x48 S49 h50) (by decide) hu rfl (Nat.le_of_ble_eq_true rfl) ?_
    refine r_if_eq (tgt := 250) dX12_goes_198 (by decide) (fun c51 => ?_) (fun c51 => ?_)
    · rw [if_pos c51] at h
      cases h
      exact k0
    · rw [if_neg c51] at h
      refine r_aload_n (x := 80) dX12_goes_201 rfl ?_
      refine r_getfield (o := 80) (v := .int (S49.1 80 12)) dX12_goes_202 lX12_127 ck80 nC80 rfl ?_
      refine r_aload_n (x := 80) dX12_goes_205 rfl ?_
      refine r_getfield (o := 80) (v := .int (S49.1 80 14)) dX12_goes_206 lX12_134 ck80 nC80 rfl ?_
      refine r_isub dX12_goes_209 ?_
      refine r_iconst (v := 4) dX12_goes_210 rfl ?_
      refine r_icmp_ge (tgt := 237) dX12_goes_211 (by decide) (fun c52 => ?_) (fun c52 => ?_)
      · rw [if_pos c52] at h
        refine r_aload_n (x := 80) dX12_goes_237 rfl ?_
        refine r_dup_ref dX12_goes_238 ?_
        refine r_getfield (o := 80) (v := .int (S49.1 80 12)) dX12_goes_239 lX12_127 ck80 nC80 rfl ?_
        refine r_iconst (v := 1) dX12_goes_242 rfl ?_
        refine r_iadd dX12_goes_243 ?_
        refine r_putI dX12_goes_244 lX12_127 ck80 nC80 ?_
        refine r_topS (fun S53 hS53 => ?_)
        replace h := lt_e hS53 h
        refine r_goto (tgt := 187) dX12_goes_247 (by decide) ?_
        exact ih _ _ h k0
      · rw [if_neg c52] at h
        refine r_aload_n (x := 80) dX12_goes_214 rfl ?_
        refine r_bipush (v := 10) dX12_goes_215 rfl ?_
        refine r_aload_n (x := 80) dX12_goes_217 rfl ?_
        refine r_getfield (o := 80) (v := .int (S49.1 80 16)) dX12_goes_218 lX12_141 ck80 nC80 rfl ?_
        refine r_imul dX12_goes_221 ?_
        refine r_aload_n (x := 80) dX12_goes_222 rfl ?_
        refine r_aload_n (x := 80) dX12_goes_223 rfl ?_
        refine r_getfield (o := 80) (v := .int (S49.1 80 12)) dX12_goes_224 lX12_127 ck80 nC80 rfl ?_
        obtain ⟨x54, S55, h56, h⟩ := bI_e h
        refine r_cVI (y := mX12_byteAt) (As := [.int (S49.1 80 12)]) (rest := [.int (10 * (S49.1 80 16)), .ref 80]) dX12_goes_227 qX12_130 kX12_byteAt rfl ob80 vc12 rfl (okX12_byteAt N (S49.1 80 12) S49 x54 S55 h56) (by decide) hu rfl (Nat.le_of_ble_eq_true rfl) ?_
        refine r_iadd dX12_goes_230 ?_
        refine r_bipush (v := 48) dX12_goes_231 rfl ?_
        refine r_isub dX12_goes_233 ?_
        refine r_putI dX12_goes_234 lX12_141 ck80 nC80 ?_
        refine r_topS (fun S57 hS57 => ?_)
        replace h := lt_e hS57 h
        refine r_aload_n (x := 80) dX12_goes_237 rfl ?_
        refine r_dup_ref dX12_goes_238 ?_
        refine r_getfield (o := 80) (v := .int (S57.1 80 12)) dX12_goes_239 lX12_127 ck80 nC80 rfl ?_
        refine r_iconst (v := 1) dX12_goes_242 rfl ?_
        refine r_iadd dX12_goes_243 ?_
        refine r_putI dX12_goes_244 lX12_127 ck80 nC80 ?_
        refine r_topS (fun S58 hS58 => ?_)
        replace h := lt_e hS58 h
        refine r_goto (tgt := 187) dX12_goes_247 (by decide) ?_
        exact ih _ _ h k0
def fX12_goes_108 (N : Nat) (v1 : Int32) : Nat → PS → Option (PS)
  | 0, _ => none
  | n + 1, S =>
    bI (fX12_byteAt N (S.1 80 12) S) fun x65 S66 =>
    bI (fX12_isLetter N x65 S66) fun x68 S69 =>
    (if x68 = 0 then
      some S69
    else
      (if 6 ≤ ((S69.1 80 12) - (S69.1 80 14)) then
        lt ((u2 S69.1 80 12 ((S69.1 80 12) + 1), S69.2) : PS) fun S73 =>
        fX12_goes_108 N v1 n  S73
      else
        bI (fX12_byteAt N (S69.1 80 12) S69) fun x74 S75 =>
        lt ((S75.1, u2L S75.2.1 80 18 (((S69.2.1 80 18) <<< ((5 : Int32).toInt64 &&& 63)) ||| ((x74 - 96).toInt64)), S75.2.2) : PS) fun S77 =>
        lt ((u2 S77.1 80 12 ((S77.1 80 12) + 1), S77.2) : PS) fun S78 =>
        fX12_goes_108 N v1 n  S78))
set_option maxHeartbeats 4000000 in
set_option maxRecDepth 100000 in
theorem okX12_goes_108 (N : Nat) (v1 : Int32) (Q : OQ) (u : Nat) (hu : u ≤ 0) : ∀ (n : Nat)  (S : PS)  (T : PS), fX12_goes_108 N v1 n  S = some T → WP [] mX12_goes 1 0 Q 172 [some (.ref 80), some (.int v1)] [] T u → WP [] mX12_goes 1 0 Q 108 [some (.ref 80), some (.int v1)] [] S u := by
  intro n
  induction n with
  | zero => intro S T h; rw [fX12_goes_108] at h; cases h
  | succ n ih =>
    intro S T h k0
    rw [fX12_goes_108] at h
    refine r_aload_n (x := 80) dX12_goes_108 rfl ?_
    refine r_aload_n (x := 80) dX12_goes_109 rfl ?_
    refine r_getfield (o := 80) (v := .int (S.1 80 12)) dX12_goes_110 lX12_127 ck80 nC80 rfl ?_
    obtain ⟨x65, S66, h67, h⟩ := bI_e h
    refine r_cVI (y := mX12_byteAt) (As := [.int (S.1 80 12)]) (rest := []) dX12_goes_113 qX12_130 kX12_byteAt rfl ob80 vc12 rfl (okX12_byteAt N (S.1 80 12) S x65 S66 h67) (by decide) hu rfl (Nat.le_of_ble_eq_true rfl) ?_
    obtain ⟨x68, S69, h70, h⟩ := bI_e h
    refine r_cSI (y := mX12_isLetter) (As := [.int x65]) (rest := []) dX12_goes_116 qX12_150 kX12_isLetter rfl (okX12_isLetter N x65 S66 x68 S69 h70) (by decide) hu rfl (Nat.le_of_ble_eq_true rfl) ?_
    refine r_if_eq (tgt := 172) dX12_goes_119 (by decide) (fun c71 => ?_) (fun c71 => ?_)
    · rw [if_pos c71] at h
      cases h
      exact k0
    · rw [if_neg c71] at h
      refine r_aload_n (x := 80) dX12_goes_122 rfl ?_
      refine r_getfield (o := 80) (v := .int (S69.1 80 12)) dX12_goes_123 lX12_127 ck80 nC80 rfl ?_
      refine r_aload_n (x := 80) dX12_goes_126 rfl ?_
      refine r_getfield (o := 80) (v := .int (S69.1 80 14)) dX12_goes_127 lX12_134 ck80 nC80 rfl ?_
      refine r_isub dX12_goes_130 ?_
      refine r_bipush (v := 6) dX12_goes_131 rfl ?_
      refine r_icmp_ge (tgt := 159) dX12_goes_133 (by decide) (fun c72 => ?_) (fun c72 => ?_)
      · rw [if_pos c72] at h
        refine r_aload_n (x := 80) dX12_goes_159 rfl ?_
        refine r_dup_ref dX12_goes_160 ?_
        refine r_getfield (o := 80) (v := .int (S69.1 80 12)) dX12_goes_161 lX12_127 ck80 nC80 rfl ?_
        refine r_iconst (v := 1) dX12_goes_164 rfl ?_
        refine r_iadd dX12_goes_165 ?_
        refine r_putI dX12_goes_166 lX12_127 ck80 nC80 ?_
        refine r_topS (fun S73 hS73 => ?_)
        replace h := lt_e hS73 h
        refine r_goto (tgt := 108) dX12_goes_169 (by decide) ?_
        exact ih _ _ h k0
      · rw [if_neg c72] at h
        refine r_aload_n (x := 80) dX12_goes_136 rfl ?_
        refine r_aload_n (x := 80) dX12_goes_137 rfl ?_
        refine r_getfield (o := 80) (v := .long (S69.2.1 80 18)) dX12_goes_138 lX12_137 ck80 nC80 rfl ?_
        refine r_iconst (v := 5) dX12_goes_141 rfl ?_
        refine r_lshl dX12_goes_142 ?_
        refine r_aload_n (x := 80) dX12_goes_143 rfl ?_
        refine r_aload_n (x := 80) dX12_goes_144 rfl ?_
        refine r_getfield (o := 80) (v := .int (S69.1 80 12)) dX12_goes_145 lX12_127 ck80 nC80 rfl ?_
        obtain ⟨x74, S75, h76, h⟩ := bI_e h
        refine r_cVI (y := mX12_byteAt) (As := [.int (S69.1 80 12)]) (rest := [.long ((S69.2.1 80 18) <<< ((5 : Int32).toInt64 &&& 63)), .ref 80]) dX12_goes_148 qX12_130 kX12_byteAt rfl ob80 vc12 rfl (okX12_byteAt N (S69.1 80 12) S69 x74 S75 h76) (by decide) hu rfl (Nat.le_of_ble_eq_true rfl) ?_
        refine r_bipush (v := 96) dX12_goes_151 rfl ?_
        refine r_isub dX12_goes_153 ?_
        refine r_i2l dX12_goes_154 ?_
        refine r_lor dX12_goes_155 ?_
        refine r_putJ dX12_goes_156 lX12_137 ck80 nC80 ?_
        refine r_topS (fun S77 hS77 => ?_)
        replace h := lt_e hS77 h
        refine r_aload_n (x := 80) dX12_goes_159 rfl ?_
        refine r_dup_ref dX12_goes_160 ?_
        refine r_getfield (o := 80) (v := .int (S77.1 80 12)) dX12_goes_161 lX12_127 ck80 nC80 rfl ?_
        refine r_iconst (v := 1) dX12_goes_164 rfl ?_
        refine r_iadd dX12_goes_165 ?_
        refine r_putI dX12_goes_166 lX12_127 ck80 nC80 ?_
        refine r_topS (fun S78 hS78 => ?_)
        replace h := lt_e hS78 h
        refine r_goto (tgt := 108) dX12_goes_169 (by decide) ?_
        exact ih _ _ h k0
def fX12_goes (N : Nat)  (S : PS) : Option PS :=
  bT (fX12_goes_0 N  N  S) fun S13 =>
  lt ((u2 S13.1 80 14 (S13.1 80 12), S13.2) : PS) fun S16 =>
  lt ((S16.1, u2L S16.2.1 80 18 0, S16.2.2) : PS) fun S17 =>
  lt ((u2 S17.1 80 16 0, S17.2) : PS) fun S18 =>
  bI (fX12_byteAt N (S18.1 80 12) S18) fun x19 S20 =>
  lt ((u2 S20.1 80 17 x19, S20.2) : PS) fun S22 =>
  (if (S22.1 80 12) < (S22.1 80 11) then
    bI (fX12_isLetter N x19 S22) fun x24 S25 =>
    (if x24 = 0 then
      bI (fX12_isDigit N x19 S25) fun x28 S29 =>
      (if x28 = 0 then
        lt ((u2 S29.1 80 12 ((S29.1 80 12) + 1), S29.2) : PS) fun S32 =>
        lt ((if x19 = 59 then 3 else (if x19 = 40 then 3 else (if x19 = 41 then 3 else (if x19 = 43 then 3 else (if x19 = 45 then 3 else (if x19 = 42 then 3 else (if x19 = 47 then 3 else (if x19 = 60 then 3 else (if x19 = 61 then 3 else 4))))))))) : Int32) fun x42 =>
        lt ((u2 S32.1 80 13 x42, S32.2) : PS) fun S43 =>
        lt ((u2 S43.1 80 15 ((S43.1 80 12) - (S43.1 80 14)), S43.2) : PS) fun S44 =>
        some S44
      else
        bT (fX12_goes_187 N x19 N  S29) fun S60 =>
        lt ((u2 S60.1 80 13 2, S60.2) : PS) fun S63 =>
        lt ((u2 S63.1 80 15 ((S63.1 80 12) - (S63.1 80 14)), S63.2) : PS) fun S64 =>
        some S64)
    else
      bT (fX12_goes_108 N x19 N  S25) fun S80 =>
      lt ((u2 S80.1 80 13 1, S80.2) : PS) fun S83 =>
      lt ((u2 S83.1 80 15 ((S83.1 80 12) - (S83.1 80 14)), S83.2) : PS) fun S84 =>
      some S84)
  else
    lt ((u2 S22.1 80 13 0, S22.2) : PS) fun S85 =>
    lt ((u2 S85.1 80 15 ((S85.1 80 12) - (S85.1 80 14)), S85.2) : PS) fun S86 =>
    some S86)
set_option maxHeartbeats 4000000 in
set_option maxRecDepth 100000 in
theorem okX12_goes (N : Nat)  (S : PS) (T : PS) (h : fX12_goes N  S = some T) : CT mX12_goes 1 0 [.ref 80] S (qV T) := by
  refine ct_of [some (.ref 80), none] rfl (fun _ => rfl) (fun _ => Nat.le_of_ble_eq_true rfl) ?_
  unfold fX12_goes at h
  obtain ⟨S13, h15, h⟩ := bT_e h
  refine okX12_goes_0 N  (qV T) 0 (Nat.zero_le _) _ _ _ h15 ?_
  refine r_aload_n (x := 80) dX12_goes_50 rfl ?_
  refine r_aload_n (x := 80) dX12_goes_51 rfl ?_
  refine r_getfield (o := 80) (v := .int (S13.1 80 12)) dX12_goes_52 lX12_127 ck80 nC80 rfl ?_
  refine r_putI dX12_goes_55 lX12_134 ck80 nC80 ?_
  refine r_topS (fun S16 hS16 => ?_)
  replace h := lt_e hS16 h
  refine r_aload_n (x := 80) dX12_goes_58 rfl ?_
  refine r_lconst (v := 0) dX12_goes_59 rfl ?_
  refine r_putJ dX12_goes_60 lX12_137 ck80 nC80 ?_
  refine r_topS (fun S17 hS17 => ?_)
  replace h := lt_e hS17 h
  refine r_aload_n (x := 80) dX12_goes_63 rfl ?_
  refine r_iconst (v := 0) dX12_goes_64 rfl ?_
  refine r_putI dX12_goes_65 lX12_141 ck80 nC80 ?_
  refine r_topS (fun S18 hS18 => ?_)
  replace h := lt_e hS18 h
  refine r_aload_n (x := 80) dX12_goes_68 rfl ?_
  refine r_aload_n (x := 80) dX12_goes_69 rfl ?_
  refine r_getfield (o := 80) (v := .int (S18.1 80 12)) dX12_goes_70 lX12_127 ck80 nC80 rfl ?_
  obtain ⟨x19, S20, h21, h⟩ := bI_e h
  refine r_cVI (y := mX12_byteAt) (As := [.int (S18.1 80 12)]) (rest := []) dX12_goes_73 qX12_130 kX12_byteAt rfl ob80 vc12 rfl (okX12_byteAt N (S18.1 80 12) S18 x19 S20 h21) (by decide) (Nat.zero_le _) rfl (Nat.le_of_ble_eq_true rfl) ?_
  refine r_istore_n (L' := [some (.ref 80), some (.int x19)]) dX12_goes_76 (Nat.le_of_ble_eq_true rfl) rfl rfl ?_
  refine r_aload_n (x := 80) dX12_goes_77 rfl ?_
  refine r_iload_n (x := x19) dX12_goes_78 rfl ?_
  refine r_putI dX12_goes_79 lX12_144 ck80 nC80 ?_
  refine r_topS (fun S22 hS22 => ?_)
  replace h := lt_e hS22 h
  refine r_aload_n (x := 80) dX12_goes_82 rfl ?_
  refine r_getfield (o := 80) (v := .int (S22.1 80 12)) dX12_goes_83 lX12_127 ck80 nC80 rfl ?_
  refine r_aload_n (x := 80) dX12_goes_86 rfl ?_
  refine r_getfield (o := 80) (v := .int (S22.1 80 11)) dX12_goes_87 lX12_124 ck80 nC80 rfl ?_
  refine r_icmp_lt (tgt := 101) dX12_goes_90 (by decide) (fun c23 => ?_) (fun c23 => ?_)
  · rw [if_pos c23] at h
    refine r_iload_n (x := x19) dX12_goes_101 rfl ?_
    obtain ⟨x24, S25, h26, h⟩ := bI_e h
    refine r_cSI (y := mX12_isLetter) (As := [.int x19]) (rest := []) dX12_goes_102 qX12_150 kX12_isLetter rfl (okX12_isLetter N x19 S22 x24 S25 h26) (by decide) (Nat.zero_le _) rfl (Nat.le_of_ble_eq_true rfl) ?_
    refine r_if_eq (tgt := 180) dX12_goes_105 (by decide) (fun c27 => ?_) (fun c27 => ?_)
    · rw [if_pos c27] at h
      refine r_iload_n (x := x19) dX12_goes_180 rfl ?_
      obtain ⟨x28, S29, h30, h⟩ := bI_e h
      refine r_cSI (y := mX12_isDigit) (As := [.int x19]) (rest := []) dX12_goes_181 qX12_154 kX12_isDigit rfl (okX12_isDigit N x19 S25 x28 S29 h30) (by decide) (Nat.zero_le _) rfl (Nat.le_of_ble_eq_true rfl) ?_
      refine r_if_eq (tgt := 258) dX12_goes_184 (by decide) (fun c31 => ?_) (fun c31 => ?_)
      · rw [if_pos c31] at h
        refine r_aload_n (x := 80) dX12_goes_258 rfl ?_
        refine r_dup_ref dX12_goes_259 ?_
        refine r_getfield (o := 80) (v := .int (S29.1 80 12)) dX12_goes_260 lX12_127 ck80 nC80 rfl ?_
        refine r_iconst (v := 1) dX12_goes_263 rfl ?_
        refine r_iadd dX12_goes_264 ?_
        refine r_putI dX12_goes_265 lX12_127 ck80 nC80 ?_
        refine r_topS (fun S32 hS32 => ?_)
        replace h := lt_e hS32 h
        refine r_aload_n (x := 80) dX12_goes_268 rfl ?_
        refine r_iload_n (x := x19) dX12_goes_269 rfl ?_
        refine r_bipush (v := 59) dX12_goes_270 rfl ?_
        obtain ⟨x42, hx42⟩ : ∃ y : Int32, y = ((if x19 = 59 then 3 else (if x19 = 40 then 3 else (if x19 = 41 then 3 else (if x19 = 43 then 3 else (if x19 = 45 then 3 else (if x19 = 42 then 3 else (if x19 = 47 then 3 else (if x19 = 60 then 3 else (if x19 = 61 then 3 else 4))))))))) : Int32) := ⟨_, rfl⟩
        replace h := lt_e hx42 h
        have keyx42 : WP [] mX12_goes 1 0 (qV T) 328 [some (.ref 80), some (.int x19)] (.int x42 :: [.ref 80]) S32 0 := by
          refine r_putI dX12_goes_328 lX12_147 ck80 nC80 ?_
          refine r_topS (fun S43 hS43 => ?_)
          replace h := lt_e hS43 h
          refine r_aload_n (x := 80) dX12_goes_331 rfl ?_
          refine r_aload_n (x := 80) dX12_goes_332 rfl ?_
          refine r_getfield (o := 80) (v := .int (S43.1 80 12)) dX12_goes_333 lX12_127 ck80 nC80 rfl ?_
          refine r_aload_n (x := 80) dX12_goes_336 rfl ?_
          refine r_getfield (o := 80) (v := .int (S43.1 80 14)) dX12_goes_337 lX12_134 ck80 nC80 rfl ?_
          refine r_isub dX12_goes_340 ?_
          refine r_putI dX12_goes_341 lX12_157 ck80 nC80 ?_
          refine r_topS (fun S44 hS44 => ?_)
          replace h := lt_e hS44 h
          cases h
          exact r_return dX12_goes_344 rfl (Nat.zero_le _) ⟨rfl, rfl⟩
        refine r_icmp_eq (tgt := 323) dX12_goes_272 (by decide) (fun c33 => ?_) (fun c33 => ?_)
        · refine r_iconst (v := 3) dX12_goes_323 rfl ?_
          refine r_goto (tgt := 328) dX12_goes_324 (by decide) ?_
          exact r_tope (by rw [hx42, if_pos c33]) keyx42
        · refine r_iload_n (x := x19) dX12_goes_275 rfl ?_
          refine r_bipush (v := 40) dX12_goes_276 rfl ?_
          refine r_icmp_eq (tgt := 323) dX12_goes_278 (by decide) (fun c34 => ?_) (fun c34 => ?_)
          · refine r_iconst (v := 3) dX12_goes_323 rfl ?_
            refine r_goto (tgt := 328) dX12_goes_324 (by decide) ?_
            exact r_tope (by rw [hx42, if_neg c33, if_pos c34]) keyx42
          · refine r_iload_n (x := x19) dX12_goes_281 rfl ?_
            refine r_bipush (v := 41) dX12_goes_282 rfl ?_
            refine r_icmp_eq (tgt := 323) dX12_goes_284 (by decide) (fun c35 => ?_) (fun c35 => ?_)
            · refine r_iconst (v := 3) dX12_goes_323 rfl ?_
              refine r_goto (tgt := 328) dX12_goes_324 (by decide) ?_
              exact r_tope (by rw [hx42, if_neg c33, if_neg c34, if_pos c35]) keyx42
            · refine r_iload_n (x := x19) dX12_goes_287 rfl ?_
              refine r_bipush (v := 43) dX12_goes_288 rfl ?_
              refine r_icmp_eq (tgt := 323) dX12_goes_290 (by decide) (fun c36 => ?_) (fun c36 => ?_)
              · refine r_iconst (v := 3) dX12_goes_323 rfl ?_
                refine r_goto (tgt := 328) dX12_goes_324 (by decide) ?_
                exact r_tope (by rw [hx42, if_neg c33, if_neg c34, if_neg c35, if_pos c36]) keyx42
              · refine r_iload_n (x := x19) dX12_goes_293 rfl ?_
                refine r_bipush (v := 45) dX12_goes_294 rfl ?_
                refine r_icmp_eq (tgt := 323) dX12_goes_296 (by decide) (fun c37 => ?_) (fun c37 => ?_)
                · refine r_iconst (v := 3) dX12_goes_323 rfl ?_
                  refine r_goto (tgt := 328) dX12_goes_324 (by decide) ?_
                  exact r_tope (by rw [hx42, if_neg c33, if_neg c34, if_neg c35, if_neg c36, if_pos c37]) keyx42
                · refine r_iload_n (x := x19) dX12_goes_299 rfl ?_
                  refine r_bipush (v := 42) dX12_goes_300 rfl ?_
                  refine r_icmp_eq (tgt := 323) dX12_goes_302 (by decide) (fun c38 => ?_) (fun c38 => ?_)
                  · refine r_iconst (v := 3) dX12_goes_323 rfl ?_
                    refine r_goto (tgt := 328) dX12_goes_324 (by decide) ?_
                    exact r_tope (by rw [hx42, if_neg c33, if_neg c34, if_neg c35, if_neg c36, if_neg c37, if_pos c38]) keyx42
                  · refine r_iload_n (x := x19) dX12_goes_305 rfl ?_
                    refine r_bipush (v := 47) dX12_goes_306 rfl ?_
                    refine r_icmp_eq (tgt := 323) dX12_goes_308 (by decide) (fun c39 => ?_) (fun c39 => ?_)
                    · refine r_iconst (v := 3) dX12_goes_323 rfl ?_
                      refine r_goto (tgt := 328) dX12_goes_324 (by decide) ?_
                      exact r_tope (by rw [hx42, if_neg c33, if_neg c34, if_neg c35, if_neg c36, if_neg c37, if_neg c38, if_pos c39]) keyx42
                    · refine r_iload_n (x := x19) dX12_goes_311 rfl ?_
                      refine r_bipush (v := 60) dX12_goes_312 rfl ?_
                      refine r_icmp_eq (tgt := 323) dX12_goes_314 (by decide) (fun c40 => ?_) (fun c40 => ?_)
                      · refine r_iconst (v := 3) dX12_goes_323 rfl ?_
                        refine r_goto (tgt := 328) dX12_goes_324 (by decide) ?_
                        exact r_tope (by rw [hx42, if_neg c33, if_neg c34, if_neg c35, if_neg c36, if_neg c37, if_neg c38, if_neg c39, if_pos c40]) keyx42
                      · refine r_iload_n (x := x19) dX12_goes_317 rfl ?_
                        refine r_bipush (v := 61) dX12_goes_318 rfl ?_
                        refine r_icmp_ne (tgt := 327) dX12_goes_320 (by decide) (fun c41 => ?_) (fun c41 => ?_)
                        · refine r_iconst (v := 4) dX12_goes_327 rfl ?_
                          exact r_tope (by rw [hx42, if_neg c33, if_neg c34, if_neg c35, if_neg c36, if_neg c37, if_neg c38, if_neg c39, if_neg c40, if_neg c41]) keyx42
                        · refine r_iconst (v := 3) dX12_goes_323 rfl ?_
                          refine r_goto (tgt := 328) dX12_goes_324 (by decide) ?_
                          exact r_tope (by rw [hx42, if_neg c33, if_neg c34, if_neg c35, if_neg c36, if_neg c37, if_neg c38, if_neg c39, if_neg c40, if_pos c41]) keyx42
      · rw [if_neg c31] at h
        obtain ⟨S60, h62, h⟩ := bT_e h
        refine okX12_goes_187 N x19 (qV T) 0 (Nat.zero_le _) _ _ _ h62 ?_
        refine r_aload_n (x := 80) dX12_goes_250 rfl ?_
        refine r_iconst (v := 2) dX12_goes_251 rfl ?_
        refine r_putI dX12_goes_252 lX12_147 ck80 nC80 ?_
        refine r_topS (fun S63 hS63 => ?_)
        replace h := lt_e hS63 h
        refine r_goto (tgt := 331) dX12_goes_255 (by decide) ?_
        refine r_aload_n (x := 80) dX12_goes_331 rfl ?_
        refine r_aload_n (x := 80) dX12_goes_332 rfl ?_
        refine r_getfield (o := 80) (v := .int (S63.1 80 12)) dX12_goes_333 lX12_127 ck80 nC80 rfl ?_
        refine r_aload_n (x := 80) dX12_goes_336 rfl ?_
        refine r_getfield (o := 80) (v := .int (S63.1 80 14)) dX12_goes_337 lX12_134 ck80 nC80 rfl ?_
        refine r_isub dX12_goes_340 ?_
        refine r_putI dX12_goes_341 lX12_157 ck80 nC80 ?_
        refine r_topS (fun S64 hS64 => ?_)
        replace h := lt_e hS64 h
        cases h
        exact r_return dX12_goes_344 rfl (Nat.zero_le _) ⟨rfl, rfl⟩
    · rw [if_neg c27] at h
      obtain ⟨S80, h82, h⟩ := bT_e h
      refine okX12_goes_108 N x19 (qV T) 0 (Nat.zero_le _) _ _ _ h82 ?_
      refine r_aload_n (x := 80) dX12_goes_172 rfl ?_
      refine r_iconst (v := 1) dX12_goes_173 rfl ?_
      refine r_putI dX12_goes_174 lX12_147 ck80 nC80 ?_
      refine r_topS (fun S83 hS83 => ?_)
      replace h := lt_e hS83 h
      refine r_goto (tgt := 331) dX12_goes_177 (by decide) ?_
      refine r_aload_n (x := 80) dX12_goes_331 rfl ?_
      refine r_aload_n (x := 80) dX12_goes_332 rfl ?_
      refine r_getfield (o := 80) (v := .int (S83.1 80 12)) dX12_goes_333 lX12_127 ck80 nC80 rfl ?_
      refine r_aload_n (x := 80) dX12_goes_336 rfl ?_
      refine r_getfield (o := 80) (v := .int (S83.1 80 14)) dX12_goes_337 lX12_134 ck80 nC80 rfl ?_
      refine r_isub dX12_goes_340 ?_
      refine r_putI dX12_goes_341 lX12_157 ck80 nC80 ?_
      refine r_topS (fun S84 hS84 => ?_)
      replace h := lt_e hS84 h
      cases h
      exact r_return dX12_goes_344 rfl (Nat.zero_le _) ⟨rfl, rfl⟩
  · rw [if_neg c23] at h
    refine r_aload_n (x := 80) dX12_goes_93 rfl ?_
    refine r_iconst (v := 0) dX12_goes_94 rfl ?_
    refine r_putI dX12_goes_95 lX12_147 ck80 nC80 ?_
    refine r_topS (fun S85 hS85 => ?_)
    replace h := lt_e hS85 h
    refine r_goto (tgt := 331) dX12_goes_98 (by decide) ?_
    refine r_aload_n (x := 80) dX12_goes_331 rfl ?_
    refine r_aload_n (x := 80) dX12_goes_332 rfl ?_
    refine r_getfield (o := 80) (v := .int (S85.1 80 12)) dX12_goes_333 lX12_127 ck80 nC80 rfl ?_
    refine r_aload_n (x := 80) dX12_goes_336 rfl ?_
    refine r_getfield (o := 80) (v := .int (S85.1 80 14)) dX12_goes_337 lX12_134 ck80 nC80 rfl ?_
    refine r_isub dX12_goes_340 ?_
    refine r_putI dX12_goes_341 lX12_157 ck80 nC80 ?_
    refine r_topS (fun S86 hS86 => ?_)
    replace h := lt_e hS86 h
    cases h
    exact r_return dX12_goes_344 rfl (Nat.zero_le _) ⟨rfl, rfl⟩
def fX12_spelled (N : Nat) (p0 : Int32) (p1 : Int32) (p2 : Int32) (p3 : Int32) (p4 : Int32) (p5 : Int32) (S : PS) : Option (Int64 × PS) :=
  lt ((((p0.toInt64 - 96) <<< ((5 : Int32).toInt64 &&& 63)) ||| ((p1 - 96).toInt64)) : Int64) fun x1 =>
  (if p2 = 0 then
    (if p3 = 0 then
      (if p4 = 0 then
        (if p5 = 0 then
          some (x1, S)
        else
          lt (((x1 <<< ((5 : Int32).toInt64 &&& 63)) ||| ((p5 - 96).toInt64)) : Int64) fun x6 =>
          some (x6, S))
      else
        lt (((x1 <<< ((5 : Int32).toInt64 &&& 63)) ||| ((p4 - 96).toInt64)) : Int64) fun x7 =>
        (if p5 = 0 then
          some (x7, S)
        else
          lt (((x7 <<< ((5 : Int32).toInt64 &&& 63)) ||| ((p5 - 96).toInt64)) : Int64) fun x9 =>
          some (x9, S)))
    else
      lt (((x1 <<< ((5 : Int32).toInt64 &&& 63)) ||| ((p3 - 96).toInt64)) : Int64) fun x10 =>
      (if p4 = 0 then
        (if p5 = 0 then
          some (x10, S)
        else
          lt (((x10 <<< ((5 : Int32).toInt64 &&& 63)) ||| ((p5 - 96).toInt64)) : Int64) fun x13 =>
          some (x13, S))
      else
        lt (((x10 <<< ((5 : Int32).toInt64 &&& 63)) ||| ((p4 - 96).toInt64)) : Int64) fun x14 =>
        (if p5 = 0 then
          some (x14, S)
        else
          lt (((x14 <<< ((5 : Int32).toInt64 &&& 63)) ||| ((p5 - 96).toInt64)) : Int64) fun x16 =>
          some (x16, S))))
  else
    lt (((x1 <<< ((5 : Int32).toInt64 &&& 63)) ||| ((p2 - 96).toInt64)) : Int64) fun x17 =>
    (if p3 = 0 then
      (if p4 = 0 then
        (if p5 = 0 then
          some (x17, S)
        else
          lt (((x17 <<< ((5 : Int32).toInt64 &&& 63)) ||| ((p5 - 96).toInt64)) : Int64) fun x21 =>
          some (x21, S))
      else
        lt (((x17 <<< ((5 : Int32).toInt64 &&& 63)) ||| ((p4 - 96).toInt64)) : Int64) fun x22 =>
        (if p5 = 0 then
          some (x22, S)
        else
          lt (((x22 <<< ((5 : Int32).toInt64 &&& 63)) ||| ((p5 - 96).toInt64)) : Int64) fun x24 =>
          some (x24, S)))
    else
      lt (((x17 <<< ((5 : Int32).toInt64 &&& 63)) ||| ((p3 - 96).toInt64)) : Int64) fun x25 =>
      (if p4 = 0 then
        (if p5 = 0 then
          some (x25, S)
        else
          lt (((x25 <<< ((5 : Int32).toInt64 &&& 63)) ||| ((p5 - 96).toInt64)) : Int64) fun x28 =>
          some (x28, S))
      else
        lt (((x25 <<< ((5 : Int32).toInt64 &&& 63)) ||| ((p4 - 96).toInt64)) : Int64) fun x29 =>
        (if p5 = 0 then
          some (x29, S)
        else
          lt (((x29 <<< ((5 : Int32).toInt64 &&& 63)) ||| ((p5 - 96).toInt64)) : Int64) fun x31 =>
          some (x31, S)))))
set_option maxHeartbeats 4000000 in
set_option maxRecDepth 100000 in
theorem okX12_spelled (N : Nat) (p0 : Int32) (p1 : Int32) (p2 : Int32) (p3 : Int32) (p4 : Int32) (p5 : Int32) (S : PS) (r : Int64) (T : PS) (h : fX12_spelled N p0 p1 p2 p3 p4 p5 S = some (r, T)) : CT mX12_spelled 0 0 [.int p0, .int p1, .int p2, .int p3, .int p4, .int p5] S (qJ r T) := by
  refine ct_of [some (.int p0), some (.int p1), some (.int p2), some (.int p3), some (.int p4), some (.int p5), none, none] rfl (fun _ => rfl) (fun _ => Nat.le_of_ble_eq_true rfl) ?_
  unfold fX12_spelled at h
  refine r_iload_n (x := p0) dX12_spelled_0 rfl ?_
  refine r_i2l dX12_spelled_1 ?_
  refine r_ldc2 (v := 96) dX12_spelled_2 kX12_160 ?_
  refine r_lsub dX12_spelled_5 ?_
  refine r_iconst (v := 5) dX12_spelled_6 rfl ?_
  refine r_lshl dX12_spelled_7 ?_
  refine r_iload_n (x := p1) dX12_spelled_8 rfl ?_
  refine r_bipush (v := 96) dX12_spelled_9 rfl ?_
  refine r_isub dX12_spelled_11 ?_
  refine r_i2l dX12_spelled_12 ?_
  refine r_lor dX12_spelled_13 ?_
  refine r_topl (fun x1 hx1 => ?_)
  replace h := lt_e hx1 h
  refine r_lstore (L' := [some (.int p0), some (.int p1), some (.int p2), some (.int p3), some (.int p4), some (.int p5), some (.long x1), none]) dX12_spelled_14 (Nat.le_of_ble_eq_true rfl) rfl rfl ?_
  refine r_iload_n (x := p2) dX12_spelled_16 rfl ?_
  refine r_if_eq (tgt := 32) dX12_spelled_17 (by decide) (fun c2 => ?_) (fun c2 => ?_)
  · rw [if_pos c2] at h
    refine r_iload_n (x := p3) dX12_spelled_32 rfl ?_
    refine r_if_eq (tgt := 48) dX12_spelled_33 (by decide) (fun c3 => ?_) (fun c3 => ?_)
    · rw [if_pos c3] at h
      refine r_iload (x := p4) dX12_spelled_48 rfl ?_
      refine r_if_eq (tgt := 66) dX12_spelled_50 (by decide) (fun c4 => ?_) (fun c4 => ?_)
      · rw [if_pos c4] at h
        refine r_iload (x := p5) dX12_spelled_66 rfl ?_
        refine r_if_eq (tgt := 84) dX12_spelled_68 (by decide) (fun c5 => ?_) (fun c5 => ?_)
        · rw [if_pos c5] at h
          refine r_lload (x := x1) dX12_spelled_84 rfl ?_
          cases h
          exact r_lreturn dX12_spelled_86 rfl (Nat.zero_le _) ⟨rfl, rfl⟩
        · rw [if_neg c5] at h
          refine r_lload (x := x1) dX12_spelled_71 rfl ?_
          refine r_iconst (v := 5) dX12_spelled_73 rfl ?_
          refine r_lshl dX12_spelled_74 ?_
          refine r_iload (x := p5) dX12_spelled_75 rfl ?_
          refine r_bipush (v := 96) dX12_spelled_77 rfl ?_
          refine r_isub dX12_spelled_79 ?_
          refine r_i2l dX12_spelled_80 ?_
          refine r_lor dX12_spelled_81 ?_
          refine r_topl (fun x6 hx6 => ?_)
          replace h := lt_e hx6 h
          refine r_lstore (L' := [some (.int p0), some (.int p1), some (.int p2), some (.int p3), some (.int p4), some (.int p5), some (.long x6), none]) dX12_spelled_82 (Nat.le_of_ble_eq_true rfl) rfl rfl ?_
          refine r_lload (x := x6) dX12_spelled_84 rfl ?_
          cases h
          exact r_lreturn dX12_spelled_86 rfl (Nat.zero_le _) ⟨rfl, rfl⟩
      · rw [if_neg c4] at h
        refine r_lload (x := x1) dX12_spelled_53 rfl ?_
        refine r_iconst (v := 5) dX12_spelled_55 rfl ?_
        refine r_lshl dX12_spelled_56 ?_
        refine r_iload (x := p4) dX12_spelled_57 rfl ?_
        refine r_bipush (v := 96) dX12_spelled_59 rfl ?_
        refine r_isub dX12_spelled_61 ?_
        refine r_i2l dX12_spelled_62 ?_
        refine r_lor dX12_spelled_63 ?_
        refine r_topl (fun x7 hx7 => ?_)
        replace h := lt_e hx7 h
        refine r_lstore (L' := [some (.int p0), some (.int p1), some (.int p2), some (.int p3), some (.int p4), some (.int p5), some (.long x7), none]) dX12_spelled_64 (Nat.le_of_ble_eq_true rfl) rfl rfl ?_
        refine r_iload (x := p5) dX12_spelled_66 rfl ?_
        refine r_if_eq (tgt := 84) dX12_spelled_68 (by decide) (fun c8 => ?_) (fun c8 => ?_)
        · rw [if_pos c8] at h
          refine r_lload (x := x7) dX12_spelled_84 rfl ?_
          cases h
          exact r_lreturn dX12_spelled_86 rfl (Nat.zero_le _) ⟨rfl, rfl⟩
        · rw [if_neg c8] at h
          refine r_lload (x := x7) dX12_spelled_71 rfl ?_
          refine r_iconst (v := 5) dX12_spelled_73 rfl ?_
          refine r_lshl dX12_spelled_74 ?_
          refine r_iload (x := p5) dX12_spelled_75 rfl ?_
          refine r_bipush (v := 96) dX12_spelled_77 rfl ?_
          refine r_isub dX12_spelled_79 ?_
          refine r_i2l dX12_spelled_80 ?_
          refine r_lor dX12_spelled_81 ?_
          refine r_topl (fun x9 hx9 => ?_)
          replace h := lt_e hx9 h
          refine r_lstore (L' := [some (.int p0), some (.int p1), some (.int p2), some (.int p3), some (.int p4), some (.int p5), some (.long x9), none]) dX12_spelled_82 (Nat.le_of_ble_eq_true rfl) rfl rfl ?_
          refine r_lload (x := x9) dX12_spelled_84 rfl ?_
          cases h
          exact r_lreturn dX12_spelled_86 rfl (Nat.zero_le _) ⟨rfl, rfl⟩
    · rw [if_neg c3] at h
      refine r_lload (x := x1) dX12_spelled_36 rfl ?_
      refine r_iconst (v := 5) dX12_spelled_38 rfl ?_
      refine r_lshl dX12_spelled_39 ?_
      refine r_iload_n (x := p3) dX12_spelled_40 rfl ?_
      refine r_bipush (v := 96) dX12_spelled_41 rfl ?_
      refine r_isub dX12_spelled_43 ?_
      refine r_i2l dX12_spelled_44 ?_
      refine r_lor dX12_spelled_45 ?_
      refine r_topl (fun x10 hx10 => ?_)
      replace h := lt_e hx10 h
      refine r_lstore (L' := [some (.int p0), some (.int p1), some (.int p2), some (.int p3), some (.int p4), some (.int p5), some (.long x10), none]) dX12_spelled_46 (Nat.le_of_ble_eq_true rfl) rfl rfl ?_
      refine r_iload (x := p4) dX12_spelled_48 rfl ?_
      refine r_if_eq (tgt := 66) dX12_spelled_50 (by decide) (fun c11 => ?_) (fun c11 => ?_)
      · rw [if_pos c11] at h
        refine r_iload (x := p5) dX12_spelled_66 rfl ?_
        refine r_if_eq (tgt := 84) dX12_spelled_68 (by decide) (fun c12 => ?_) (fun c12 => ?_)
        · rw [if_pos c12] at h
          refine r_lload (x := x10) dX12_spelled_84 rfl ?_
          cases h
          exact r_lreturn dX12_spelled_86 rfl (Nat.zero_le _) ⟨rfl, rfl⟩
        · rw [if_neg c12] at h
          refine r_lload (x := x10) dX12_spelled_71 rfl ?_
          refine r_iconst (v := 5) dX12_spelled_73 rfl ?_
          refine r_lshl dX12_spelled_74 ?_
          refine r_iload (x := p5) dX12_spelled_75 rfl ?_
          refine r_bipush (v := 96) dX12_spelled_77 rfl ?_
          refine r_isub dX12_spelled_79 ?_
          refine r_i2l dX12_spelled_80 ?_
          refine r_lor dX12_spelled_81 ?_
          refine r_topl (fun x13 hx13 => ?_)
          replace h := lt_e hx13 h
          refine r_lstore (L' := [some (.int p0), some (.int p1), some (.int p2), some (.int p3), some (.int p4), some (.int p5), some (.long x13), none]) dX12_spelled_82 (Nat.le_of_ble_eq_true rfl) rfl rfl ?_
          refine r_lload (x := x13) dX12_spelled_84 rfl ?_
          cases h
          exact r_lreturn dX12_spelled_86 rfl (Nat.zero_le _) ⟨rfl, rfl⟩
      · rw [if_neg c11] at h
        refine r_lload (x := x10) dX12_spelled_53 rfl ?_
        refine r_iconst (v := 5) dX12_spelled_55 rfl ?_
        refine r_lshl dX12_spelled_56 ?_
        refine r_iload (x := p4) dX12_spelled_57 rfl ?_
        refine r_bipush (v := 96) dX12_spelled_59 rfl ?_
        refine r_isub dX12_spelled_61 ?_
        refine r_i2l dX12_spelled_62 ?_
        refine r_lor dX12_spelled_63 ?_
        refine r_topl (fun x14 hx14 => ?_)
        replace h := lt_e hx14 h
        refine r_lstore (L' := [some (.int p0), some (.int p1), some (.int p2), some (.int p3), some (.int p4), some (.int p5), some (.long x14), none]) dX12_spelled_64 (Nat.le_of_ble_eq_true rfl) rfl rfl ?_
        refine r_iload (x := p5) dX12_spelled_66 rfl ?_
        refine r_if_eq (tgt := 84) dX12_spelled_68 (by decide) (fun c15 => ?_) (fun c15 => ?_)
        · rw [if_pos c15] at h
          refine r_lload (x := x14) dX12_spelled_84 rfl ?_
          cases h
          exact r_lreturn dX12_spelled_86 rfl (Nat.zero_le _) ⟨rfl, rfl⟩
        · rw [if_neg c15] at h
          refine r_lload (x := x14) dX12_spelled_71 rfl ?_
          refine r_iconst (v := 5) dX12_spelled_73 rfl ?_
          refine r_lshl dX12_spelled_74 ?_
          refine r_iload (x := p5) dX12_spelled_75 rfl ?_
          refine r_bipush (v := 96) dX12_spelled_77 rfl ?_
          refine r_isub dX12_spelled_79 ?_
          refine r_i2l dX12_spelled_80 ?_
          refine r_lor dX12_spelled_81 ?_
          refine r_topl (fun x16 hx16 => ?_)
          replace h := lt_e hx16 h
          refine r_lstore (L' := [some (.int p0), some (.int p1), some (.int p2), some (.int p3), some (.int p4), some (.int p5), some (.long x16), none]) dX12_spelled_82 (Nat.le_of_ble_eq_true rfl) rfl rfl ?_
          refine r_lload (x := x16) dX12_spelled_84 rfl ?_
          cases h
          exact r_lreturn dX12_spelled_86 rfl (Nat.zero_le _) ⟨rfl, rfl⟩
  · rw [if_neg c2] at h
    refine r_lload (x := x1) dX12_spelled_20 rfl ?_
    refine r_iconst (v := 5) dX12_spelled_22 rfl ?_
    refine r_lshl dX12_spelled_23 ?_
    refine r_iload_n (x := p2) dX12_spelled_24 rfl ?_
    refine r_bipush (v := 96) dX12_spelled_25 rfl ?_
    refine r_isub dX12_spelled_27 ?_
    refine r_i2l dX12_spelled_28 ?_
    refine r_lor dX12_spelled_29 ?_
    refine r_topl (fun x17 hx17 => ?_)
    replace h := lt_e hx17 h
    refine r_lstore (L' := [some (.int p0), some (.int p1), some (.int p2), some (.int p3), some (.int p4), some (.int p5), some (.long x17), none]) dX12_spelled_30 (Nat.le_of_ble_eq_true rfl) rfl rfl ?_
    refine r_iload_n (x := p3) dX12_spelled_32 rfl ?_
    refine r_if_eq (tgt := 48) dX12_spelled_33 (by decide) (fun c18 => ?_) (fun c18 => ?_)
    · rw [if_pos c18] at h
      refine r_iload (x := p4) dX12_spelled_48 rfl ?_
      refine r_if_eq (tgt := 66) dX12_spelled_50 (by decide) (fun c19 => ?_) (fun c19 => ?_)
      · rw [if_pos c19] at h
        refine r_iload (x := p5) dX12_spelled_66 rfl ?_
        refine r_if_eq (tgt := 84) dX12_spelled_68 (by decide) (fun c20 => ?_) (fun c20 => ?_)
        · rw [if_pos c20] at h
          refine r_lload (x := x17) dX12_spelled_84 rfl ?_
          cases h
          exact r_lreturn dX12_spelled_86 rfl (Nat.zero_le _) ⟨rfl, rfl⟩
        · rw [if_neg c20] at h
          refine r_lload (x := x17) dX12_spelled_71 rfl ?_
          refine r_iconst (v := 5) dX12_spelled_73 rfl ?_
          refine r_lshl dX12_spelled_74 ?_
          refine r_iload (x := p5) dX12_spelled_75 rfl ?_
          refine r_bipush (v := 96) dX12_spelled_77 rfl ?_
          refine r_isub dX12_spelled_79 ?_
          refine r_i2l dX12_spelled_80 ?_
          refine r_lor dX12_spelled_81 ?_
          refine r_topl (fun x21 hx21 => ?_)
          replace h := lt_e hx21 h
          refine r_lstore (L' := [some (.int p0), some (.int p1), some (.int p2), some (.int p3), some (.int p4), some (.int p5), some (.long x21), none]) dX12_spelled_82 (Nat.le_of_ble_eq_true rfl) rfl rfl ?_
          refine r_lload (x := x21) dX12_spelled_84 rfl ?_
          cases h
          exact r_lreturn dX12_spelled_86 rfl (Nat.zero_le _) ⟨rfl, rfl⟩
      · rw [if_neg c19] at h
        refine r_lload (x := x17) dX12_spelled_53 rfl ?_
        refine r_iconst (v := 5) dX12_spelled_55 rfl ?_
        refine r_lshl dX12_spelled_56 ?_
        refine r_iload (x := p4) dX12_spelled_57 rfl ?_
        refine r_bipush (v := 96) dX12_spelled_59 rfl ?_
        refine r_isub dX12_spelled_61 ?_
        refine r_i2l dX12_spelled_62 ?_
        refine r_lor dX12_spelled_63 ?_
        refine r_topl (fun x22 hx22 => ?_)
        replace h := lt_e hx22 h
        refine r_lstore (L' := [some (.int p0), some (.int p1), some (.int p2), some (.int p3), some (.int p4), some (.int p5), some (.long x22), none]) dX12_spelled_64 (Nat.le_of_ble_eq_true rfl) rfl rfl ?_
        refine r_iload (x := p5) dX12_spelled_66 rfl ?_
        refine r_if_eq (tgt := 84) dX12_spelled_68 (by decide) (fun c23 => ?_) (fun c23 => ?_)
        · rw [if_pos c23] at h
          refine r_lload (x := x22) dX12_spelled_84 rfl ?_
          cases h
          exact r_lreturn dX12_spelled_86 rfl (Nat.zero_le _) ⟨rfl, rfl⟩
        · rw [if_neg c23] at h
          refine r_lload (x := x22) dX12_spelled_71 rfl ?_
          refine r_iconst (v := 5) dX12_spelled_73 rfl ?_
          refine r_lshl dX12_spelled_74 ?_
          refine r_iload (x := p5) dX12_spelled_75 rfl ?_
          refine r_bipush (v := 96) dX12_spelled_77 rfl ?_
          refine r_isub dX12_spelled_79 ?_
          refine r_i2l dX12_spelled_80 ?_
          refine r_lor dX12_spelled_81 ?_
          refine r_topl (fun x24 hx24 => ?_)
          replace h := lt_e hx24 h
          refine r_lstore (L' := [some (.int p0), some (.int p1), some (.int p2), some (.int p3), some (.int p4), some (.int p5), some (.long x24), none]) dX12_spelled_82 (Nat.le_of_ble_eq_true rfl) rfl rfl ?_
          refine r_lload (x := x24) dX12_spelled_84 rfl ?_
          cases h
          exact r_lreturn dX12_spelled_86 rfl (Nat.zero_le _) ⟨rfl, rfl⟩
    · rw [if_neg c18] at h
      refine r_lload (x := x17) dX12_spelled_36 rfl ?_
      refine r_iconst (v := 5) dX12_spelled_38 rfl ?_
      refine r_lshl dX12_spelled_39 ?_
      refine r_iload_n (x := p3) dX12_spelled_40 rfl ?_
      refine r_bipush (v := 96) dX12_spelled_41 rfl ?_
      refine r_isub dX12_spelled_43 ?_
      refine r_i2l dX12_spelled_44 ?_
      refine r_lor dX12_spelled_45 ?_
      refine r_topl (fun x25 hx25 => ?_)
      replace h := lt_e hx25 h
      refine r_lstore (L' := [some (.int p0), some (.int p1), some (.int p2), some (.int p3), some (.int p4), some (.int p5), some (.long x25), none]) dX12_spelled_46 (Nat.le_of_ble_eq_true rfl) rfl rfl ?_
      refine r_iload (x := p4) dX12_spelled_48 rfl ?_
      refine r_if_eq (tgt := 66) dX12_spelled_50 (by decide) (fun c26 => ?_) (fun c26 => ?_)
      · rw [if_pos c26] at h
        refine r_iload (x := p5) dX12_spelled_66 rfl ?_
        refine r_if_eq (tgt := 84) dX12_spelled_68 (by decide) (fun c27 => ?_) (fun c27 => ?_)
        · rw [if_pos c27] at h
          refine r_lload (x := x25) dX12_spelled_84 rfl ?_
          cases h
          exact r_lreturn dX12_spelled_86 rfl (Nat.zero_le _) ⟨rfl, rfl⟩
        · rw [if_neg c27] at h
          refine r_lload (x := x25) dX12_spelled_71 rfl ?_
          refine r_iconst (v := 5) dX12_spelled_73 rfl ?_
          refine r_lshl dX12_spelled_74 ?_
          refine r_iload (x := p5) dX12_spelled_75 rfl ?_
          refine r_bipush (v := 96) dX12_spelled_77 rfl ?_
          refine r_isub dX12_spelled_79 ?_
          refine r_i2l dX12_spelled_80 ?_
          refine r_lor dX12_spelled_81 ?_
          refine r_topl (fun x28 hx28 => ?_)
          replace h := lt_e hx28 h
          refine r_lstore (L' := [some (.int p0), some (.int p1), some (.int p2), some (.int p3), some (.int p4), some (.int p5), some (.long x28), none]) dX12_spelled_82 (Nat.le_of_ble_eq_true rfl) rfl rfl ?_
          refine r_lload (x := x28) dX12_spelled_84 rfl ?_
          cases h
          exact r_lreturn dX12_spelled_86 rfl (Nat.zero_le _) ⟨rfl, rfl⟩
      · rw [if_neg c26] at h
        refine r_lload (x := x25) dX12_spelled_53 rfl ?_
        refine r_iconst (v := 5) dX12_spelled_55 rfl ?_
        refine r_lshl dX12_spelled_56 ?_
        refine r_iload (x := p4) dX12_spelled_57 rfl ?_
        refine r_bipush (v := 96) dX12_spelled_59 rfl ?_
        refine r_isub dX12_spelled_61 ?_
        refine r_i2l dX12_spelled_62 ?_
        refine r_lor dX12_spelled_63 ?_
        refine r_topl (fun x29 hx29 => ?_)
        replace h := lt_e hx29 h
        refine r_lstore (L' := [some (.int p0), some (.int p1), some (.int p2), some (.int p3), some (.int p4), some (.int p5), some (.long x29), none]) dX12_spelled_64 (Nat.le_of_ble_eq_true rfl) rfl rfl ?_
        refine r_iload (x := p5) dX12_spelled_66 rfl ?_
        refine r_if_eq (tgt := 84) dX12_spelled_68 (by decide) (fun c30 => ?_) (fun c30 => ?_)
        · rw [if_pos c30] at h
          refine r_lload (x := x29) dX12_spelled_84 rfl ?_
          cases h
          exact r_lreturn dX12_spelled_86 rfl (Nat.zero_le _) ⟨rfl, rfl⟩
        · rw [if_neg c30] at h
          refine r_lload (x := x29) dX12_spelled_71 rfl ?_
          refine r_iconst (v := 5) dX12_spelled_73 rfl ?_
          refine r_lshl dX12_spelled_74 ?_
          refine r_iload (x := p5) dX12_spelled_75 rfl ?_
          refine r_bipush (v := 96) dX12_spelled_77 rfl ?_
          refine r_isub dX12_spelled_79 ?_
          refine r_i2l dX12_spelled_80 ?_
          refine r_lor dX12_spelled_81 ?_
          refine r_topl (fun x31 hx31 => ?_)
          replace h := lt_e hx31 h
          refine r_lstore (L' := [some (.int p0), some (.int p1), some (.int p2), some (.int p3), some (.int p4), some (.int p5), some (.long x31), none]) dX12_spelled_82 (Nat.le_of_ble_eq_true rfl) rfl rfl ?_
          refine r_lload (x := x31) dX12_spelled_84 rfl ?_
          cases h
          exact r_lreturn dX12_spelled_86 rfl (Nat.zero_le _) ⟨rfl, rfl⟩
def fX12_letters (N : Nat) (p0 : Int32) (S : PS) : Option (Int64 × PS) :=
  (if p0 = 0 then
    bJ (fX12_spelled N 102 105 108 108 0 0 S) fun x2 S3 =>
    some (x2, S3)
  else if p0 = 1 then
    bJ (fX12_spelled N 104 111 108 100 115 0 S) fun x6 S7 =>
    some (x6, S7)
  else if p0 = 2 then
    bJ (fX12_spelled N 115 112 114 105 110 103 S) fun x10 S11 =>
    some (x10, S11)
  else if p0 = 3 then
    bJ (fX12_spelled N 116 105 112 115 0 0 S) fun x14 S15 =>
    some (x14, S15)
  else if p0 = 4 then
    bJ (fX12_spelled N 104 111 117 114 0 0 S) fun x18 S19 =>
    some (x18, S19)
  else if p0 = 5 then
    bJ (fX12_spelled N 99 117 112 0 0 0 S) fun x22 S23 =>
    some (x22, S23)
  else if p0 = 6 then
    bJ (fX12_spelled N 112 105 112 101 0 0 S) fun x26 S27 =>
    some (x26, S27)
  else if p0 = 7 then
    bJ (fX12_spelled N 108 101 97 107 115 0 S) fun x30 S31 =>
    some (x30, S31)
  else if p0 = 8 then
    bJ (fX12_spelled N 102 114 111 115 116 0 S) fun x34 S35 =>
    some (x34, S35)
  else if p0 = 9 then
    bJ (fX12_spelled N 97 110 100 0 0 0 S) fun x38 S39 =>
    some (x38, S39)
  else if p0 = 10 then
    bJ (fX12_spelled N 111 114 0 0 0 0 S) fun x42 S43 =>
    some (x42, S43)
  else 
    bJ (fX12_spelled N 110 111 116 0 0 0 S) fun x45 S46 =>
    some (x45, S46))
set_option maxHeartbeats 4000000 in
set_option maxRecDepth 100000 in
theorem okX12_letters (N : Nat) (p0 : Int32) (S : PS) (r : Int64) (T : PS) (h : fX12_letters N p0 S = some (r, T)) : CT mX12_letters 1 0 [.int p0] S (qJ r T) := by
  refine ct_of [some (.int p0)] rfl (fun _ => rfl) (fun _ => Nat.le_of_ble_eq_true rfl) ?_
  unfold fX12_letters at h
  refine r_iload_n (x := p0) dX12_letters_0 rfl ?_
  by_cases c1 : p0 = 0
  · rw [if_pos c1] at h
    refine r_tableIn (tgt := 60) dX12_letters_1 (by rw [c1]; decide) (by rw [c1]; decide) (by rw [c1]; rfl) (by decide) ?_
    refine r_bipush (v := 102) dX12_letters_60 rfl ?_
    refine r_bipush (v := 105) dX12_letters_62 rfl ?_
    refine r_bipush (v := 108) dX12_letters_64 rfl ?_
    refine r_bipush (v := 108) dX12_letters_66 rfl ?_
    refine r_iconst (v := 0) dX12_letters_68 rfl ?_
    refine r_iconst (v := 0) dX12_letters_69 rfl ?_
    obtain ⟨x2, S3, h4, h⟩ := bJ_e h
    refine r_cSJ (y := mX12_spelled) (As := [.int 102, .int 105, .int 108, .int 108, .int 0, .int 0]) (rest := []) dX12_letters_70 qX12_162 kX12_spelled rfl (okX12_spelled N 102 105 108 108 0 0 S x2 S3 h4) (by decide) (Nat.zero_le _) rfl (Nat.le_of_ble_eq_true rfl) ?_
    cases h
    exact r_lreturn dX12_letters_73 rfl (Nat.zero_le _) ⟨rfl, rfl⟩
  rw [if_neg c1] at h
  by_cases c5 : p0 = 1
  · rw [if_pos c5] at h
    refine r_tableIn (tgt := 74) dX12_letters_1 (by rw [c5]; decide) (by rw [c5]; decide) (by rw [c5]; rfl) (by decide) ?_
    refine r_bipush (v := 104) dX12_letters_74 rfl ?_
    refine r_bipush (v := 111) dX12_letters_76 rfl ?_
    refine r_bipush (v := 108) dX12_letters_78 rfl ?_
    refine r_bipush (v := 100) dX12_letters_80 rfl ?_
    refine r_bipush (v := 115) dX12_letters_82 rfl ?_
    refine r_iconst (v := 0) dX12_letters_84 rfl ?_
    obtain ⟨x6, S7, h8, h⟩ := bJ_e h
    refine r_cSJ (y := mX12_spelled) (As := [.int 104, .int 111, .int 108, .int 100, .int 115, .int 0]) (rest := []) dX12_letters_85 qX12_162 kX12_spelled rfl (okX12_spelled N 104 111 108 100 115 0 S x6 S7 h8) (by decide) (Nat.zero_le _) rfl (Nat.le_of_ble_eq_true rfl) ?_
    cases h
    exact r_lreturn dX12_letters_88 rfl (Nat.zero_le _) ⟨rfl, rfl⟩
  rw [if_neg c5] at h
  by_cases c9 : p0 = 2
  · rw [if_pos c9] at h
    refine r_tableIn (tgt := 89) dX12_letters_1 (by rw [c9]; decide) (by rw [c9]; decide) (by rw [c9]; rfl) (by decide) ?_
    refine r_bipush (v := 115) dX12_letters_89 rfl ?_
    refine r_bipush (v := 112) dX12_letters_91 rfl ?_
    refine r_bipush (v := 114) dX12_letters_93 rfl ?_
    refine r_bipush (v := 105) dX12_letters_95 rfl ?_
    refine r_bipush (v := 110) dX12_letters_97 rfl ?_
    refine r_bipush (v := 103) dX12_letters_99 rfl ?_
    obtain ⟨x10, S11, h12, h⟩ := bJ_e h
    refine r_cSJ (y := mX12_spelled) (As := [.int 115, .int 112, .int 114, .int 105, .int 110, .int 103]) (rest := []) dX12_letters_101 qX12_162 kX12_spelled rfl (okX12_spelled N 115 112 114 105 110 103 S x10 S11 h12) (by decide) (Nat.zero_le _) rfl (Nat.le_of_ble_eq_true rfl) ?_
    cases h
    exact r_lreturn dX12_letters_104 rfl (Nat.zero_le _) ⟨rfl, rfl⟩
  rw [if_neg c9] at h
  by_cases c13 : p0 = 3
  · rw [if_pos c13] at h
    refine r_tableIn (tgt := 105) dX12_letters_1 (by rw [c13]; decide) (by rw [c13]; decide) (by rw [c13]; rfl) (by decide) ?_
    refine r_bipush (v := 116) dX12_letters_105 rfl ?_
    refine r_bipush (v := 105) dX12_letters_107 rfl ?_
    refine r_bipush (v := 112) dX12_letters_109 rfl ?_
    refine r_bipush (v := 115) dX12_letters_111 rfl ?_
    refine r_iconst (v := 0) dX12_letters_113 rfl ?_
    refine r_iconst (v := 0) dX12_letters_114 rfl ?_
    obtain ⟨x14, S15, h16, h⟩ := bJ_e h
    refine r_cSJ (y := mX12_spelled) (As := [.int 116, .int 105, .int 112, .int 115, .int 0, .int 0]) (rest := []) dX12_letters_115 qX12_162 kX12_spelled rfl (okX12_spelled N 116 105 112 115 0 0 S x14 S15 h16) (by decide) (Nat.zero_le _) rfl (Nat.le_of_ble_eq_true rfl) ?_
    cases h
    exact r_lreturn dX12_letters_118 rfl (Nat.zero_le _) ⟨rfl, rfl⟩
  rw [if_neg c13] at h
  by_cases c17 : p0 = 4
  · rw [if_pos c17] at h
    refine r_tableIn (tgt := 119) dX12_letters_1 (by rw [c17]; decide) (by rw [c17]; decide) (by rw [c17]; rfl) (by decide) ?_
    refine r_bipush (v := 104) dX12_letters_119 rfl ?_
    refine r_bipush (v := 111) dX12_letters_121 rfl ?_
    refine r_bipush (v := 117) dX12_letters_123 rfl ?_
    refine r_bipush (v := 114) dX12_letters_125 rfl ?_
    refine r_iconst (v := 0) dX12_letters_127 rfl ?_
    refine r_iconst (v := 0) dX12_letters_128 rfl ?_
    obtain ⟨x18, S19, h20, h⟩ := bJ_e h
    refine r_cSJ (y := mX12_spelled) (As := [.int 104, .int 111, .int 117, .int 114, .int 0, .int 0]) (rest := []) dX12_letters_129 qX12_162 kX12_spelled rfl (okX12_spelled N 104 111 117 114 0 0 S x18 S19 h20) (by decide) (Nat.zero_le _) rfl (Nat.le_of_ble_eq_true rfl) ?_
    cases h
    exact r_lreturn dX12_letters_132 rfl (Nat.zero_le _) ⟨rfl, rfl⟩
  rw [if_neg c17] at h
  by_cases c21 : p0 = 5
  · rw [if_pos c21] at h
    refine r_tableIn (tgt := 133) dX12_letters_1 (by rw [c21]; decide) (by rw [c21]; decide) (by rw [c21]; rfl) (by decide) ?_
    refine r_bipush (v := 99) dX12_letters_133 rfl ?_
    refine r_bipush (v := 117) dX12_letters_135 rfl ?_
    refine r_bipush (v := 112) dX12_letters_137 rfl ?_
    refine r_iconst (v := 0) dX12_letters_139 rfl ?_
    refine r_iconst (v := 0) dX12_letters_140 rfl ?_
    refine r_iconst (v := 0) dX12_letters_141 rfl ?_
    obtain ⟨x22, S23, h24, h⟩ := bJ_e h
    refine r_cSJ (y := mX12_spelled) (As := [.int 99, .int 117, .int 112, .int 0, .int 0, .int 0]) (rest := []) dX12_letters_142 qX12_162 kX12_spelled rfl (okX12_spelled N 99 117 112 0 0 0 S x22 S23 h24) (by decide) (Nat.zero_le _) rfl (Nat.le_of_ble_eq_true rfl) ?_
    cases h
    exact r_lreturn dX12_letters_145 rfl (Nat.zero_le _) ⟨rfl, rfl⟩
  rw [if_neg c21] at h
  by_cases c25 : p0 = 6
  · rw [if_pos c25] at h
    refine r_tableIn (tgt := 146) dX12_letters_1 (by rw [c25]; decide) (by rw [c25]; decide) (by rw [c25]; rfl) (by decide) ?_
    refine r_bipush (v := 112) dX12_letters_146 rfl ?_
    refine r_bipush (v := 105) dX12_letters_148 rfl ?_
    refine r_bipush (v := 112) dX12_letters_150 rfl ?_
    refine r_bipush (v := 101) dX12_letters_152 rfl ?_
    refine r_iconst (v := 0) dX12_letters_154 rfl ?_
    refine r_iconst (v := 0) dX12_letters_155 rfl ?_
    obtain ⟨x26, S27, h28, h⟩ := bJ_e h
    refine r_cSJ (y := mX12_spelled) (As := [.int 112, .int 105, .int 112, .int 101, .int 0, .int 0]) (rest := []) dX12_letters_156 qX12_162 kX12_spelled rfl (okX12_spelled N 112 105 112 101 0 0 S x26 S27 h28) (by decide) (Nat.zero_le _) rfl (Nat.le_of_ble_eq_true rfl) ?_
    cases h
    exact r_lreturn dX12_letters_159 rfl (Nat.zero_le _) ⟨rfl, rfl⟩
  rw [if_neg c25] at h
  by_cases c29 : p0 = 7
  · rw [if_pos c29] at h
    refine r_tableIn (tgt := 160) dX12_letters_1 (by rw [c29]; decide) (by rw [c29]; decide) (by rw [c29]; rfl) (by decide) ?_
    refine r_bipush (v := 108) dX12_letters_160 rfl ?_
    refine r_bipush (v := 101) dX12_letters_162 rfl ?_
    refine r_bipush (v := 97) dX12_letters_164 rfl ?_
    refine r_bipush (v := 107) dX12_letters_166 rfl ?_
    refine r_bipush (v := 115) dX12_letters_168 rfl ?_
    refine r_iconst (v := 0) dX12_letters_170 rfl ?_
    obtain ⟨x30, S31, h32, h⟩ := bJ_e h
    refine r_cSJ (y := mX12_spelled) (As := [.int 108, .int 101, .int 97, .int 107, .int 115, .int 0]) (rest := []) dX12_letters_171 qX12_162 kX12_spelled rfl (okX12_spelled N 108 101 97 107 115 0 S x30 S31 h32) (by decide) (Nat.zero_le _) rfl (Nat.le_of_ble_eq_true rfl) ?_
    cases h
    exact r_lreturn dX12_letters_174 rfl (Nat.zero_le _) ⟨rfl, rfl⟩
  rw [if_neg c29] at h
  by_cases c33 : p0 = 8
  · rw [if_pos c33] at h
    refine r_tableIn (tgt := 175) dX12_letters_1 (by rw [c33]; decide) (by rw [c33]; decide) (by rw [c33]; rfl) (by decide) ?_
    refine r_bipush (v := 102) dX12_letters_175 rfl ?_
    refine r_bipush (v := 114) dX12_letters_177 rfl ?_
    refine r_bipush (v := 111) dX12_letters_179 rfl ?_
    refine r_bipush (v := 115) dX12_letters_181 rfl ?_
    refine r_bipush (v := 116) dX12_letters_183 rfl ?_
    refine r_iconst (v := 0) dX12_letters_185 rfl ?_
    obtain ⟨x34, S35, h36, h⟩ := bJ_e h
    refine r_cSJ (y := mX12_spelled) (As := [.int 102, .int 114, .int 111, .int 115, .int 116, .int 0]) (rest := []) dX12_letters_186 qX12_162 kX12_spelled rfl (okX12_spelled N 102 114 111 115 116 0 S x34 S35 h36) (by decide) (Nat.zero_le _) rfl (Nat.le_of_ble_eq_true rfl) ?_
    cases h
    exact r_lreturn dX12_letters_189 rfl (Nat.zero_le _) ⟨rfl, rfl⟩
  rw [if_neg c33] at h
  by_cases c37 : p0 = 9
  · rw [if_pos c37] at h
    refine r_tableIn (tgt := 190) dX12_letters_1 (by rw [c37]; decide) (by rw [c37]; decide) (by rw [c37]; rfl) (by decide) ?_
    refine r_bipush (v := 97) dX12_letters_190 rfl ?_
    refine r_bipush (v := 110) dX12_letters_192 rfl ?_
    refine r_bipush (v := 100) dX12_letters_194 rfl ?_
    refine r_iconst (v := 0) dX12_letters_196 rfl ?_
    refine r_iconst (v := 0) dX12_letters_197 rfl ?_
    refine r_iconst (v := 0) dX12_letters_198 rfl ?_
    obtain ⟨x38, S39, h40, h⟩ := bJ_e h
    refine r_cSJ (y := mX12_spelled) (As := [.int 97, .int 110, .int 100, .int 0, .int 0, .int 0]) (rest := []) dX12_letters_199 qX12_162 kX12_spelled rfl (okX12_spelled N 97 110 100 0 0 0 S x38 S39 h40) (by decide) (Nat.zero_le _) rfl (Nat.le_of_ble_eq_true rfl) ?_
    cases h
    exact r_lreturn dX12_letters_202 rfl (Nat.zero_le _) ⟨rfl, rfl⟩
  rw [if_neg c37] at h
  by_cases c41 : p0 = 10
  · rw [if_pos c41] at h
    refine r_tableIn (tgt := 203) dX12_letters_1 (by rw [c41]; decide) (by rw [c41]; decide) (by rw [c41]; rfl) (by decide) ?_
    refine r_bipush (v := 111) dX12_letters_203 rfl ?_
    refine r_bipush (v := 114) dX12_letters_205 rfl ?_
    refine r_iconst (v := 0) dX12_letters_207 rfl ?_
    refine r_iconst (v := 0) dX12_letters_208 rfl ?_
    refine r_iconst (v := 0) dX12_letters_209 rfl ?_
    refine r_iconst (v := 0) dX12_letters_210 rfl ?_
    obtain ⟨x42, S43, h44, h⟩ := bJ_e h
    refine r_cSJ (y := mX12_spelled) (As := [.int 111, .int 114, .int 0, .int 0, .int 0, .int 0]) (rest := []) dX12_letters_211 qX12_162 kX12_spelled rfl (okX12_spelled N 111 114 0 0 0 0 S x42 S43 h44) (by decide) (Nat.zero_le _) rfl (Nat.le_of_ble_eq_true rfl) ?_
    cases h
    exact r_lreturn dX12_letters_214 rfl (Nat.zero_le _) ⟨rfl, rfl⟩
  rw [if_neg c41] at h
  refine r_tableOut (tgt := 215) dX12_letters_1 (by have nc1 := lv_neT c1 (a := 0) rfl; have nc5 := lv_neT c5 (a := 1) rfl; have nc9 := lv_neT c9 (a := 2) rfl; have nc13 := lv_neT c13 (a := 3) rfl; have nc17 := lv_neT c17 (a := 4) rfl; have nc21 := lv_neT c21 (a := 5) rfl; have nc25 := lv_neT c25 (a := 6) rfl; have nc29 := lv_neT c29 (a := 7) rfl; have nc33 := lv_neT c33 (a := 8) rfl; have nc37 := lv_neT c37 (a := 9) rfl; have nc41 := lv_neT c41 (a := 10) rfl; omega) (by decide) ?_
  refine r_bipush (v := 110) dX12_letters_215 rfl ?_
  refine r_bipush (v := 111) dX12_letters_217 rfl ?_
  refine r_bipush (v := 116) dX12_letters_219 rfl ?_
  refine r_iconst (v := 0) dX12_letters_221 rfl ?_
  refine r_iconst (v := 0) dX12_letters_222 rfl ?_
  refine r_iconst (v := 0) dX12_letters_223 rfl ?_
  obtain ⟨x45, S46, h47, h⟩ := bJ_e h
  refine r_cSJ (y := mX12_spelled) (As := [.int 110, .int 111, .int 116, .int 0, .int 0, .int 0]) (rest := []) dX12_letters_224 qX12_162 kX12_spelled rfl (okX12_spelled N 110 111 116 0 0 0 S x45 S46 h47) (by decide) (Nat.zero_le _) rfl (Nat.le_of_ble_eq_true rfl) ?_
  cases h
  exact r_lreturn dX12_letters_227 rfl (Nat.zero_le _) ⟨rfl, rfl⟩
def fX12_knownWord_21 (N : Nat)  : Nat → Int32 → PS → Option (Nat × Int32 × PS)
  | 0, _, _ => none
  | n + 1, v1, S =>
    (if 12 ≤ v1 then
      some (0, v1, S)
    else
      bJ (fX12_letters N v1 S) fun x4 S5 =>
      (if (lg_cmp x4 (S5.2.1 80 18)) = 0 then
        some (1, v1, S5)
      else
        lt (v1 + 1 : Int32) fun x8 =>
        fX12_knownWord_21 N  n x8 S5))
set_option maxHeartbeats 4000000 in
set_option maxRecDepth 100000 in
theorem okX12_knownWord_21 (N : Nat)  (Q : OQ) (u : Nat) (hu : u ≤ 0) : ∀ (n : Nat) (v1 : Int32) (S : PS) (tg : Nat) (y1 : Int32) (T : PS), fX12_knownWord_21 N  n v1 S = some (tg, y1, T) → (tg = 0 → WP [] mX12_knownWord 2 0 Q 47 [some (.ref 80), some (.int y1)] [] T u) → (tg = 1 → WP [] mX12_knownWord 2 0 Q 39 [some (.ref 80), some (.int y1)] [] T u) → WP [] mX12_knownWord 2 0 Q 21 [some (.ref 80), some (.int v1)] [] S u := by
  intro n
  induction n with
  | zero => intro v1 S tg y1 T h; rw [fX12_knownWord_21] at h; cases h
  | succ n ih =>
    intro v1 S tg y1 T h k0 k1
    rw [fX12_knownWord_21] at h
    refine r_iload_n (x := v1) dX12_knownWord_21 rfl ?_
    refine r_bipush (v := 12) dX12_knownWord_22 rfl ?_
    refine r_icmp_ge (tgt := 47) dX12_knownWord_24 (by decide) (fun c3 => ?_) (fun c3 => ?_)
    · rw [if_pos c3] at h
      cases h
      exact k0 rfl
    · rw [if_neg c3] at h
      refine r_iload_n (x := v1) dX12_knownWord_27 rfl ?_
      obtain ⟨x4, S5, h6, h⟩ := bJ_e h
      refine r_cSJ (y := mX12_letters) (As := [.int v1]) (rest := []) dX12_knownWord_28 qX12_166 kX12_letters rfl (okX12_letters N v1 S x4 S5 h6) (by decide) hu rfl (Nat.le_of_ble_eq_true rfl) ?_
      refine r_aload_n (x := 80) dX12_knownWord_31 rfl ?_
      refine r_getfield (o := 80) (v := .long (S5.2.1 80 18)) dX12_knownWord_32 lX12_137 ck80 nC80 rfl ?_
      refine r_lcmp dX12_knownWord_35 ?_
      refine r_if_ne (tgt := 41) dX12_knownWord_36 (by decide) (fun c7 => ?_) (fun c7 => ?_)
      · rw [if_neg c7] at h
        obtain ⟨x8, hx8⟩ : ∃ y : Int32, y = (v1 + 1 : Int32) := ⟨_, rfl⟩
        replace h := lt_e hx8 h
        refine r_iinc (x := v1) (v := x8) (L' := [some (.ref 80), some (.int x8)]) dX12_knownWord_41 rfl (by rw [hx8]; rfl) (Nat.le_of_ble_eq_true rfl) rfl rfl ?_
        refine r_goto (tgt := 21) dX12_knownWord_44 (by decide) ?_
        exact ih _ _ _ _ _ h k0 k1
      · rw [if_pos c7] at h
        cases h
        exact k1 rfl
def fX12_knownWord (N : Nat)  (S : PS) : Option (Int32 × PS) :=
  (if (S.1 80 13) = 1 then
    (if (S.1 80 15) ≤ 6 then
      bT (fX12_knownWord_21 N  N 0 S) fun q9 =>
      lt (q9.1 : Nat) fun t12 =>
      lt (q9.2.1 : Int32) fun x10 =>
      lt (q9.2.2 : PS) fun S11 =>
      (if t12 = 0 then
        some ((-1), S11)
      else 
        some (x10, S11))
    else
      some ((-1), S))
  else
    some ((-1), S))
set_option maxHeartbeats 4000000 in
set_option maxRecDepth 100000 in
theorem okX12_knownWord (N : Nat)  (S : PS) (r : Int32) (T : PS) (h : fX12_knownWord N  S = some (r, T)) : CT mX12_knownWord 2 0 [.ref 80] S (qI r T) := by
  refine ct_of [some (.ref 80), none] rfl (fun _ => rfl) (fun _ => Nat.le_of_ble_eq_true rfl) ?_
  unfold fX12_knownWord at h
  refine r_aload_n (x := 80) dX12_knownWord_0 rfl ?_
  refine r_getfield (o := 80) (v := .int (S.1 80 13)) dX12_knownWord_1 lX12_147 ck80 nC80 rfl ?_
  refine r_iconst (v := 1) dX12_knownWord_4 rfl ?_
  refine r_icmp_ne (tgt := 17) dX12_knownWord_5 (by decide) (fun c1 => ?_) (fun c1 => ?_)
  · rw [if_neg c1] at h
    refine r_iconst (v := (-1)) dX12_knownWord_17 rfl ?_
    cases h
    exact r_ireturn dX12_knownWord_18 rfl (Nat.zero_le _) ⟨rfl, rfl⟩
  · rw [if_pos c1] at h
    refine r_aload_n (x := 80) dX12_knownWord_8 rfl ?_
    refine r_getfield (o := 80) (v := .int (S.1 80 15)) dX12_knownWord_9 lX12_157 ck80 nC80 rfl ?_
    refine r_bipush (v := 6) dX12_knownWord_12 rfl ?_
    refine r_icmp_le (tgt := 19) dX12_knownWord_14 (by decide) (fun c2 => ?_) (fun c2 => ?_)
    · rw [if_pos c2] at h
      refine r_iconst (v := 0) dX12_knownWord_19 rfl ?_
      refine r_istore_n (L' := [some (.ref 80), some (.int 0)]) dX12_knownWord_20 (Nat.le_of_ble_eq_true rfl) rfl rfl ?_
      obtain ⟨⟨t12, x10, S11⟩, h13, h⟩ := bT_e h
      dsimp only at h
      replace h := pl_s (pl_s (pl_s (h)))
      refine okX12_knownWord_21 N  (qI r T) 0 (Nat.zero_le _) _ _ _ _ _ _ h13 (fun et12 => ?_) (fun et12 => ?_)
      · rw [if_pos et12] at h
        refine r_iconst (v := (-1)) dX12_knownWord_47 rfl ?_
        cases h
        exact r_ireturn dX12_knownWord_48 rfl (Nat.zero_le _) ⟨rfl, rfl⟩
      · rw [if_neg (by rw [et12]; decide)] at h
        refine r_iload_n (x := x10) dX12_knownWord_39 rfl ?_
        cases h
        exact r_ireturn dX12_knownWord_40 rfl (Nat.zero_le _) ⟨rfl, rfl⟩
    · rw [if_neg c2] at h
      refine r_iconst (v := (-1)) dX12_knownWord_17 rfl ?_
      cases h
      exact r_ireturn dX12_knownWord_18 rfl (Nat.zero_le _) ⟨rfl, rfl⟩
def fX12_wrong (N : Nat) (p0 : Int32) (S : PS) : Option PS :=
  (if (S.1 80 8) = 0 then
    lt ((u2 S.1 80 8 p0, S.2) : PS) fun S2 =>
    lt ((u2 S2.1 80 9 (S2.1 80 14), S2.2) : PS) fun S3 =>
    some S3
  else
    some S)
set_option maxHeartbeats 4000000 in
set_option maxRecDepth 100000 in
theorem okX12_wrong (N : Nat) (p0 : Int32) (S : PS) (T : PS) (h : fX12_wrong N p0 S = some T) : CT mX12_wrong 0 0 [.ref 80, .int p0] S (qV T) := by
  refine ct_of [some (.ref 80), some (.int p0)] rfl (fun _ => rfl) (fun _ => Nat.le_of_ble_eq_true rfl) ?_
  unfold fX12_wrong at h
  refine r_aload_n (x := 80) dX12_wrong_0 rfl ?_
  refine r_getfield (o := 80) (v := .int (S.1 80 8)) dX12_wrong_1 lX12_170 ck80 nC80 rfl ?_
  refine r_if_eq (tgt := 8) dX12_wrong_4 (by decide) (fun c1 => ?_) (fun c1 => ?_)
  · rw [if_pos c1] at h
    refine r_aload_n (x := 80) dX12_wrong_8 rfl ?_
    refine r_iload_n (x := p0) dX12_wrong_9 rfl ?_
    refine r_putI dX12_wrong_10 lX12_170 ck80 nC80 ?_
    refine r_topS (fun S2 hS2 => ?_)
    replace h := lt_e hS2 h
    refine r_aload_n (x := 80) dX12_wrong_13 rfl ?_
    refine r_aload_n (x := 80) dX12_wrong_14 rfl ?_
    refine r_getfield (o := 80) (v := .int (S2.1 80 14)) dX12_wrong_15 lX12_134 ck80 nC80 rfl ?_
    refine r_putI dX12_wrong_18 lX12_26 ck80 nC80 ?_
    refine r_topS (fun S3 hS3 => ?_)
    replace h := lt_e hS3 h
    cases h
    exact r_return dX12_wrong_21 rfl (Nat.zero_le _) ⟨rfl, rfl⟩
  · rw [if_neg c1] at h
    cases h
    exact r_return dX12_wrong_7 rfl (Nat.zero_le _) ⟨rfl, rfl⟩
def fX12_isGood (N : Nat)  (S : PS) : Option (Int32 × PS) :=
  lt ((if (S.1 80 8) = 0 then 1 else 0) : Int32) fun x2 =>
  gd (b01 x2) <|
  some (x2, S)
set_option maxHeartbeats 4000000 in
set_option maxRecDepth 100000 in
theorem okX12_isGood (N : Nat)  (S : PS) (r : Int32) (T : PS) (h : fX12_isGood N  S = some (r, T)) : CT mX12_isGood 0 0 [.ref 80] S (qI r T) := by
  refine ct_of [some (.ref 80)] rfl (fun _ => rfl) (fun _ => Nat.le_of_ble_eq_true rfl) ?_
  unfold fX12_isGood at h
  refine r_aload_n (x := 80) dX12_isGood_0 rfl ?_
  refine r_getfield (o := 80) (v := .int (S.1 80 8)) dX12_isGood_1 lX12_170 ck80 nC80 rfl ?_
  obtain ⟨x2, hx2⟩ : ∃ y : Int32, y = ((if (S.1 80 8) = 0 then 1 else 0) : Int32) := ⟨_, rfl⟩
  replace h := lt_e hx2 h
  have keyx2 : WP [] mX12_isGood 0 0 (qI r T) 12 [some (.ref 80)] (.int x2 :: []) S 0 := by
    obtain ⟨g3, h⟩ := gd_e h
    cases h
    exact r_zreturn dX12_isGood_12 rfl (nar01 g3) (Nat.zero_le _) ⟨rfl, rfl⟩
  refine r_if_ne (tgt := 11) dX12_isGood_4 (by decide) (fun c1 => ?_) (fun c1 => ?_)
  · refine r_iconst (v := 0) dX12_isGood_11 rfl ?_
    exact r_tope (by rw [hx2, if_neg c1]) keyx2
  · refine r_iconst (v := 1) dX12_isGood_7 rfl ?_
    refine r_goto (tgt := 12) dX12_isGood_8 (by decide) ?_
    exact r_tope (by rw [hx2, if_pos c1]) keyx2
def fX12_isSign (N : Nat) (p0 : Int32) (S : PS) : Option (Int32 × PS) :=
  (if (S.1 80 13) = 3 then
    lt ((if (S.1 80 17) = p0 then 1 else 0) : Int32) fun x3 =>
    gd (b01 x3) <|
    some (x3, S)
  else
    some (0, S))
set_option maxHeartbeats 4000000 in
set_option maxRecDepth 100000 in
theorem okX12_isSign (N : Nat) (p0 : Int32) (S : PS) (r : Int32) (T : PS) (h : fX12_isSign N p0 S = some (r, T)) : CT mX12_isSign 0 0 [.ref 80, .int p0] S (qI r T) := by
  refine ct_of [some (.ref 80), some (.int p0)] rfl (fun _ => rfl) (fun _ => Nat.le_of_ble_eq_true rfl) ?_
  unfold fX12_isSign at h
  refine r_aload_n (x := 80) dX12_isSign_0 rfl ?_
  refine r_getfield (o := 80) (v := .int (S.1 80 13)) dX12_isSign_1 lX12_147 ck80 nC80 rfl ?_
  refine r_iconst (v := 3) dX12_isSign_4 rfl ?_
  refine r_icmp_ne (tgt := 20) dX12_isSign_5 (by decide) (fun c1 => ?_) (fun c1 => ?_)
  · rw [if_neg c1] at h
    refine r_iconst (v := 0) dX12_isSign_20 rfl ?_
    cases h
    exact r_zreturn dX12_isSign_21 rfl rfl (Nat.zero_le _) ⟨rfl, rfl⟩
  · rw [if_pos c1] at h
    refine r_aload_n (x := 80) dX12_isSign_8 rfl ?_
    refine r_getfield (o := 80) (v := .int (S.1 80 17)) dX12_isSign_9 lX12_144 ck80 nC80 rfl ?_
    refine r_iload_n (x := p0) dX12_isSign_12 rfl ?_
    obtain ⟨x3, hx3⟩ : ∃ y : Int32, y = ((if (S.1 80 17) = p0 then 1 else 0) : Int32) := ⟨_, rfl⟩
    replace h := lt_e hx3 h
    have keyx3 : WP [] mX12_isSign 0 0 (qI r T) 21 [some (.ref 80), some (.int p0)] (.int x3 :: []) S 0 := by
      obtain ⟨g4, h⟩ := gd_e h
      cases h
      exact r_zreturn dX12_isSign_21 rfl (nar01 g4) (Nat.zero_le _) ⟨rfl, rfl⟩
    refine r_icmp_ne (tgt := 20) dX12_isSign_13 (by decide) (fun c2 => ?_) (fun c2 => ?_)
    · refine r_iconst (v := 0) dX12_isSign_20 rfl ?_
      exact r_tope (by rw [hx3, if_neg c2]) keyx3
    · refine r_iconst (v := 1) dX12_isSign_16 rfl ?_
      refine r_goto (tgt := 21) dX12_isSign_17 (by decide) ?_
      exact r_tope (by rw [hx3, if_pos c2]) keyx3
def fX12_need (N : Nat) (p0 : Int32) (S : PS) : Option PS :=
  bI (fX12_isGood N  S) fun x1 S2 =>
  (if x1 = 0 then
    some S2
  else
    (if p0 = 0 then
      bV (fX12_wrong N 1 S2) fun S7 =>
      some S7
    else
      bV (fX12_goes N  S2) fun S10 =>
      some S10))
set_option maxHeartbeats 4000000 in
set_option maxRecDepth 100000 in
theorem okX12_need (N : Nat) (p0 : Int32) (S : PS) (T : PS) (h : fX12_need N p0 S = some T) : CT mX12_need 2 0 [.ref 80, .int p0] S (qV T) := by
  refine ct_of [some (.ref 80), some (.int p0)] rfl (fun _ => rfl) (fun _ => Nat.le_of_ble_eq_true rfl) ?_
  unfold fX12_need at h
  refine r_aload_n (x := 80) dX12_need_0 rfl ?_
  obtain ⟨x1, S2, h3, h⟩ := bI_e h
  refine r_cVI (y := mX12_isGood) (As := []) (rest := []) dX12_need_1 qX12_173 kX12_isGood rfl ob80 vc12 rfl (okX12_isGood N  S x1 S2 h3) (by decide) (Nat.zero_le _) rfl (Nat.le_of_ble_eq_true rfl) ?_
  refine r_if_ne (tgt := 8) dX12_need_4 (by decide) (fun c4 => ?_) (fun c4 => ?_)
  · rw [if_neg c4] at h
    refine r_iload_n (x := p0) dX12_need_8 rfl ?_
    refine r_if_eq (tgt := 19) dX12_need_9 (by decide) (fun c5 => ?_) (fun c5 => ?_)
    · rw [if_pos c5] at h
      refine r_aload_n (x := 80) dX12_need_19 rfl ?_
      refine r_iconst (v := 1) dX12_need_20 rfl ?_
      obtain ⟨S7, h8, h⟩ := bV_e h
      refine r_cVV (y := mX12_wrong) (As := [.int 1]) (rest := []) dX12_need_21 qX12_180 kX12_wrong rfl ob80 vc12 rfl (okX12_wrong N 1 S2 S7 h8) (by decide) (Nat.zero_le _) rfl (Nat.le_of_ble_eq_true rfl) ?_
      cases h
      exact r_return dX12_need_24 rfl (Nat.zero_le _) ⟨rfl, rfl⟩
    · rw [if_neg c5] at h
      refine r_aload_n (x := 80) dX12_need_12 rfl ?_
      obtain ⟨S10, h11, h⟩ := bV_e h
      refine r_cVV (y := mX12_goes) (As := []) (rest := []) dX12_need_13 qX12_177 kX12_goes rfl ob80 vc12 rfl (okX12_goes N  S2 S10 h11) (by decide) (Nat.zero_le _) rfl (Nat.le_of_ble_eq_true rfl) ?_
      refine r_goto (tgt := 24) dX12_need_16 (by decide) ?_
      cases h
      exact r_return dX12_need_24 rfl (Nat.zero_le _) ⟨rfl, rfl⟩
  · rw [if_pos c4] at h
    cases h
    exact r_return dX12_need_7 rfl (Nat.zero_le _) ⟨rfl, rfl⟩
def fX12_number (N : Nat) (p0 : Int32) (p1 : Int32) (S : PS) : Option (Int32 × PS) :=
  bI (fX12_isGood N  S) fun x1 S2 =>
  (if x1 = 0 then
    some (0, S2)
  else
    (if (S2.1 80 13) = 2 then
      (if 4 < (S2.1 80 15) then
        bV (fX12_wrong N 2 S2) fun S8 =>
        lt ((S8.1 80 16) : Int32) fun x10 =>
        bI (fX12_isGood N  S8) fun x11 S12 =>
        (if x11 = 0 then
          some (x10, S12)
        else
          bV (fX12_goes N  S12) fun S16 =>
          some (x10, S16))
      else
        (if (S2.1 80 16) < p0 then
          bV (fX12_wrong N 2 S2) fun S20 =>
          lt ((S20.1 80 16) : Int32) fun x22 =>
          bI (fX12_isGood N  S20) fun x23 S24 =>
          (if x23 = 0 then
            some (x22, S24)
          else
            bV (fX12_goes N  S24) fun S28 =>
            some (x22, S28))
        else
          (if (S2.1 80 16) ≤ p1 then
            lt ((S2.1 80 16) : Int32) fun x31 =>
            bI (fX12_isGood N  S2) fun x32 S33 =>
            (if x32 = 0 then
              some (x31, S33)
            else
              bV (fX12_goes N  S33) fun S37 =>
              some (x31, S37))
          else
            bV (fX12_wrong N 2 S2) fun S40 =>
            lt ((S40.1 80 16) : Int32) fun x42 =>
            bI (fX12_isGood N  S40) fun x43 S44 =>
            (if x43 = 0 then
              some (x42, S44)
            else
              bV (fX12_goes N  S44) fun S48 =>
              some (x42, S48)))))
    else
      bV (fX12_wrong N 1 S2) fun S51 =>
      lt ((S51.1 80 16) : Int32) fun x53 =>
      bI (fX12_isGood N  S51) fun x54 S55 =>
      (if x54 = 0 then
        some (x53, S55)
      else
        bV (fX12_goes N  S55) fun S59 =>
        some (x53, S59))))
set_option maxHeartbeats 4000000 in
set_option maxRecDepth 100000 in
theorem okX12_number (N : Nat) (p0 : Int32) (p1 : Int32) (S : PS) (r : Int32) (T : PS) (h : fX12_number N p0 p1 S = some (r, T)) : CT mX12_number 2 0 [.ref 80, .int p0, .int p1] S (qI r T) := by
  refine ct_of [some (.ref 80), some (.int p0), some (.int p1), none] rfl (fun _ => rfl) (fun _ => Nat.le_of_ble_eq_true rfl) ?_
  unfold fX12_number at h
  refine r_aload_n (x := 80) dX12_number_0 rfl ?_
  obtain ⟨x1, S2, h3, h⟩ := bI_e h
  refine r_cVI (y := mX12_isGood) (As := []) (rest := []) dX12_number_1 qX12_173 kX12_isGood rfl ob80 vc12 rfl (okX12_isGood N  S x1 S2 h3) (by decide) (Nat.zero_le _) rfl (Nat.le_of_ble_eq_true rfl) ?_
  refine r_if_ne (tgt := 9) dX12_number_4 (by decide) (fun c4 => ?_) (fun c4 => ?_)
  · rw [if_neg c4] at h
    refine r_aload_n (x := 80) dX12_number_9 rfl ?_
    refine r_getfield (o := 80) (v := .int (S2.1 80 13)) dX12_number_10 lX12_147 ck80 nC80 rfl ?_
    refine r_iconst (v := 2) dX12_number_13 rfl ?_
    refine r_icmp_eq (tgt := 25) dX12_number_14 (by decide) (fun c5 => ?_) (fun c5 => ?_)
    · rw [if_pos c5] at h
      refine r_aload_n (x := 80) dX12_number_25 rfl ?_
      refine r_getfield (o := 80) (v := .int (S2.1 80 15)) dX12_number_26 lX12_157 ck80 nC80 rfl ?_
      refine r_iconst (v := 4) dX12_number_29 rfl ?_
      refine r_icmp_gt (tgt := 49) dX12_number_30 (by decide) (fun c6 => ?_) (fun c6 => ?_)
      · rw [if_pos c6] at h
        refine r_aload_n (x := 80) dX12_number_49 rfl ?_
        refine r_iconst (v := 2) dX12_number_50 rfl ?_
        obtain ⟨S8, h9, h⟩ := bV_e h
        refine r_cVV (y := mX12_wrong) (As := [.int 2]) (rest := []) dX12_number_51 qX12_180 kX12_wrong rfl ob80 vc12 rfl (okX12_wrong N 2 S2 S8 h9) (by decide) (Nat.zero_le _) rfl (Nat.le_of_ble_eq_true rfl) ?_
        refine r_aload_n (x := 80) dX12_number_54 rfl ?_
        refine r_getfield (o := 80) (v := .int (S8.1 80 16)) dX12_number_55 lX12_141 ck80 nC80 rfl ?_
        refine r_topi (fun x10 hx10 => ?_)
        replace h := lt_e hx10 h
        refine r_istore_n (L' := [some (.ref 80), some (.int p0), some (.int p1), some (.int x10)]) dX12_number_58 (Nat.le_of_ble_eq_true rfl) rfl rfl ?_
        refine r_aload_n (x := 80) dX12_number_59 rfl ?_
        obtain ⟨x11, S12, h13, h⟩ := bI_e h
        refine r_cVI (y := mX12_isGood) (As := []) (rest := []) dX12_number_60 qX12_173 kX12_isGood rfl ob80 vc12 rfl (okX12_isGood N  S8 x11 S12 h13) (by decide) (Nat.zero_le _) rfl (Nat.le_of_ble_eq_true rfl) ?_
        refine r_if_eq (tgt := 70) dX12_number_63 (by decide) (fun c14 => ?_) (fun c14 => ?_)
        · rw [if_pos c14] at h
          refine r_iload_n (x := x10) dX12_number_70 rfl ?_
          cases h
          exact r_ireturn dX12_number_71 rfl (Nat.zero_le _) ⟨rfl, rfl⟩
        · rw [if_neg c14] at h
          refine r_aload_n (x := 80) dX12_number_66 rfl ?_
          obtain ⟨S16, h17, h⟩ := bV_e h
          refine r_cVV (y := mX12_goes) (As := []) (rest := []) dX12_number_67 qX12_177 kX12_goes rfl ob80 vc12 rfl (okX12_goes N  S12 S16 h17) (by decide) (Nat.zero_le _) rfl (Nat.le_of_ble_eq_true rfl) ?_
          refine r_iload_n (x := x10) dX12_number_70 rfl ?_
          cases h
          exact r_ireturn dX12_number_71 rfl (Nat.zero_le _) ⟨rfl, rfl⟩
      · rw [if_neg c6] at h
        refine r_aload_n (x := 80) dX12_number_33 rfl ?_
        refine r_getfield (o := 80) (v := .int (S2.1 80 16)) dX12_number_34 lX12_141 ck80 nC80 rfl ?_
        refine r_iload_n (x := p0) dX12_number_37 rfl ?_
        refine r_icmp_lt (tgt := 49) dX12_number_38 (by decide) (fun c18 => ?_) (fun c18 => ?_)
        · rw [if_pos c18] at h
          refine r_aload_n (x := 80) dX12_number_49 rfl ?_
          refine r_iconst (v := 2) dX12_number_50 rfl ?_
          obtain ⟨S20, h21, h⟩ := bV_e h
          refine r_cVV (y := mX12_wrong) (As := [.int 2]) (rest := []) dX12_number_51 qX12_180 kX12_wrong rfl ob80 vc12 rfl (okX12_wrong N 2 S2 S20 h21) (by decide) (Nat.zero_le _) rfl (Nat.le_of_ble_eq_true rfl) ?_
          refine r_aload_n (x := 80) dX12_number_54 rfl ?_
          refine r_getfield (o := 80) (v := .int (S20.1 80 16)) dX12_number_55 lX12_141 ck80 nC80 rfl ?_
          refine r_topi (fun x22 hx22 => ?_)
          replace h := lt_e hx22 h
          refine r_istore_n (L' := [some (.ref 80), some (.int p0), some (.int p1), some (.int x22)]) dX12_number_58 (Nat.le_of_ble_eq_true rfl) rfl rfl ?_
          refine r_aload_n (x := 80) dX12_number_59 rfl ?_
          obtain ⟨x23, S24, h25, h⟩ := bI_e h
          refine r_cVI (y := mX12_isGood) (As := []) (rest := []) dX12_number_60 qX12_173 kX12_isGood rfl ob80 vc12 rfl (okX12_isGood N  S20 x23 S24 h25) (by decide) (Nat.zero_le _) rfl (Nat.le_of_ble_eq_true rfl) ?_
          refine r_if_eq (tgt := 70) dX12_number_63 (by decide) (fun c26 => ?_) (fun c26 => ?_)
          · rw [if_pos c26] at h
            refine r_iload_n (x := x22) dX12_number_70 rfl ?_
            cases h
            exact r_ireturn dX12_number_71 rfl (Nat.zero_le _) ⟨rfl, rfl⟩
          · rw [if_neg c26] at h
            refine r_aload_n (x := 80) dX12_number_66 rfl ?_
            obtain ⟨S28, h29, h⟩ := bV_e h
            refine r_cVV (y := mX12_goes) (As := []) (rest := []) dX12_number_67 qX12_177 kX12_goes rfl ob80 vc12 rfl (okX12_goes N  S24 S28 h29) (by decide) (Nat.zero_le _) rfl (Nat.le_of_ble_eq_true rfl) ?_
            refine r_iload_n (x := x22) dX12_number_70 rfl ?_
            cases h
            exact r_ireturn dX12_number_71 rfl (Nat.zero_le _) ⟨rfl, rfl⟩
        · rw [if_neg c18] at h
          refine r_aload_n (x := 80) dX12_number_41 rfl ?_
          refine r_getfield (o := 80) (v := .int (S2.1 80 16)) dX12_number_42 lX12_141 ck80 nC80 rfl ?_
          refine r_iload_n (x := p1) dX12_number_45 rfl ?_
          refine r_icmp_le (tgt := 54) dX12_number_46 (by decide) (fun c30 => ?_) (fun c30 => ?_)
          · rw [if_pos c30] at h
            refine r_aload_n (x := 80) dX12_number_54 rfl ?_
            refine r_getfield (o := 80) (v := .int (S2.1 80 16)) dX12_number_55 lX12_141 ck80 nC80 rfl ?_
            refine r_topi (fun x31 hx31 => ?_)
            replace h := lt_e hx31 h
            refine r_istore_n (L' := [some (.ref 80), some (.int p0), some (.int p1), some (.int x31)]) dX12_number_58 (Nat.le_of_ble_eq_true rfl) rfl rfl ?_
            refine r_aload_n (x := 80) dX12_number_59 rfl ?_
            obtain ⟨x32, S33, h34, h⟩ := bI_e h
            refine r_cVI (y := mX12_isGood) (As := []) (rest := []) dX12_number_60 qX12_173 kX12_isGood rfl ob80 vc12 rfl (okX12_isGood N  S2 x32 S33 h34) (by decide) (Nat.zero_le _) rfl (Nat.le_of_ble_eq_true rfl) ?_
            refine r_if_eq (tgt := 70) dX12_number_63 (by decide) (fun c35 => ?_) (fun c35 => ?_)
            · rw [if_pos c35] at h
              refine r_iload_n (x := x31) dX12_number_70 rfl ?_
              cases h
              exact r_ireturn dX12_number_71 rfl (Nat.zero_le _) ⟨rfl, rfl⟩
            · rw [if_neg c35] at h
              refine r_aload_n (x := 80) dX12_number_66 rfl ?_
              obtain ⟨S37, h38, h⟩ := bV_e h
              refine r_cVV (y := mX12_goes) (As := []) (rest := []) dX12_number_67 qX12_177 kX12_goes rfl ob80 vc12 rfl (okX12_goes N  S33 S37 h38) (by decide) (Nat.zero_le _) rfl (Nat.le_of_ble_eq_true rfl) ?_
              refine r_iload_n (x := x31) dX12_number_70 rfl ?_
              cases h
              exact r_ireturn dX12_number_71 rfl (Nat.zero_le _) ⟨rfl, rfl⟩
          · rw [if_neg c30] at h
            refine r_aload_n (x := 80) dX12_number_49 rfl ?_
            refine r_iconst (v := 2) dX12_number_50 rfl ?_
            obtain ⟨S40, h41, h⟩ := bV_e h
            refine r_cVV (y := mX12_wrong) (As := [.int 2]) (rest := []) dX12_number_51 qX12_180 kX12_wrong rfl ob80 vc12 rfl (okX12_wrong N 2 S2 S40 h41) (by decide) (Nat.zero_le _) rfl (Nat.le_of_ble_eq_true rfl) ?_
            refine r_aload_n (x := 80) dX12_number_54 rfl ?_
            refine r_getfield (o := 80) (v := .int (S40.1 80 16)) dX12_number_55 lX12_141 ck80 nC80 rfl ?_
            refine r_topi (fun x42 hx42 => ?_)
            replace h := lt_e hx42 h
            refine r_istore_n (L' := [some (.ref 80), some (.int p0), some (.int p1), some (.int x42)]) dX12_number_58 (Nat.le_of_ble_eq_true rfl) rfl rfl ?_
            refine r_aload_n (x := 80) dX12_number_59 rfl ?_
            obtain ⟨x43, S44, h45, h⟩ := bI_e h
            refine r_cVI (y := mX12_isGood) (As := []) (rest := []) dX12_number_60 qX12_173 kX12_isGood rfl ob80 vc12 rfl (okX12_isGood N  S40 x43 S44 h45) (by decide) (Nat.zero_le _) rfl (Nat.le_of_ble_eq_true rfl) ?_
            refine r_if_eq (tgt := 70) dX12_number_63 (by decide) (fun c46 => ?_) (fun c46 => ?_)
            · rw [if_pos c46] at h
              refine r_iload_n (x := x42) dX12_number_70 rfl ?_
              cases h
              exact r_ireturn dX12_number_71 rfl (Nat.zero_le _) ⟨rfl, rfl⟩
            · rw [if_neg c46] at h
              refine r_aload_n (x := 80) dX12_number_66 rfl ?_
              obtain ⟨S48, h49, h⟩ := bV_e h
              refine r_cVV (y := mX12_goes) (As := []) (rest := []) dX12_number_67 qX12_177 kX12_goes rfl ob80 vc12 rfl (okX12_goes N  S44 S48 h49) (by decide) (Nat.zero_le _) rfl (Nat.le_of_ble_eq_true rfl) ?_
              refine r_iload_n (x := x42) dX12_number_70 rfl ?_
              cases h
              exact r_ireturn dX12_number_71 rfl (Nat.zero_le _) ⟨rfl, rfl⟩
    · rw [if_neg c5] at h
      refine r_aload_n (x := 80) dX12_number_17 rfl ?_
      refine r_iconst (v := 1) dX12_number_18 rfl ?_
      obtain ⟨S51, h52, h⟩ := bV_e h
      refine r_cVV (y := mX12_wrong) (As := [.int 1]) (rest := []) dX12_number_19 qX12_180 kX12_wrong rfl ob80 vc12 rfl (okX12_wrong N 1 S2 S51 h52) (by decide) (Nat.zero_le _) rfl (Nat.le_of_ble_eq_true rfl) ?_
      refine r_goto (tgt := 54) dX12_number_22 (by decide) ?_
      refine r_aload_n (x := 80) dX12_number_54 rfl ?_
      refine r_getfield (o := 80) (v := .int (S51.1 80 16)) dX12_number_55 lX12_141 ck80 nC80 rfl ?_
      refine r_topi (fun x53 hx53 => ?_)
      replace h := lt_e hx53 h
      refine r_istore_n (L' := [some (.ref 80), some (.int p0), some (.int p1), some (.int x53)]) dX12_number_58 (Nat.le_of_ble_eq_true rfl) rfl rfl ?_
      refine r_aload_n (x := 80) dX12_number_59 rfl ?_
      obtain ⟨x54, S55, h56, h⟩ := bI_e h
      refine r_cVI (y := mX12_isGood) (As := []) (rest := []) dX12_number_60 qX12_173 kX12_isGood rfl ob80 vc12 rfl (okX12_isGood N  S51 x54 S55 h56) (by decide) (Nat.zero_le _) rfl (Nat.le_of_ble_eq_true rfl) ?_
      refine r_if_eq (tgt := 70) dX12_number_63 (by decide) (fun c57 => ?_) (fun c57 => ?_)
      · rw [if_pos c57] at h
        refine r_iload_n (x := x53) dX12_number_70 rfl ?_
        cases h
        exact r_ireturn dX12_number_71 rfl (Nat.zero_le _) ⟨rfl, rfl⟩
      · rw [if_neg c57] at h
        refine r_aload_n (x := 80) dX12_number_66 rfl ?_
        obtain ⟨S59, h60, h⟩ := bV_e h
        refine r_cVV (y := mX12_goes) (As := []) (rest := []) dX12_number_67 qX12_177 kX12_goes rfl ob80 vc12 rfl (okX12_goes N  S55 S59 h60) (by decide) (Nat.zero_le _) rfl (Nat.le_of_ble_eq_true rfl) ?_
        refine r_iload_n (x := x53) dX12_number_70 rfl ?_
        cases h
        exact r_ireturn dX12_number_71 rfl (Nat.zero_le _) ⟨rfl, rfl⟩
  · rw [if_pos c4] at h
    refine r_iconst (v := 0) dX12_number_7 rfl ?_
    cases h
    exact r_ireturn dX12_number_8 rfl (Nat.zero_le _) ⟨rfl, rfl⟩
def fX12_isCupHere (N : Nat)  (S : PS) : Option (Int32 × PS) :=
  bI (fX12_isGood N  S) fun x1 S2 =>
  (if x1 = 0 then
    some (0, S2)
  else
    (if (S2.1 80 13) = 2 then
      (if (S2.1 80 15) ≤ 4 then
        (if (S2.1 80 16) < (S2.1 80 19) then
          bI (fX12_isGood N  S2) fun x8 S9 =>
          gd (b01 x8) <|
          some (x8, S9)
        else
          bV (fX12_wrong N 3 S2) fun S13 =>
          bI (fX12_isGood N  S13) fun x15 S16 =>
          gd (b01 x15) <|
          some (x15, S16))
      else
        bV (fX12_wrong N 2 S2) fun S20 =>
        bI (fX12_isGood N  S20) fun x22 S23 =>
        gd (b01 x22) <|
        some (x22, S23))
    else
      bV (fX12_wrong N 1 S2) fun S27 =>
      bI (fX12_isGood N  S27) fun x29 S30 =>
      gd (b01 x29) <|
      some (x29, S30)))
set_option maxHeartbeats 4000000 in
set_option maxRecDepth 100000 in
theorem okX12_isCupHere (N : Nat)  (S : PS) (r : Int32) (T : PS) (h : fX12_isCupHere N  S = some (r, T)) : CT mX12_isCupHere 1 0 [.ref 80] S (qI r T) := by
  refine ct_of [some (.ref 80)] rfl (fun _ => rfl) (fun _ => Nat.le_of_ble_eq_true rfl) ?_
  unfold fX12_isCupHere at h
  refine r_aload_n (x := 80) dX12_isCupHere_0 rfl ?_
  obtain ⟨x1, S2, h3, h⟩ := bI_e h
  refine r_cVI (y := mX12_isGood) (As := []) (rest := []) dX12_isCupHere_1 qX12_173 kX12_isGood rfl ob80 vc12 rfl (okX12_isGood N  S x1 S2 h3) (by decide) (Nat.zero_le _) rfl (Nat.le_of_ble_eq_true rfl) ?_
  refine r_if_ne (tgt := 9) dX12_isCupHere_4 (by decide) (fun c4 => ?_) (fun c4 => ?_)
  · rw [if_neg c4] at h
    refine r_aload_n (x := 80) dX12_isCupHere_9 rfl ?_
    refine r_getfield (o := 80) (v := .int (S2.1 80 13)) dX12_isCupHere_10 lX12_147 ck80 nC80 rfl ?_
    refine r_iconst (v := 2) dX12_isCupHere_13 rfl ?_
    refine r_icmp_eq (tgt := 25) dX12_isCupHere_14 (by decide) (fun c5 => ?_) (fun c5 => ?_)
    · rw [if_pos c5] at h
      refine r_aload_n (x := 80) dX12_isCupHere_25 rfl ?_
      refine r_getfield (o := 80) (v := .int (S2.1 80 15)) dX12_isCupHere_26 lX12_157 ck80 nC80 rfl ?_
      refine r_iconst (v := 4) dX12_isCupHere_29 rfl ?_
      refine r_icmp_le (tgt := 41) dX12_isCupHere_30 (by decide) (fun c6 => ?_) (fun c6 => ?_)
      · rw [if_pos c6] at h
        refine r_aload_n (x := 80) dX12_isCupHere_41 rfl ?_
        refine r_getfield (o := 80) (v := .int (S2.1 80 16)) dX12_isCupHere_42 lX12_141 ck80 nC80 rfl ?_
        refine r_aload_n (x := 80) dX12_isCupHere_45 rfl ?_
        refine r_getfield (o := 80) (v := .int (S2.1 80 19)) dX12_isCupHere_46 lX12_183 ck80 nC80 rfl ?_
        refine r_icmp_lt (tgt := 57) dX12_isCupHere_49 (by decide) (fun c7 => ?_) (fun c7 => ?_)
        · rw [if_pos c7] at h
          refine r_aload_n (x := 80) dX12_isCupHere_57 rfl ?_
          obtain ⟨x8, S9, h10, h⟩ := bI_e h
          refine r_cVI (y := mX12_isGood) (As := []) (rest := []) dX12_isCupHere_58 qX12_173 kX12_isGood rfl ob80 vc12 rfl (okX12_isGood N  S2 x8 S9 h10) (by decide) (Nat.zero_le _) rfl (Nat.le_of_ble_eq_true rfl) ?_
          obtain ⟨g11, h⟩ := gd_e h
          cases h
          exact r_zreturn dX12_isCupHere_61 rfl (nar01 g11) (Nat.zero_le _) ⟨rfl, rfl⟩
        · rw [if_neg c7] at h
          refine r_aload_n (x := 80) dX12_isCupHere_52 rfl ?_
          refine r_iconst (v := 3) dX12_isCupHere_53 rfl ?_
          obtain ⟨S13, h14, h⟩ := bV_e h
          refine r_cVV (y := mX12_wrong) (As := [.int 3]) (rest := []) dX12_isCupHere_54 qX12_180 kX12_wrong rfl ob80 vc12 rfl (okX12_wrong N 3 S2 S13 h14) (by decide) (Nat.zero_le _) rfl (Nat.le_of_ble_eq_true rfl) ?_
          refine r_aload_n (x := 80) dX12_isCupHere_57 rfl ?_
          obtain ⟨x15, S16, h17, h⟩ := bI_e h
          refine r_cVI (y := mX12_isGood) (As := []) (rest := []) dX12_isCupHere_58 qX12_173 kX12_isGood rfl ob80 vc12 rfl (okX12_isGood N  S13 x15 S16 h17) (by decide) (Nat.zero_le _) rfl (Nat.le_of_ble_eq_true rfl) ?_
          obtain ⟨g18, h⟩ := gd_e h
          cases h
          exact r_zreturn dX12_isCupHere_61 rfl (nar01 g18) (Nat.zero_le _) ⟨rfl, rfl⟩
      · rw [if_neg c6] at h
        refine r_aload_n (x := 80) dX12_isCupHere_33 rfl ?_
        refine r_iconst (v := 2) dX12_isCupHere_34 rfl ?_
        obtain ⟨S20, h21, h⟩ := bV_e h
        refine r_cVV (y := mX12_wrong) (As := [.int 2]) (rest := []) dX12_isCupHere_35 qX12_180 kX12_wrong rfl ob80 vc12 rfl (okX12_wrong N 2 S2 S20 h21) (by decide) (Nat.zero_le _) rfl (Nat.le_of_ble_eq_true rfl) ?_
        refine r_goto (tgt := 57) dX12_isCupHere_38 (by decide) ?_
        refine r_aload_n (x := 80) dX12_isCupHere_57 rfl ?_
        obtain ⟨x22, S23, h24, h⟩ := bI_e h
        refine r_cVI (y := mX12_isGood) (As := []) (rest := []) dX12_isCupHere_58 qX12_173 kX12_isGood rfl ob80 vc12 rfl (okX12_isGood N  S20 x22 S23 h24) (by decide) (Nat.zero_le _) rfl (Nat.le_of_ble_eq_true rfl) ?_
        obtain ⟨g25, h⟩ := gd_e h
        cases h
        exact r_zreturn dX12_isCupHere_61 rfl (nar01 g25) (Nat.zero_le _) ⟨rfl, rfl⟩
    · rw [if_neg c5] at h
      refine r_aload_n (x := 80) dX12_isCupHere_17 rfl ?_
      refine r_iconst (v := 1) dX12_isCupHere_18 rfl ?_
      obtain ⟨S27, h28, h⟩ := bV_e h
      refine r_cVV (y := mX12_wrong) (As := [.int 1]) (rest := []) dX12_isCupHere_19 qX12_180 kX12_wrong rfl ob80 vc12 rfl (okX12_wrong N 1 S2 S27 h28) (by decide) (Nat.zero_le _) rfl (Nat.le_of_ble_eq_true rfl) ?_
      refine r_goto (tgt := 57) dX12_isCupHere_22 (by decide) ?_
      refine r_aload_n (x := 80) dX12_isCupHere_57 rfl ?_
      obtain ⟨x29, S30, h31, h⟩ := bI_e h
      refine r_cVI (y := mX12_isGood) (As := []) (rest := []) dX12_isCupHere_58 qX12_173 kX12_isGood rfl ob80 vc12 rfl (okX12_isGood N  S27 x29 S30 h31) (by decide) (Nat.zero_le _) rfl (Nat.le_of_ble_eq_true rfl) ?_
      obtain ⟨g32, h⟩ := gd_e h
      cases h
      exact r_zreturn dX12_isCupHere_61 rfl (nar01 g32) (Nat.zero_le _) ⟨rfl, rfl⟩
  · rw [if_pos c4] at h
    refine r_iconst (v := 0) dX12_isCupHere_7 rfl ?_
    cases h
    exact r_zreturn dX12_isCupHere_8 rfl rfl (Nat.zero_le _) ⟨rfl, rfl⟩
def fX12_puts (N : Nat) (p0 : Int32) (S : PS) : Option PS :=
  gd (inr (S.1 80 22) 1400) <|
  lt ((u2 S.1 87 (ix (S.1 80 22)) p0, S.2) : PS) fun S2 =>
  lt ((u2 S2.1 80 22 ((S2.1 80 22) + 1), S2.2) : PS) fun S3 =>
  some S3
set_option maxHeartbeats 4000000 in
set_option maxRecDepth 100000 in
theorem okX12_puts (N : Nat) (p0 : Int32) (S : PS) (T : PS) (h : fX12_puts N p0 S = some T) : CT mX12_puts 0 0 [.ref 80, .int p0] S (qV T) := by
  refine ct_of [some (.ref 80), some (.int p0)] rfl (fun _ => rfl) (fun _ => Nat.le_of_ble_eq_true rfl) ?_
  unfold fX12_puts at h
  refine r_aload_n (x := 80) dX12_puts_0 rfl ?_
  refine r_getfield (o := 80) (v := .ref 87) dX12_puts_1 lX12_38 ck80 nC80 rfl ?_
  refine r_aload_n (x := 80) dX12_puts_4 rfl ?_
  refine r_getfield (o := 80) (v := .int (S.1 80 22)) dX12_puts_5 lX12_186 ck80 nC80 rfl ?_
  refine r_iload_n (x := p0) dX12_puts_8 rfl ?_
  obtain ⟨g1, h⟩ := gd_e h
  refine r_iastore (a := 87) dX12_puts_9 ck87 nC87 (inr_IX g1) ?_
  refine r_topS (fun S2 hS2 => ?_)
  replace h := lt_e hS2 h
  refine r_aload_n (x := 80) dX12_puts_10 rfl ?_
  refine r_dup_ref dX12_puts_11 ?_
  refine r_getfield (o := 80) (v := .int (S2.1 80 22)) dX12_puts_12 lX12_186 ck80 nC80 rfl ?_
  refine r_iconst (v := 1) dX12_puts_15 rfl ?_
  refine r_iadd dX12_puts_16 ?_
  refine r_putI dX12_puts_17 lX12_186 ck80 nC80 ?_
  refine r_topS (fun S3 hS3 => ?_)
  replace h := lt_e hS3 h
  cases h
  exact r_return dX12_puts_20 rfl (Nat.zero_le _) ⟨rfl, rfl⟩
def fX12_isOpen (N : Nat) (p0 : Int32) (S : PS) : Option (Int32 × PS) :=
  lt ((if p0 < 14 then 0 else 1) : Int32) fun x2 =>
  gd (b01 x2) <|
  some (x2, S)
set_option maxHeartbeats 4000000 in
set_option maxRecDepth 100000 in
theorem okX12_isOpen (N : Nat) (p0 : Int32) (S : PS) (r : Int32) (T : PS) (h : fX12_isOpen N p0 S = some (r, T)) : CT mX12_isOpen 0 0 [.int p0] S (qI r T) := by
  refine ct_of [some (.int p0)] rfl (fun _ => rfl) (fun _ => Nat.le_of_ble_eq_true rfl) ?_
  unfold fX12_isOpen at h
  refine r_iload_n (x := p0) dX12_isOpen_0 rfl ?_
  refine r_bipush (v := 14) dX12_isOpen_1 rfl ?_
  obtain ⟨x2, hx2⟩ : ∃ y : Int32, y = ((if p0 < 14 then 0 else 1) : Int32) := ⟨_, rfl⟩
  replace h := lt_e hx2 h
  have keyx2 : WP [] mX12_isOpen 0 0 (qI r T) 11 [some (.int p0)] (.int x2 :: []) S 0 := by
    obtain ⟨g3, h⟩ := gd_e h
    cases h
    exact r_zreturn dX12_isOpen_11 rfl (nar01 g3) (Nat.zero_le _) ⟨rfl, rfl⟩
  refine r_icmp_lt (tgt := 10) dX12_isOpen_3 (by decide) (fun c1 => ?_) (fun c1 => ?_)
  · refine r_iconst (v := 0) dX12_isOpen_10 rfl ?_
    exact r_tope (by rw [hx2, if_pos c1]) keyx2
  · refine r_iconst (v := 1) dX12_isOpen_6 rfl ?_
    refine r_goto (tgt := 11) dX12_isOpen_7 (by decide) ?_
    exact r_tope (by rw [hx2, if_neg c1]) keyx2
def fX12_strength (N : Nat) (p0 : Int32) (S : PS) : Option (Int32 × PS) :=
  lt ((if p0 = 5 then 1 else (if p0 = 4 then 2 else (if p0 = 3 then 3 else (if p0 = 6 then 4 else (if p0 = 7 then 4 else (if p0 = 8 then 5 else (if p0 = 9 then 5 else 6))))))) : Int32) fun x8 =>
  some (x8, S)
set_option maxHeartbeats 4000000 in
set_option maxRecDepth 100000 in
theorem okX12_strength (N : Nat) (p0 : Int32) (S : PS) (r : Int32) (T : PS) (h : fX12_strength N p0 S = some (r, T)) : CT mX12_strength 0 0 [.int p0] S (qI r T) := by
  refine ct_of [some (.int p0)] rfl (fun _ => rfl) (fun _ => Nat.le_of_ble_eq_true rfl) ?_
  unfold fX12_strength at h
  refine r_iload_n (x := p0) dX12_strength_0 rfl ?_
  refine r_iconst (v := 5) dX12_strength_1 rfl ?_
  obtain ⟨x8, hx8⟩ : ∃ y : Int32, y = ((if p0 = 5 then 1 else (if p0 = 4 then 2 else (if p0 = 3 then 3 else (if p0 = 6 then 4 else (if p0 = 7 then 4 else (if p0 = 8 then 5 else (if p0 = 9 then 5 else 6))))))) : Int32) := ⟨_, rfl⟩
  replace h := lt_e hx8 h
  have keyx8 : WP [] mX12_strength 0 0 (qI r T) 61 [some (.int p0)] (.int x8 :: []) S 0 := by
    cases h
    exact r_ireturn dX12_strength_61 rfl (Nat.zero_le _) ⟨rfl, rfl⟩
  refine r_icmp_ne (tgt := 9) dX12_strength_2 (by decide) (fun c1 => ?_) (fun c1 => ?_)
  · refine r_iload_n (x := p0) dX12_strength_9 rfl ?_
    refine r_iconst (v := 4) dX12_strength_10 rfl ?_
    refine r_icmp_ne (tgt := 18) dX12_strength_11 (by decide) (fun c2 => ?_) (fun c2 => ?_)
    · refine r_iload_n (x := p0) dX12_strength_18 rfl ?_
      refine r_iconst (v := 3) dX12_strength_19 rfl ?_
      refine r_icmp_ne (tgt := 27) dX12_strength_20 (by decide) (fun c3 => ?_) (fun c3 => ?_)
      · refine r_iload_n (x := p0) dX12_strength_27 rfl ?_
        refine r_bipush (v := 6) dX12_strength_28 rfl ?_
        refine r_icmp_eq (tgt := 39) dX12_strength_30 (by decide) (fun c4 => ?_) (fun c4 => ?_)
        · refine r_iconst (v := 4) dX12_strength_39 rfl ?_
          refine r_goto (tgt := 61) dX12_strength_40 (by decide) ?_
          exact r_tope (by rw [hx8, if_neg c1, if_neg c2, if_neg c3, if_pos c4]) keyx8
        · refine r_iload_n (x := p0) dX12_strength_33 rfl ?_
          refine r_bipush (v := 7) dX12_strength_34 rfl ?_
          refine r_icmp_ne (tgt := 43) dX12_strength_36 (by decide) (fun c5 => ?_) (fun c5 => ?_)
          · refine r_iload_n (x := p0) dX12_strength_43 rfl ?_
            refine r_bipush (v := 8) dX12_strength_44 rfl ?_
            refine r_icmp_eq (tgt := 55) dX12_strength_46 (by decide) (fun c6 => ?_) (fun c6 => ?_)
            · refine r_iconst (v := 5) dX12_strength_55 rfl ?_
              refine r_goto (tgt := 61) dX12_strength_56 (by decide) ?_
              exact r_tope (by rw [hx8, if_neg c1, if_neg c2, if_neg c3, if_neg c4, if_neg c5, if_pos c6]) keyx8
            · refine r_iload_n (x := p0) dX12_strength_49 rfl ?_
              refine r_bipush (v := 9) dX12_strength_50 rfl ?_
              refine r_icmp_ne (tgt := 59) dX12_strength_52 (by decide) (fun c7 => ?_) (fun c7 => ?_)
              · refine r_bipush (v := 6) dX12_strength_59 rfl ?_
                exact r_tope (by rw [hx8, if_neg c1, if_neg c2, if_neg c3, if_neg c4, if_neg c5, if_neg c6, if_neg c7]) keyx8
              · refine r_iconst (v := 5) dX12_strength_55 rfl ?_
                refine r_goto (tgt := 61) dX12_strength_56 (by decide) ?_
                exact r_tope (by rw [hx8, if_neg c1, if_neg c2, if_neg c3, if_neg c4, if_neg c5, if_neg c6, if_pos c7]) keyx8
          · refine r_iconst (v := 4) dX12_strength_39 rfl ?_
            refine r_goto (tgt := 61) dX12_strength_40 (by decide) ?_
            exact r_tope (by rw [hx8, if_neg c1, if_neg c2, if_neg c3, if_neg c4, if_pos c5]) keyx8
      · refine r_iconst (v := 3) dX12_strength_23 rfl ?_
        refine r_goto (tgt := 61) dX12_strength_24 (by decide) ?_
        exact r_tope (by rw [hx8, if_neg c1, if_neg c2, if_pos c3]) keyx8
    · refine r_iconst (v := 2) dX12_strength_14 rfl ?_
      refine r_goto (tgt := 61) dX12_strength_15 (by decide) ?_
      exact r_tope (by rw [hx8, if_neg c1, if_pos c2]) keyx8
  · refine r_iconst (v := 1) dX12_strength_5 rfl ?_
    refine r_goto (tgt := 61) dX12_strength_6 (by decide) ?_
    exact r_tope (by rw [hx8, if_pos c1]) keyx8
def fX12_drops_0 (N : Nat) (v1 : Int32) : Nat → PS → Option (PS)
  | 0, _ => none
  | n + 1, S =>
    (if (S.1 80 23) ≤ 0 then
      some S
    else
      gd (inr ((S.1 80 23) - 1) 950) <|
      bI (fX12_isOpen N (S.1 88 (ix ((S.1 80 23) - 1))) S) fun x3 S4 =>
      (if x3 = 0 then
        gd (inr ((S4.1 80 23) - 1) 950) <|
        bI (fX12_strength N (S4.1 88 (ix ((S4.1 80 23) - 1))) S4) fun x8 S9 =>
        (if x8 < v1 then
          some S9
        else
          lt ((u2 S9.1 80 23 ((S9.1 80 23) - 1), S9.2) : PS) fun S12 =>
          gd (inr (S12.1 80 23) 950) <|
          bV (fX12_puts N (S12.1 88 (ix (S12.1 80 23))) S12) fun S15 =>
          fX12_drops_0 N v1 n  S15)
      else
        some S4))
set_option maxHeartbeats 4000000 in
set_option maxRecDepth 100000 in
theorem okX12_drops_0 (N : Nat) (v1 : Int32) (Q : OQ) (u : Nat) (hu : u ≤ 0) : ∀ (n : Nat)  (S : PS)  (T : PS), fX12_drops_0 N v1 n  S = some T → WP [] mX12_drops 1 0 Q 68 [some (.ref 80), some (.int v1)] [] T u → WP [] mX12_drops 1 0 Q 0 [some (.ref 80), some (.int v1)] [] S u := by
  intro n
  induction n with
  | zero => intro S T h; rw [fX12_drops_0] at h; cases h
  | succ n ih =>
    intro S T h k0
    rw [fX12_drops_0] at h
    refine r_aload_n (x := 80) dX12_drops_0 rfl ?_
    refine r_getfield (o := 80) (v := .int (S.1 80 23)) dX12_drops_1 lX12_189 ck80 nC80 rfl ?_
    refine r_if_le (tgt := 68) dX12_drops_4 (by decide) (fun c1 => ?_) (fun c1 => ?_)
    · rw [if_pos c1] at h
      cases h
      exact k0
    · rw [if_neg c1] at h
      refine r_aload_n (x := 80) dX12_drops_7 rfl ?_
      refine r_getfield (o := 80) (v := .ref 88) dX12_drops_8 lX12_41 ck80 nC80 rfl ?_
      refine r_aload_n (x := 80) dX12_drops_11 rfl ?_
      refine r_getfield (o := 80) (v := .int (S.1 80 23)) dX12_drops_12 lX12_189 ck80 nC80 rfl ?_
      refine r_iconst (v := 1) dX12_drops_15 rfl ?_
      refine r_isub dX12_drops_16 ?_
      obtain ⟨g2, h⟩ := gd_e h
      refine r_iaload (a := 88) dX12_drops_17 ck88 nC88 (inr_IX g2) ?_
      obtain ⟨x3, S4, h5, h⟩ := bI_e h
      refine r_cSI (y := mX12_isOpen) (As := [.int (S.1 88 (ix ((S.1 80 23) - 1)))]) (rest := []) dX12_drops_18 qX12_192 kX12_isOpen rfl (okX12_isOpen N (S.1 88 (ix ((S.1 80 23) - 1))) S x3 S4 h5) (by decide) hu rfl (Nat.le_of_ble_eq_true rfl) ?_
      refine r_if_ne (tgt := 68) dX12_drops_21 (by decide) (fun c6 => ?_) (fun c6 => ?_)
      · rw [if_neg c6] at h
        cases h
        exact k0
      · rw [if_pos c6] at h
        refine r_aload_n (x := 80) dX12_drops_24 rfl ?_
        refine r_getfield (o := 80) (v := .ref 88) dX12_drops_25 lX12_41 ck80 nC80 rfl ?_
        refine r_aload_n (x := 80) dX12_drops_28 rfl ?_
        refine r_getfield (o := 80) (v := .int (S4.1 80 23)) dX12_drops_29 lX12_189 ck80 nC80 rfl ?_
        refine r_iconst (v := 1) dX12_drops_32 rfl ?_
        refine r_isub dX12_drops_33 ?_
        obtain ⟨g7, h⟩ := gd_e h
        refine r_iaload (a := 88) dX12_drops_34 ck88 nC88 (inr_IX g7) ?_
        obtain ⟨x8, S9, h10, h⟩ := bI_e h
        refine r_cSI (y := mX12_strength) (As := [.int (S4.1 88 (ix ((S4.1 80 23) - 1)))]) (rest := []) dX12_drops_35 qX12_195 kX12_strength rfl (okX12_strength N (S4.1 88 (ix ((S4.1 80 23) - 1))) S4 x8 S9 h10) (by decide) hu rfl (Nat.le_of_ble_eq_true rfl) ?_
        refine r_iload_n (x := v1) dX12_drops_38 rfl ?_
        refine r_icmp_lt (tgt := 68) dX12_drops_39 (by decide) (fun c11 => ?_) (fun c11 => ?_)
        · rw [if_pos c11] at h
          cases h
          exact k0
        · rw [if_neg c11] at h
          refine r_aload_n (x := 80) dX12_drops_42 rfl ?_
          refine r_dup_ref dX12_drops_43 ?_
          refine r_getfield (o := 80) (v := .int (S9.1 80 23)) dX12_drops_44 lX12_189 ck80 nC80 rfl ?_
          refine r_iconst (v := 1) dX12_drops_47 rfl ?_
          refine r_isub dX12_drops_48 ?_
          refine r_putI dX12_drops_49 lX12_189 ck80 nC80 ?_
          refine r_topS (fun S12 hS12 => ?_)
          replace h := lt_e hS12 h
          refine r_aload_n (x := 80) dX12_drops_52 rfl ?_
          refine r_aload_n (x := 80) dX12_drops_53 rfl ?_
          refine r_getfield (o := 80) (v := .ref 88) dX12_drops_54 lX12_41 ck80 nC80 rfl ?_
          refine r_aload_n (x := 80) dX12_drops_57 rfl ?_
          refine r_getfield (o := 80) (v := .int (S12.1 80 23)) dX12_drops_58 lX12_189 ck80 nC80 rfl ?_
          obtain ⟨g13, h⟩ := gd_e h
          refine r_iaload (a := 88) dX12_drops_61 ck88 nC88 (inr_IX g13) ?_
          obtain ⟨S15, h16, h⟩ := bV_e h
          refine r_cVV (y := mX12_puts) (As := [.int (S12.1 88 (ix (S12.1 80 23)))]) (rest := []) dX12_drops_62 qX12_198 kX12_puts rfl ob80 vc12 rfl (okX12_puts N (S12.1 88 (ix (S12.1 80 23))) S12 S15 h16) (by decide) hu rfl (Nat.le_of_ble_eq_true rfl) ?_
          refine r_goto (tgt := 0) dX12_drops_65 (by decide) ?_
          exact ih _ _ h k0
def fX12_drops (N : Nat) (p0 : Int32) (S : PS) : Option PS :=
  bT (fX12_drops_0 N p0 N  S) fun S18 =>
  some S18
set_option maxHeartbeats 4000000 in
set_option maxRecDepth 100000 in
theorem okX12_drops (N : Nat) (p0 : Int32) (S : PS) (T : PS) (h : fX12_drops N p0 S = some T) : CT mX12_drops 1 0 [.ref 80, .int p0] S (qV T) := by
  refine ct_of [some (.ref 80), some (.int p0)] rfl (fun _ => rfl) (fun _ => Nat.le_of_ble_eq_true rfl) ?_
  unfold fX12_drops at h
  obtain ⟨S18, h20, h⟩ := bT_e h
  refine okX12_drops_0 N p0 (qV T) 0 (Nat.zero_le _) _ _ _ h20 ?_
  cases h
  exact r_return dX12_drops_68 rfl (Nat.zero_le _) ⟨rfl, rfl⟩
def fX12_waitsFor (N : Nat) (p0 : Int32) (S : PS) : Option PS :=
  gd (inr (S.1 80 23) 950) <|
  lt ((u2 S.1 88 (ix (S.1 80 23)) p0, S.2) : PS) fun S2 =>
  lt ((u2 S2.1 80 23 ((S2.1 80 23) + 1), S2.2) : PS) fun S3 =>
  some S3
set_option maxHeartbeats 4000000 in
set_option maxRecDepth 100000 in
theorem okX12_waitsFor (N : Nat) (p0 : Int32) (S : PS) (T : PS) (h : fX12_waitsFor N p0 S = some T) : CT mX12_waitsFor 0 0 [.ref 80, .int p0] S (qV T) := by
  refine ct_of [some (.ref 80), some (.int p0)] rfl (fun _ => rfl) (fun _ => Nat.le_of_ble_eq_true rfl) ?_
  unfold fX12_waitsFor at h
  refine r_aload_n (x := 80) dX12_waitsFor_0 rfl ?_
  refine r_getfield (o := 80) (v := .ref 88) dX12_waitsFor_1 lX12_41 ck80 nC80 rfl ?_
  refine r_aload_n (x := 80) dX12_waitsFor_4 rfl ?_
  refine r_getfield (o := 80) (v := .int (S.1 80 23)) dX12_waitsFor_5 lX12_189 ck80 nC80 rfl ?_
  refine r_iload_n (x := p0) dX12_waitsFor_8 rfl ?_
  obtain ⟨g1, h⟩ := gd_e h
  refine r_iastore (a := 88) dX12_waitsFor_9 ck88 nC88 (inr_IX g1) ?_
  refine r_topS (fun S2 hS2 => ?_)
  replace h := lt_e hS2 h
  refine r_aload_n (x := 80) dX12_waitsFor_10 rfl ?_
  refine r_dup_ref dX12_waitsFor_11 ?_
  refine r_getfield (o := 80) (v := .int (S2.1 80 23)) dX12_waitsFor_12 lX12_189 ck80 nC80 rfl ?_
  refine r_iconst (v := 1) dX12_waitsFor_15 rfl ?_
  refine r_iadd dX12_waitsFor_16 ?_
  refine r_putI dX12_waitsFor_17 lX12_189 ck80 nC80 ?_
  refine r_topS (fun S3 hS3 => ?_)
  replace h := lt_e hS3 h
  cases h
  exact r_return dX12_waitsFor_20 rfl (Nat.zero_le _) ⟨rfl, rfl⟩
def fX12_part (N : Nat)  (S : PS) : Option PS :=
  bI (fX12_isGood N  S) fun x1 S2 =>
  (if x1 = 0 then
    some S2
  else
    (if (S2.1 80 13) = 2 then
      (if (S2.1 80 15) ≤ 4 then
        bV (fX12_puts N 1 S2) fun S69 =>
        bV (fX12_puts N (S69.1 80 16) S69) fun S72 =>
        bI (fX12_isGood N  S72) fun x74 S75 =>
        (if x74 = 0 then
          some S75
        else
          bV (fX12_goes N  S75) fun S79 =>
          some S79)
      else
        bV (fX12_wrong N 2 S2) fun S82 =>
        bV (fX12_puts N 1 S82) fun S85 =>
        bV (fX12_puts N (S85.1 80 16) S85) fun S88 =>
        bI (fX12_isGood N  S88) fun x90 S91 =>
        (if x90 = 0 then
          some S91
        else
          bV (fX12_goes N  S91) fun S95 =>
          some S95))
    else
      (if (S2.1 80 13) = 1 then
        bI (fX12_knownWord N  S2) fun x17 S18 =>
        (if x17 < 0 then
          bV (fX12_wrong N 3 S18) fun S22 =>
          bV (fX12_puts N 2 S22) fun S25 =>
          bV (fX12_puts N x17 S25) fun S28 =>
          bI (fX12_isGood N  S28) fun x30 S31 =>
          (if x30 = 0 then
            some S31
          else
            bV (fX12_goes N  S31) fun S35 =>
            some S35)
        else
          (if x17 ≤ 5 then
            bV (fX12_puts N 2 S18) fun S39 =>
            bV (fX12_puts N x17 S39) fun S42 =>
            bI (fX12_isGood N  S42) fun x44 S45 =>
            (if x44 = 0 then
              some S45
            else
              bV (fX12_goes N  S45) fun S49 =>
              some S49)
          else
            bV (fX12_wrong N 3 S18) fun S52 =>
            bV (fX12_puts N 2 S52) fun S55 =>
            bV (fX12_puts N x17 S55) fun S58 =>
            bI (fX12_isGood N  S58) fun x60 S61 =>
            (if x60 = 0 then
              some S61
            else
              bV (fX12_goes N  S61) fun S65 =>
              some S65)))
      else
        bV (fX12_wrong N 1 S2) fun S8 =>
        bI (fX12_isGood N  S8) fun x10 S11 =>
        (if x10 = 0 then
          some S11
        else
          bV (fX12_goes N  S11) fun S15 =>
          some S15))))
set_option maxHeartbeats 4000000 in
set_option maxRecDepth 100000 in
theorem okX12_part (N : Nat)  (S : PS) (T : PS) (h : fX12_part N  S = some T) : CT mX12_part 3 0 [.ref 80] S (qV T) := by
  refine ct_of [some (.ref 80), none] rfl (fun _ => rfl) (fun _ => Nat.le_of_ble_eq_true rfl) ?_
  unfold fX12_part at h
  refine r_aload_n (x := 80) dX12_part_0 rfl ?_
  obtain ⟨x1, S2, h3, h⟩ := bI_e h
  refine r_cVI (y := mX12_isGood) (As := []) (rest := []) dX12_part_1 qX12_173 kX12_isGood rfl ob80 vc12 rfl (okX12_isGood N  S x1 S2 h3) (by decide) (Nat.zero_le _) rfl (Nat.le_of_ble_eq_true rfl) ?_
  refine r_if_ne (tgt := 8) dX12_part_4 (by decide) (fun c4 => ?_) (fun c4 => ?_)
  · rw [if_neg c4] at h
    refine r_aload_n (x := 80) dX12_part_8 rfl ?_
    refine r_getfield (o := 80) (v := .int (S2.1 80 13)) dX12_part_9 lX12_147 ck80 nC80 rfl ?_
    refine r_iconst (v := 2) dX12_part_12 rfl ?_
    refine r_icmp_ne (tgt := 45) dX12_part_13 (by decide) (fun c5 => ?_) (fun c5 => ?_)
    · rw [if_neg c5] at h
      refine r_aload_n (x := 80) dX12_part_45 rfl ?_
      refine r_getfield (o := 80) (v := .int (S2.1 80 13)) dX12_part_46 lX12_147 ck80 nC80 rfl ?_
      refine r_iconst (v := 1) dX12_part_49 rfl ?_
      refine r_icmp_ne (tgt := 85) dX12_part_50 (by decide) (fun c6 => ?_) (fun c6 => ?_)
      · rw [if_neg c6] at h
        refine r_aload_n (x := 80) dX12_part_85 rfl ?_
        refine r_iconst (v := 1) dX12_part_86 rfl ?_
        obtain ⟨S8, h9, h⟩ := bV_e h
        refine r_cVV (y := mX12_wrong) (As := [.int 1]) (rest := []) dX12_part_87 qX12_180 kX12_wrong rfl ob80 vc12 rfl (okX12_wrong N 1 S2 S8 h9) (by decide) (Nat.zero_le _) rfl (Nat.le_of_ble_eq_true rfl) ?_
        refine r_aload_n (x := 80) dX12_part_90 rfl ?_
        obtain ⟨x10, S11, h12, h⟩ := bI_e h
        refine r_cVI (y := mX12_isGood) (As := []) (rest := []) dX12_part_91 qX12_173 kX12_isGood rfl ob80 vc12 rfl (okX12_isGood N  S8 x10 S11 h12) (by decide) (Nat.zero_le _) rfl (Nat.le_of_ble_eq_true rfl) ?_
        refine r_if_eq (tgt := 101) dX12_part_94 (by decide) (fun c13 => ?_) (fun c13 => ?_)
        · rw [if_pos c13] at h
          cases h
          exact r_return dX12_part_101 rfl (Nat.zero_le _) ⟨rfl, rfl⟩
        · rw [if_neg c13] at h
          refine r_aload_n (x := 80) dX12_part_97 rfl ?_
          obtain ⟨S15, h16, h⟩ := bV_e h
          refine r_cVV (y := mX12_goes) (As := []) (rest := []) dX12_part_98 qX12_177 kX12_goes rfl ob80 vc12 rfl (okX12_goes N  S11 S15 h16) (by decide) (Nat.zero_le _) rfl (Nat.le_of_ble_eq_true rfl) ?_
          cases h
          exact r_return dX12_part_101 rfl (Nat.zero_le _) ⟨rfl, rfl⟩
      · rw [if_pos c6] at h
        refine r_aload_n (x := 80) dX12_part_53 rfl ?_
        obtain ⟨x17, S18, h19, h⟩ := bI_e h
        refine r_cVI (y := mX12_knownWord) (As := []) (rest := []) dX12_part_54 qX12_201 kX12_knownWord rfl ob80 vc12 rfl (okX12_knownWord N  S2 x17 S18 h19) (by decide) (Nat.zero_le _) rfl (Nat.le_of_ble_eq_true rfl) ?_
        refine r_istore_n (L' := [some (.ref 80), some (.int x17)]) dX12_part_57 (Nat.le_of_ble_eq_true rfl) rfl rfl ?_
        refine r_iload_n (x := x17) dX12_part_58 rfl ?_
        refine r_if_lt (tgt := 67) dX12_part_59 (by decide) (fun c20 => ?_) (fun c20 => ?_)
        · rw [if_pos c20] at h
          refine r_aload_n (x := 80) dX12_part_67 rfl ?_
          refine r_iconst (v := 3) dX12_part_68 rfl ?_
          obtain ⟨S22, h23, h⟩ := bV_e h
          refine r_cVV (y := mX12_wrong) (As := [.int 3]) (rest := []) dX12_part_69 qX12_180 kX12_wrong rfl ob80 vc12 rfl (okX12_wrong N 3 S18 S22 h23) (by decide) (Nat.zero_le _) rfl (Nat.le_of_ble_eq_true rfl) ?_
          refine r_aload_n (x := 80) dX12_part_72 rfl ?_
          refine r_iconst (v := 2) dX12_part_73 rfl ?_
          obtain ⟨S25, h26, h⟩ := bV_e h
          refine r_cVV (y := mX12_puts) (As := [.int 2]) (rest := []) dX12_part_74 qX12_198 kX12_puts rfl ob80 vc12 rfl (okX12_puts N 2 S22 S25 h26) (by decide) (Nat.zero_le _) rfl (Nat.le_of_ble_eq_true rfl) ?_
          refine r_aload_n (x := 80) dX12_part_77 rfl ?_
          refine r_iload_n (x := x17) dX12_part_78 rfl ?_
          obtain ⟨S28, h29, h⟩ := bV_e h
          refine r_cVV (y := mX12_puts) (As := [.int x17]) (rest := []) dX12_part_79 qX12_198 kX12_puts rfl ob80 vc12 rfl (okX12_puts N x17 S25 S28 h29) (by decide) (Nat.zero_le _) rfl (Nat.le_of_ble_eq_true rfl) ?_
          refine r_goto (tgt := 90) dX12_part_82 (by decide) ?_
          refine r_aload_n (x := 80) dX12_part_90 rfl ?_
          obtain ⟨x30, S31, h32, h⟩ := bI_e h
          refine r_cVI (y := mX12_isGood) (As := []) (rest := []) dX12_part_91 qX12_173 kX12_isGood rfl ob80 vc12 rfl (okX12_isGood N  S28 x30 S31 h32) (by decide) (Nat.zero_le _) rfl (Nat.le_of_ble_eq_true rfl) ?_
          refine r_if_eq (tgt := 101) dX12_part_94 (by decide) (fun c33 => ?_) (fun c33 => ?_)
          · rw [if_pos c33] at h
            cases h
            exact r_return dX12_part_101 rfl (Nat.zero_le _) ⟨rfl, rfl⟩
          · rw [if_neg c33] at h
            refine r_aload_n (x := 80) dX12_part_97 rfl ?_
            obtain ⟨S35, h36, h⟩ := bV_e h
            refine r_cVV (y := mX12_goes) (As := []) (rest := []) dX12_part_98 qX12_177 kX12_goes rfl ob80 vc12 rfl (okX12_goes N  S31 S35 h36) (by decide) (Nat.zero_le _) rfl (Nat.le_of_ble_eq_true rfl) ?_
            cases h
            exact r_return dX12_part_101 rfl (Nat.zero_le _) ⟨rfl, rfl⟩
        · rw [if_neg c20] at h
          refine r_iload_n (x := x17) dX12_part_62 rfl ?_
          refine r_iconst (v := 5) dX12_part_63 rfl ?_
          refine r_icmp_le (tgt := 72) dX12_part_64 (by decide) (fun c37 => ?_) (fun c37 => ?_)
          · rw [if_pos c37] at h
            refine r_aload_n (x := 80) dX12_part_72 rfl ?_
            refine r_iconst (v := 2) dX12_part_73 rfl ?_
            obtain ⟨S39, h40, h⟩ := bV_e h
            refine r_cVV (y := mX12_puts) (As := [.int 2]) (rest := []) dX12_part_74 qX12_198 kX12_puts rfl ob80 vc12 rfl (okX12_puts N 2 S18 S39 h40) (by decide) (Nat.zero_le _) rfl (Nat.le_of_ble_eq_true rfl) ?_
            refine r_aload_n (x := 80) dX12_part_77 rfl ?_
            refine r_iload_n (x := x17) dX12_part_78 rfl ?_
            obtain ⟨S42, h43, h⟩ := bV_e h
            refine r_cVV (y := mX12_puts) (As := [.int x17]) (rest := []) dX12_part_79 qX12_198 kX12_puts rfl ob80 vc12 rfl (okX12_puts N x17 S39 S42 h43) (by decide) (Nat.zero_le _) rfl (Nat.le_of_ble_eq_true rfl) ?_
            refine r_goto (tgt := 90) dX12_part_82 (by decide) ?_
            refine r_aload_n (x := 80) dX12_part_90 rfl ?_
            obtain ⟨x44, S45, h46, h⟩ := bI_e h
            refine r_cVI (y := mX12_isGood) (As := []) (rest := []) dX12_part_91 qX12_173 kX12_isGood rfl ob80 vc12 rfl (okX12_isGood N  S42 x44 S45 h46) (by decide) (Nat.zero_le _) rfl (Nat.le_of_ble_eq_true rfl) ?_
            refine r_if_eq (tgt := 101) dX12_part_94 (by decide) (fun c47 => ?_) (fun c47 => ?_)
            · rw [if_pos c47] at h
              cases h
              exact r_return dX12_part_101 rfl (Nat.zero_le _) ⟨rfl, rfl⟩
            · rw [if_neg c47] at h
              refine r_aload_n (x := 80) dX12_part_97 rfl ?_
              obtain ⟨S49, h50, h⟩ := bV_e h
              refine r_cVV (y := mX12_goes) (As := []) (rest := []) dX12_part_98 qX12_177 kX12_goes rfl ob80 vc12 rfl (okX12_goes N  S45 S49 h50) (by decide) (Nat.zero_le _) rfl (Nat.le_of_ble_eq_true rfl) ?_
              cases h
              exact r_return dX12_part_101 rfl (Nat.zero_le _) ⟨rfl, rfl⟩
          · rw [if_neg c37] at h
            refine r_aload_n (x := 80) dX12_part_67 rfl ?_
            refine r_iconst (v := 3) dX12_part_68 rfl ?_
            obtain ⟨S52, h53, h⟩ := bV_e h
            refine r_cVV (y := mX12_wrong) (As := [.int 3]) (rest := []) dX12_part_69 qX12_180 kX12_wrong rfl ob80 vc12 rfl (okX12_wrong N 3 S18 S52 h53) (by decide) (Nat.zero_le _) rfl (Nat.le_of_ble_eq_true rfl) ?_
            refine r_aload_n (x := 80) dX12_part_72 rfl ?_
            refine r_iconst (v := 2) dX12_part_73 rfl ?_
            obtain ⟨S55, h56, h⟩ := bV_e h
            refine r_cVV (y := mX12_puts) (As := [.int 2]) (rest := []) dX12_part_74 qX12_198 kX12_puts rfl ob80 vc12 rfl (okX12_puts N 2 S52 S55 h56) (by decide) (Nat.zero_le _) rfl (Nat.le_of_ble_eq_true rfl) ?_
            refine r_aload_n (x := 80) dX12_part_77 rfl ?_
            refine r_iload_n (x := x17) dX12_part_78 rfl ?_
            obtain ⟨S58, h59, h⟩ := bV_e h
            refine r_cVV (y := mX12_puts) (As := [.int x17]) (rest := []) dX12_part_79 qX12_198 kX12_puts rfl ob80 vc12 rfl (okX12_puts N x17 S55 S58 h59) (by decide) (Nat.zero_le _) rfl (Nat.le_of_ble_eq_true rfl) ?_
            refine r_goto (tgt := 90) dX12_part_82 (by decide) ?_
            refine r_aload_n (x := 80) dX12_part_90 rfl ?_
            obtain ⟨x60, S61, h62, h⟩ := bI_e h
            refine r_cVI (y := mX12_isGood) (As := []) (rest := []) dX12_part_91 qX12_173 kX12_isGood rfl ob80 vc12 rfl (okX12_isGood N  S58 x60 S61 h62) (by decide) (Nat.zero_le _) rfl (Nat.le_of_ble_eq_true rfl) ?_
            refine r_if_eq (tgt := 101) dX12_part_94 (by decide) (fun c63 => ?_) (fun c63 => ?_)
            · rw [if_pos c63] at h
              cases h
              exact r_return dX12_part_101 rfl (Nat.zero_le _) ⟨rfl, rfl⟩
            · rw [if_neg c63] at h
              refine r_aload_n (x := 80) dX12_part_97 rfl ?_
              obtain ⟨S65, h66, h⟩ := bV_e h
              refine r_cVV (y := mX12_goes) (As := []) (rest := []) dX12_part_98 qX12_177 kX12_goes rfl ob80 vc12 rfl (okX12_goes N  S61 S65 h66) (by decide) (Nat.zero_le _) rfl (Nat.le_of_ble_eq_true rfl) ?_
              cases h
              exact r_return dX12_part_101 rfl (Nat.zero_le _) ⟨rfl, rfl⟩
    · rw [if_pos c5] at h
      refine r_aload_n (x := 80) dX12_part_16 rfl ?_
      refine r_getfield (o := 80) (v := .int (S2.1 80 15)) dX12_part_17 lX12_157 ck80 nC80 rfl ?_
      refine r_iconst (v := 4) dX12_part_20 rfl ?_
      refine r_icmp_le (tgt := 29) dX12_part_21 (by decide) (fun c67 => ?_) (fun c67 => ?_)
      · rw [if_pos c67] at h
        refine r_aload_n (x := 80) dX12_part_29 rfl ?_
        refine r_iconst (v := 1) dX12_part_30 rfl ?_
        obtain ⟨S69, h70, h⟩ := bV_e h
        refine r_cVV (y := mX12_puts) (As := [.int 1]) (rest := []) dX12_part_31 qX12_198 kX12_puts rfl ob80 vc12 rfl (okX12_puts N 1 S2 S69 h70) (by decide) (Nat.zero_le _) rfl (Nat.le_of_ble_eq_true rfl) ?_
        refine r_aload_n (x := 80) dX12_part_34 rfl ?_
        refine r_aload_n (x := 80) dX12_part_35 rfl ?_
        refine r_getfield (o := 80) (v := .int (S69.1 80 16)) dX12_part_36 lX12_141 ck80 nC80 rfl ?_
        obtain ⟨S72, h73, h⟩ := bV_e h
        refine r_cVV (y := mX12_puts) (As := [.int (S69.1 80 16)]) (rest := []) dX12_part_39 qX12_198 kX12_puts rfl ob80 vc12 rfl (okX12_puts N (S69.1 80 16) S69 S72 h73) (by decide) (Nat.zero_le _) rfl (Nat.le_of_ble_eq_true rfl) ?_
        refine r_goto (tgt := 90) dX12_part_42 (by decide) ?_
        refine r_aload_n (x := 80) dX12_part_90 rfl ?_
        obtain ⟨x74, S75, h76, h⟩ := bI_e h
        refine r_cVI (y := mX12_isGood) (As := []) (rest := []) dX12_part_91 qX12_173 kX12_isGood rfl ob80 vc12 rfl (okX12_isGood N  S72 x74 S75 h76) (by decide) (Nat.zero_le _) rfl (Nat.le_of_ble_eq_true rfl) ?_
        refine r_if_eq (tgt := 101) dX12_part_94 (by decide) (fun c77 => ?_) (fun c77 => ?_)
        · rw [if_pos c77] at h
          cases h
          exact r_return dX12_part_101 rfl (Nat.zero_le _) ⟨rfl, rfl⟩
        · rw [if_neg c77] at h
          refine r_aload_n (x := 80) dX12_part_97 rfl ?_
          obtain ⟨S79, h80, h⟩ := bV_e h
          refine r_cVV (y := mX12_goes) (As := []) (rest := []) dX12_part_98 qX12_177 kX12_goes rfl ob80 vc12 rfl (okX12_goes N  S75 S79 h80) (by decide) (Nat.zero_le _) rfl (Nat.le_of_ble_eq_true rfl) ?_
          cases h
          exact r_return dX12_part_101 rfl (Nat.zero_le _) ⟨rfl, rfl⟩
      · rw [if_neg c67] at h
        refine r_aload_n (x := 80) dX12_part_24 rfl ?_
        refine r_iconst (v := 2) dX12_part_25 rfl ?_
        obtain ⟨S82, h83, h⟩ := bV_e h
        refine r_cVV (y := mX12_wrong) (As := [.int 2]) (rest := []) dX12_part_26 qX12_180 kX12_wrong rfl ob80 vc12 rfl (okX12_wrong N 2 S2 S82 h83) (by decide) (Nat.zero_le _) rfl (Nat.le_of_ble_eq_true rfl) ?_
        refine r_aload_n (x := 80) dX12_part_29 rfl ?_
        refine r_iconst (v := 1) dX12_part_30 rfl ?_
        obtain ⟨S85, h86, h⟩ := bV_e h
        refine r_cVV (y := mX12_puts) (As := [.int 1]) (rest := []) dX12_part_31 qX12_198 kX12_puts rfl ob80 vc12 rfl (okX12_puts N 1 S82 S85 h86) (by decide) (Nat.zero_le _) rfl (Nat.le_of_ble_eq_true rfl) ?_
        refine r_aload_n (x := 80) dX12_part_34 rfl ?_
        refine r_aload_n (x := 80) dX12_part_35 rfl ?_
        refine r_getfield (o := 80) (v := .int (S85.1 80 16)) dX12_part_36 lX12_141 ck80 nC80 rfl ?_
        obtain ⟨S88, h89, h⟩ := bV_e h
        refine r_cVV (y := mX12_puts) (As := [.int (S85.1 80 16)]) (rest := []) dX12_part_39 qX12_198 kX12_puts rfl ob80 vc12 rfl (okX12_puts N (S85.1 80 16) S85 S88 h89) (by decide) (Nat.zero_le _) rfl (Nat.le_of_ble_eq_true rfl) ?_
        refine r_goto (tgt := 90) dX12_part_42 (by decide) ?_
        refine r_aload_n (x := 80) dX12_part_90 rfl ?_
        obtain ⟨x90, S91, h92, h⟩ := bI_e h
        refine r_cVI (y := mX12_isGood) (As := []) (rest := []) dX12_part_91 qX12_173 kX12_isGood rfl ob80 vc12 rfl (okX12_isGood N  S88 x90 S91 h92) (by decide) (Nat.zero_le _) rfl (Nat.le_of_ble_eq_true rfl) ?_
        refine r_if_eq (tgt := 101) dX12_part_94 (by decide) (fun c93 => ?_) (fun c93 => ?_)
        · rw [if_pos c93] at h
          cases h
          exact r_return dX12_part_101 rfl (Nat.zero_le _) ⟨rfl, rfl⟩
        · rw [if_neg c93] at h
          refine r_aload_n (x := 80) dX12_part_97 rfl ?_
          obtain ⟨S95, h96, h⟩ := bV_e h
          refine r_cVV (y := mX12_goes) (As := []) (rest := []) dX12_part_98 qX12_177 kX12_goes rfl ob80 vc12 rfl (okX12_goes N  S91 S95 h96) (by decide) (Nat.zero_le _) rfl (Nat.le_of_ble_eq_true rfl) ?_
          cases h
          exact r_return dX12_part_101 rfl (Nat.zero_le _) ⟨rfl, rfl⟩
  · rw [if_pos c4] at h
    cases h
    exact r_return dX12_part_7 rfl (Nat.zero_le _) ⟨rfl, rfl⟩
def fX12_deeper (N : Nat)  (S : PS) : Option PS :=
  (if 6 ≤ (S.1 80 24) then
    (if (S.1 80 13) = 2 then
      bV (fX12_wrong N 2 S) fun S4 =>
      some S4
    else
      (if (S.1 80 13) = 1 then
        bV (fX12_wrong N 2 S) fun S8 =>
        some S8
      else
        bI (fX12_isSign N 40 S) fun x10 S11 =>
        lt ((if x10 = 0 then 1 else 2) : Int32) fun x14 =>
        bV (fX12_wrong N x14 S11) fun S16 =>
        some S16))
  else
    lt ((u2 S.1 80 24 ((S.1 80 24) + 1), S.2) : PS) fun S18 =>
    gd (inr (S18.1 80 24) 9) <|
    lt ((u2 S18.1 89 (ix (S18.1 80 24)) 0, S18.2) : PS) fun S20 =>
    some S20)
set_option maxHeartbeats 4000000 in
set_option maxRecDepth 100000 in
theorem okX12_deeper (N : Nat)  (S : PS) (T : PS) (h : fX12_deeper N  S = some T) : CT mX12_deeper 1 0 [.ref 80] S (qV T) := by
  refine ct_of [some (.ref 80)] rfl (fun _ => rfl) (fun _ => Nat.le_of_ble_eq_true rfl) ?_
  unfold fX12_deeper at h
  refine r_aload_n (x := 80) dX12_deeper_0 rfl ?_
  refine r_getfield (o := 80) (v := .int (S.1 80 24)) dX12_deeper_1 lX12_205 ck80 nC80 rfl ?_
  refine r_bipush (v := 6) dX12_deeper_4 rfl ?_
  refine r_icmp_ge (tgt := 30) dX12_deeper_6 (by decide) (fun c1 => ?_) (fun c1 => ?_)
  · rw [if_pos c1] at h
    refine r_aload_n (x := 80) dX12_deeper_30 rfl ?_
    refine r_aload_n (x := 80) dX12_deeper_31 rfl ?_
    refine r_getfield (o := 80) (v := .int (S.1 80 13)) dX12_deeper_32 lX12_147 ck80 nC80 rfl ?_
    refine r_iconst (v := 2) dX12_deeper_35 rfl ?_
    refine r_icmp_eq (tgt := 56) dX12_deeper_36 (by decide) (fun c2 => ?_) (fun c2 => ?_)
    · rw [if_pos c2] at h
      refine r_iconst (v := 2) dX12_deeper_56 rfl ?_
      refine r_goto (tgt := 61) dX12_deeper_57 (by decide) ?_
      obtain ⟨S4, h5, h⟩ := bV_e h
      refine r_cVV (y := mX12_wrong) (As := [.int 2]) (rest := []) dX12_deeper_61 qX12_180 kX12_wrong rfl ob80 vc12 rfl (okX12_wrong N 2 S S4 h5) (by decide) (Nat.zero_le _) rfl (Nat.le_of_ble_eq_true rfl) ?_
      cases h
      exact r_return dX12_deeper_64 rfl (Nat.zero_le _) ⟨rfl, rfl⟩
    · rw [if_neg c2] at h
      refine r_aload_n (x := 80) dX12_deeper_39 rfl ?_
      refine r_getfield (o := 80) (v := .int (S.1 80 13)) dX12_deeper_40 lX12_147 ck80 nC80 rfl ?_
      refine r_iconst (v := 1) dX12_deeper_43 rfl ?_
      refine r_icmp_eq (tgt := 56) dX12_deeper_44 (by decide) (fun c6 => ?_) (fun c6 => ?_)
      · rw [if_pos c6] at h
        refine r_iconst (v := 2) dX12_deeper_56 rfl ?_
        refine r_goto (tgt := 61) dX12_deeper_57 (by decide) ?_
        obtain ⟨S8, h9, h⟩ := bV_e h
        refine r_cVV (y := mX12_wrong) (As := [.int 2]) (rest := []) dX12_deeper_61 qX12_180 kX12_wrong rfl ob80 vc12 rfl (okX12_wrong N 2 S S8 h9) (by decide) (Nat.zero_le _) rfl (Nat.le_of_ble_eq_true rfl) ?_
        cases h
        exact r_return dX12_deeper_64 rfl (Nat.zero_le _) ⟨rfl, rfl⟩
      · rw [if_neg c6] at h
        refine r_aload_n (x := 80) dX12_deeper_47 rfl ?_
        refine r_bipush (v := 40) dX12_deeper_48 rfl ?_
        obtain ⟨x10, S11, h12, h⟩ := bI_e h
        refine r_cVI (y := mX12_isSign) (As := [.int 40]) (rest := [.ref 80]) dX12_deeper_50 qX12_208 kX12_isSign rfl ob80 vc12 rfl (okX12_isSign N 40 S x10 S11 h12) (by decide) (Nat.zero_le _) rfl (Nat.le_of_ble_eq_true rfl) ?_
        obtain ⟨x14, hx14⟩ : ∃ y : Int32, y = ((if x10 = 0 then 1 else 2) : Int32) := ⟨_, rfl⟩
        replace h := lt_e hx14 h
        have keyx14 : WP [] mX12_deeper 1 0 (qV T) 61 [some (.ref 80)] (.int x14 :: [.ref 80]) S11 0 := by
          obtain ⟨S16, h17, h⟩ := bV_e h
          refine r_cVV (y := mX12_wrong) (As := [.int x14]) (rest := []) dX12_deeper_61 qX12_180 kX12_wrong rfl ob80 vc12 rfl (okX12_wrong N x14 S11 S16 h17) (by decide) (Nat.zero_le _) rfl (Nat.le_of_ble_eq_true rfl) ?_
          cases h
          exact r_return dX12_deeper_64 rfl (Nat.zero_le _) ⟨rfl, rfl⟩
        refine r_if_eq (tgt := 60) dX12_deeper_53 (by decide) (fun c13 => ?_) (fun c13 => ?_)
        · refine r_iconst (v := 1) dX12_deeper_60 rfl ?_
          exact r_tope (by rw [hx14, if_pos c13]) keyx14
        · refine r_iconst (v := 2) dX12_deeper_56 rfl ?_
          refine r_goto (tgt := 61) dX12_deeper_57 (by decide) ?_
          exact r_tope (by rw [hx14, if_neg c13]) keyx14
  · rw [if_neg c1] at h
    refine r_aload_n (x := 80) dX12_deeper_9 rfl ?_
    refine r_dup_ref dX12_deeper_10 ?_
    refine r_getfield (o := 80) (v := .int (S.1 80 24)) dX12_deeper_11 lX12_205 ck80 nC80 rfl ?_
    refine r_iconst (v := 1) dX12_deeper_14 rfl ?_
    refine r_iadd dX12_deeper_15 ?_
    refine r_putI dX12_deeper_16 lX12_205 ck80 nC80 ?_
    refine r_topS (fun S18 hS18 => ?_)
    replace h := lt_e hS18 h
    refine r_aload_n (x := 80) dX12_deeper_19 rfl ?_
    refine r_getfield (o := 80) (v := .ref 89) dX12_deeper_20 lX12_44 ck80 nC80 rfl ?_
    refine r_aload_n (x := 80) dX12_deeper_23 rfl ?_
    refine r_getfield (o := 80) (v := .int (S18.1 80 24)) dX12_deeper_24 lX12_205 ck80 nC80 rfl ?_
    refine r_iconst (v := 0) dX12_deeper_27 rfl ?_
    obtain ⟨g19, h⟩ := gd_e h
    refine r_zastore (a := 89) dX12_deeper_28 ck89 nC89 (inr_IX g19) (by decide) ?_
    refine r_topS (fun S20 hS20 => ?_)
    replace h := lt_e hS20 h
    cases h
    exact r_return dX12_deeper_29 rfl (Nat.zero_le _) ⟨rfl, rfl⟩
def fX12_operand_18 (N : Nat) (v1 : Int32) (v2 : Int32) (v3 : Int32) : Nat → Int32 → PS → Option (Int32 × PS)
  | 0, _, _ => none
  | n + 1, v4, S =>
    bI (fX12_isGood N  S) fun x6 S7 =>
    (if x6 = 0 then
      some (v4, S7)
    else
      (if v2 = 0 then
        some (v4, S7)
      else
        bI (fX12_knownWord N  S7) fun x11 S12 =>
        (if x11 = 11 then
          (if v4 = 6 then
            bV (fX12_wrong N 2 S12) fun S28 =>
            lt (v4 + 1 : Int32) fun x30 =>
            bI (fX12_isGood N  S28) fun x31 S32 =>
            (if x31 = 0 then
              fX12_operand_18 N v1 v2 v3 n x30 S32
            else
              bV (fX12_waitsFor N 3 S32) fun S36 =>
              bV (fX12_goes N  S36) fun S39 =>
              fX12_operand_18 N v1 v2 v3 n x30 S39)
          else
            lt (v4 + 1 : Int32) fun x16 =>
            bI (fX12_isGood N  S12) fun x17 S18 =>
            (if x17 = 0 then
              fX12_operand_18 N v1 v2 v3 n x16 S18
            else
              bV (fX12_waitsFor N 3 S18) fun S22 =>
              bV (fX12_goes N  S22) fun S25 =>
              fX12_operand_18 N v1 v2 v3 n x16 S25))
        else
          some (v4, S12))))
set_option maxHeartbeats 4000000 in
set_option maxRecDepth 100000 in
theorem okX12_operand_18 (N : Nat) (v1 : Int32) (v2 : Int32) (v3 : Int32) (Q : OQ) (u : Nat) (hu : u ≤ 0) : ∀ (n : Nat) (v4 : Int32) (S : PS) (y4 : Int32) (T : PS), fX12_operand_18 N v1 v2 v3 n v4 S = some (y4, T) → WP [] mX12_operand 4 0 Q 75 [some (.ref 80), some (.int v1), some (.int v2), some (.int v3), some (.int y4)] [] T u → WP [] mX12_operand 4 0 Q 18 [some (.ref 80), some (.int v1), some (.int v2), some (.int v3), some (.int v4)] [] S u := by
  intro n
  induction n with
  | zero => intro v4 S y4 T h; rw [fX12_operand_18] at h; cases h
  | succ n ih =>
    intro v4 S y4 T h k0
    rw [fX12_operand_18] at h
    refine r_aload_n (x := 80) dX12_operand_18 rfl ?_
    obtain ⟨x6, S7, h8, h⟩ := bI_e h
    refine r_cVI (y := mX12_isGood) (As := []) (rest := []) dX12_operand_19 qX12_173 kX12_isGood rfl ob80 vc12 rfl (okX12_isGood N  S x6 S7 h8) (by decide) hu rfl (Nat.le_of_ble_eq_true rfl) ?_
    refine r_if_eq (tgt := 75) dX12_operand_22 (by decide) (fun c9 => ?_) (fun c9 => ?_)
    · rw [if_pos c9] at h
      cases h
      exact k0
    · rw [if_neg c9] at h
      refine r_iload_n (x := v2) dX12_operand_25 rfl ?_
      refine r_if_eq (tgt := 75) dX12_operand_26 (by decide) (fun c10 => ?_) (fun c10 => ?_)
      · rw [if_pos c10] at h
        cases h
        exact k0
      · rw [if_neg c10] at h
        refine r_aload_n (x := 80) dX12_operand_29 rfl ?_
        obtain ⟨x11, S12, h13, h⟩ := bI_e h
        refine r_cVI (y := mX12_knownWord) (As := []) (rest := []) dX12_operand_30 qX12_201 kX12_knownWord rfl ob80 vc12 rfl (okX12_knownWord N  S7 x11 S12 h13) (by decide) hu rfl (Nat.le_of_ble_eq_true rfl) ?_
        refine r_bipush (v := 11) dX12_operand_33 rfl ?_
        refine r_icmp_ne (tgt := 75) dX12_operand_35 (by decide) (fun c14 => ?_) (fun c14 => ?_)
        · rw [if_neg c14] at h
          cases h
          exact k0
        · rw [if_pos c14] at h
          refine r_iload (x := v4) dX12_operand_38 rfl ?_
          refine r_bipush (v := 6) dX12_operand_40 rfl ?_
          refine r_icmp_ne (tgt := 50) dX12_operand_42 (by decide) (fun c15 => ?_) (fun c15 => ?_)
          · rw [if_neg c15] at h
            obtain ⟨x16, hx16⟩ : ∃ y : Int32, y = (v4 + 1 : Int32) := ⟨_, rfl⟩
            replace h := lt_e hx16 h
            refine r_iinc (x := v4) (v := x16) (L' := [some (.ref 80), some (.int v1), some (.int v2), some (.int v3), some (.int x16)]) dX12_operand_50 rfl (by rw [hx16]; rfl) (Nat.le_of_ble_eq_true rfl) rfl rfl ?_
            refine r_aload_n (x := 80) dX12_operand_53 rfl ?_
            obtain ⟨x17, S18, h19, h⟩ := bI_e h
            refine r_cVI (y := mX12_isGood) (As := []) (rest := []) dX12_operand_54 qX12_173 kX12_isGood rfl ob80 vc12 rfl (okX12_isGood N  S12 x17 S18 h19) (by decide) hu rfl (Nat.le_of_ble_eq_true rfl) ?_
            refine r_if_ne (tgt := 63) dX12_operand_57 (by decide) (fun c20 => ?_) (fun c20 => ?_)
            · rw [if_neg c20] at h
              refine r_aload_n (x := 80) dX12_operand_63 rfl ?_
              refine r_iconst (v := 3) dX12_operand_64 rfl ?_
              obtain ⟨S22, h23, h⟩ := bV_e h
              refine r_cVV (y := mX12_waitsFor) (As := [.int 3]) (rest := []) dX12_operand_65 qX12_211 kX12_waitsFor rfl ob80 vc12 rfl (okX12_waitsFor N 3 S18 S22 h23) (by decide) hu rfl (Nat.le_of_ble_eq_true rfl) ?_
              refine r_aload_n (x := 80) dX12_operand_68 rfl ?_
              obtain ⟨S25, h26, h⟩ := bV_e h
              refine r_cVV (y := mX12_goes) (As := []) (rest := []) dX12_operand_69 qX12_177 kX12_goes rfl ob80 vc12 rfl (okX12_goes N  S22 S25 h26) (by decide) hu rfl (Nat.le_of_ble_eq_true rfl) ?_
              refine r_goto (tgt := 18) dX12_operand_72 (by decide) ?_
              exact ih _ _ _ _ h k0
            · rw [if_pos c20] at h
              refine r_goto (tgt := 18) dX12_operand_60 (by decide) ?_
              exact ih _ _ _ _ h k0
          · rw [if_pos c15] at h
            refine r_aload_n (x := 80) dX12_operand_45 rfl ?_
            refine r_iconst (v := 2) dX12_operand_46 rfl ?_
            obtain ⟨S28, h29, h⟩ := bV_e h
            refine r_cVV (y := mX12_wrong) (As := [.int 2]) (rest := []) dX12_operand_47 qX12_180 kX12_wrong rfl ob80 vc12 rfl (okX12_wrong N 2 S12 S28 h29) (by decide) hu rfl (Nat.le_of_ble_eq_true rfl) ?_
            obtain ⟨x30, hx30⟩ : ∃ y : Int32, y = (v4 + 1 : Int32) := ⟨_, rfl⟩
            replace h := lt_e hx30 h
            refine r_iinc (x := v4) (v := x30) (L' := [some (.ref 80), some (.int v1), some (.int v2), some (.int v3), some (.int x30)]) dX12_operand_50 rfl (by rw [hx30]; rfl) (Nat.le_of_ble_eq_true rfl) rfl rfl ?_
            refine r_aload_n (x := 80) dX12_operand_53 rfl ?_
            obtain ⟨x31, S32, h33, h⟩ := bI_e h
            refine r_cVI (y := mX12_isGood) (As := []) (rest := []) dX12_operand_54 qX12_173 kX12_isGood rfl ob80 vc12 rfl (okX12_isGood N  S28 x31 S32 h33) (by decide) hu rfl (Nat.le_of_ble_eq_true rfl) ?_
            refine r_if_ne (tgt := 63) dX12_operand_57 (by decide) (fun c34 => ?_) (fun c34 => ?_)
            · rw [if_neg c34] at h
              refine r_aload_n (x := 80) dX12_operand_63 rfl ?_
              refine r_iconst (v := 3) dX12_operand_64 rfl ?_
              obtain ⟨S36, h37, h⟩ := bV_e h
              refine r_cVV (y := mX12_waitsFor) (As := [.int 3]) (rest := []) dX12_operand_65 qX12_211 kX12_waitsFor rfl ob80 vc12 rfl (okX12_waitsFor N 3 S32 S36 h37) (by decide) hu rfl (Nat.le_of_ble_eq_true rfl) ?_
              refine r_aload_n (x := 80) dX12_operand_68 rfl ?_
              obtain ⟨S39, h40, h⟩ := bV_e h
              refine r_cVV (y := mX12_goes) (As := []) (rest := []) dX12_operand_69 qX12_177 kX12_goes rfl ob80 vc12 rfl (okX12_goes N  S36 S39 h40) (by decide) hu rfl (Nat.le_of_ble_eq_true rfl) ?_
              refine r_goto (tgt := 18) dX12_operand_72 (by decide) ?_
              exact ih _ _ _ _ h k0
            · rw [if_pos c34] at h
              refine r_goto (tgt := 18) dX12_operand_60 (by decide) ?_
              exact ih _ _ _ _ h k0
def fX12_operand_4 (N : Nat) (v1 : Int32) : Nat → Int32 → Int32 → PS → Option (Int32 × Int32 × PS)
  | 0, _, _, _ => none
  | n + 1, v2, v3, S =>
    (if v3 = 0 then
      some (v2, v3, S)
    else
      bI (fX12_isGood N  S) fun x2 S3 =>
      (if x2 = 0 then
        some (v2, v3, S3)
      else
        bT (fX12_operand_18 N v1 v2 v3 N 0 S3) fun q41 =>
        lt (q41.1 : Int32) fun x42 =>
        lt (q41.2 : PS) fun S43 =>
        bI (fX12_isGood N  S43) fun x46 S47 =>
        (if x46 = 0 then
          (if (0 : Int32) = 0 then
            fX12_operand_4 N v1 n v2 0 S47
          else
            bV (fX12_waitsFor N 14 S47) fun S52 =>
            bV (fX12_goes N  S52) fun S55 =>
            bV (fX12_deeper N  S55) fun S58 =>
            fX12_operand_4 N v1 n 1 0 S58)
        else
          bI (fX12_isSign N 40 S47) fun x60 S61 =>
          lt ((if x60 = 0 then 0 else 1) : Int32) fun x64 =>
          (if x64 = 0 then
            fX12_operand_4 N v1 n v2 x64 S61
          else
            bV (fX12_waitsFor N 14 S61) fun S67 =>
            bV (fX12_goes N  S67) fun S70 =>
            bV (fX12_deeper N  S70) fun S73 =>
            fX12_operand_4 N v1 n 1 x64 S73))))
set_option maxHeartbeats 4000000 in
set_option maxRecDepth 100000 in
theorem okX12_operand_4 (N : Nat) (v1 : Int32) (Q : OQ) (u : Nat) (hu : u ≤ 0) : ∀ (n : Nat) (v2 : Int32) (v3 : Int32) (S : PS) (y2 : Int32) (y3 : Int32) (T : PS), fX12_operand_4 N v1 n v2 v3 S = some (y2, y3, T) → WP [] mX12_operand 4 0 Q 120 [some (.ref 80), some (.int v1), some (.int y2), some (.int y3), none] [] T u → WP [] mX12_operand 4 0 Q 4 [some (.ref 80), some (.int v1), some (.int v2), some (.int v3), none] [] S u := by
  intro n
  induction n with
  | zero => intro v2 v3 S y2 y3 T h; rw [fX12_operand_4] at h; cases h
  | succ n ih =>
    intro v2 v3 S y2 y3 T h k0
    rw [fX12_operand_4] at h
    refine r_iload_n (x := v3) dX12_operand_4 rfl ?_
    refine r_if_eq (tgt := 120) dX12_operand_5 (by decide) (fun c1 => ?_) (fun c1 => ?_)
    · rw [if_pos c1] at h
      cases h
      exact k0
    · rw [if_neg c1] at h
      refine r_aload_n (x := 80) dX12_operand_8 rfl ?_
      obtain ⟨x2, S3, h4, h⟩ := bI_e h
      refine r_cVI (y := mX12_isGood) (As := []) (rest := []) dX12_operand_9 qX12_173 kX12_isGood rfl ob80 vc12 rfl (okX12_isGood N  S x2 S3 h4) (by decide) hu rfl (Nat.le_of_ble_eq_true rfl) ?_
      refine r_if_eq (tgt := 120) dX12_operand_12 (by decide) (fun c5 => ?_) (fun c5 => ?_)
      · rw [if_pos c5] at h
        cases h
        exact k0
      · rw [if_neg c5] at h
        refine r_iconst (v := 0) dX12_operand_15 rfl ?_
        refine r_istore (L' := [some (.ref 80), some (.int v1), some (.int v2), some (.int v3), some (.int 0)]) dX12_operand_16 (Nat.le_of_ble_eq_true rfl) rfl rfl ?_
        obtain ⟨⟨x42, S43⟩, h45, h⟩ := bT_e h
        dsimp only at h
        replace h := pl_s (pl_s (h))
        refine okX12_operand_18 N v1 v2 v3 Q u hu _ _ _ _ _ h45 ?_
        refine r_aload_n (x := 80) dX12_operand_75 rfl ?_
        obtain ⟨x46, S47, h48, h⟩ := bI_e h
        refine r_cVI (y := mX12_isGood) (As := []) (rest := []) dX12_operand_76 qX12_173 kX12_isGood rfl ob80 vc12 rfl (okX12_isGood N  S43 x46 S47 h48) (by decide) hu rfl (Nat.le_of_ble_eq_true rfl) ?_
        refine r_if_eq (tgt := 95) dX12_operand_79 (by decide) (fun c49 => ?_) (fun c49 => ?_)
        · rw [if_pos c49] at h
          refine r_iconst (v := 0) dX12_operand_95 rfl ?_
          refine r_istore_n (L' := [some (.ref 80), some (.int v1), some (.int v2), some (.int 0), some (.int x42)]) dX12_operand_96 (Nat.le_of_ble_eq_true rfl) rfl rfl ?_
          refine r_iload_n (x := 0) dX12_operand_97 rfl ?_
          refine r_if_eq (tgt := 117) dX12_operand_98 (by decide) (fun c50 => ?_) (fun c50 => ?_)
          · rw [if_pos c50] at h
            refine r_goto (tgt := 4) dX12_operand_117 (by decide) ?_
            refine r_drop [true, true, true, true, false] rfl ?_
            exact ih _ _ _ _ _ _ h k0
          · rw [if_neg c50] at h
            refine r_aload_n (x := 80) dX12_operand_101 rfl ?_
            refine r_bipush (v := 14) dX12_operand_102 rfl ?_
            obtain ⟨S52, h53, h⟩ := bV_e h
            refine r_cVV (y := mX12_waitsFor) (As := [.int 14]) (rest := []) dX12_operand_104 qX12_211 kX12_waitsFor rfl ob80 vc12 rfl (okX12_waitsFor N 14 S47 S52 h53) (by decide) hu rfl (Nat.le_of_ble_eq_true rfl) ?_
            refine r_aload_n (x := 80) dX12_operand_107 rfl ?_
            obtain ⟨S55, h56, h⟩ := bV_e h
            refine r_cVV (y := mX12_goes) (As := []) (rest := []) dX12_operand_108 qX12_177 kX12_goes rfl ob80 vc12 rfl (okX12_goes N  S52 S55 h56) (by decide) hu rfl (Nat.le_of_ble_eq_true rfl) ?_
            refine r_aload_n (x := 80) dX12_operand_111 rfl ?_
            obtain ⟨S58, h59, h⟩ := bV_e h
            refine r_cVV (y := mX12_deeper) (As := []) (rest := []) dX12_operand_112 qX12_214 kX12_deeper rfl ob80 vc12 rfl (okX12_deeper N  S55 S58 h59) (by decide) hu rfl (Nat.le_of_ble_eq_true rfl) ?_
            refine r_iconst (v := 1) dX12_operand_115 rfl ?_
            refine r_istore_n (L' := [some (.ref 80), some (.int v1), some (.int 1), some (.int 0), some (.int x42)]) dX12_operand_116 (Nat.le_of_ble_eq_true rfl) rfl rfl ?_
            refine r_goto (tgt := 4) dX12_operand_117 (by decide) ?_
            refine r_drop [true, true, true, true, false] rfl ?_
            exact ih _ _ _ _ _ _ h k0
        · rw [if_neg c49] at h
          refine r_aload_n (x := 80) dX12_operand_82 rfl ?_
          refine r_bipush (v := 40) dX12_operand_83 rfl ?_
          obtain ⟨x60, S61, h62, h⟩ := bI_e h
          refine r_cVI (y := mX12_isSign) (As := [.int 40]) (rest := []) dX12_operand_85 qX12_208 kX12_isSign rfl ob80 vc12 rfl (okX12_isSign N 40 S47 x60 S61 h62) (by decide) hu rfl (Nat.le_of_ble_eq_true rfl) ?_
          obtain ⟨x64, hx64⟩ : ∃ y : Int32, y = ((if x60 = 0 then 0 else 1) : Int32) := ⟨_, rfl⟩
          replace h := lt_e hx64 h
          have keyx64 : WP [] mX12_operand 4 0 Q 96 [some (.ref 80), some (.int v1), some (.int v2), some (.int v3), some (.int x42)] (.int x64 :: []) S61 u := by
            refine r_istore_n (L' := [some (.ref 80), some (.int v1), some (.int v2), some (.int x64), some (.int x42)]) dX12_operand_96 (Nat.le_of_ble_eq_true rfl) rfl rfl ?_
            refine r_iload_n (x := x64) dX12_operand_97 rfl ?_
            refine r_if_eq (tgt := 117) dX12_operand_98 (by decide) (fun c65 => ?_) (fun c65 => ?_)
            · rw [if_pos c65] at h
              refine r_goto (tgt := 4) dX12_operand_117 (by decide) ?_
              refine r_drop [true, true, true, true, false] rfl ?_
              exact ih _ _ _ _ _ _ h k0
            · rw [if_neg c65] at h
              refine r_aload_n (x := 80) dX12_operand_101 rfl ?_
              refine r_bipush (v := 14) dX12_operand_102 rfl ?_
              obtain ⟨S67, h68, h⟩ := bV_e h
              refine r_cVV (y := mX12_waitsFor) (As := [.int 14]) (rest := []) dX12_operand_104 qX12_211 kX12_waitsFor rfl ob80 vc12 rfl (okX12_waitsFor N 14 S61 S67 h68) (by decide) hu rfl (Nat.le_of_ble_eq_true rfl) ?_
              refine r_aload_n (x := 80) dX12_operand_107 rfl ?_
              obtain ⟨S70, h71, h⟩ := bV_e h
              refine r_cVV (y := mX12_goes) (As := []) (rest := []) dX12_operand_108 qX12_177 kX12_goes rfl ob80 vc12 rfl (okX12_goes N  S67 S70 h71) (by decide) hu rfl (Nat.le_of_ble_eq_true rfl) ?_
              refine r_aload_n (x := 80) dX12_operand_111 rfl ?_
              obtain ⟨S73, h74, h⟩ := bV_e h
              refine r_cVV (y := mX12_deeper) (As := []) (rest := []) dX12_operand_112 qX12_214 kX12_deeper rfl ob80 vc12 rfl (okX12_deeper N  S70 S73 h74) (by decide) hu rfl (Nat.le_of_ble_eq_true rfl) ?_
              refine r_iconst (v := 1) dX12_operand_115 rfl ?_
              refine r_istore_n (L' := [some (.ref 80), some (.int v1), some (.int 1), some (.int x64), some (.int x42)]) dX12_operand_116 (Nat.le_of_ble_eq_true rfl) rfl rfl ?_
              refine r_goto (tgt := 4) dX12_operand_117 (by decide) ?_
              refine r_drop [true, true, true, true, false] rfl ?_
              exact ih _ _ _ _ _ _ h k0
          refine r_if_eq (tgt := 95) dX12_operand_88 (by decide) (fun c63 => ?_) (fun c63 => ?_)
          · refine r_iconst (v := 0) dX12_operand_95 rfl ?_
            exact r_tope (by rw [hx64, if_pos c63]) keyx64
          · refine r_iconst (v := 1) dX12_operand_91 rfl ?_
            refine r_goto (tgt := 96) dX12_operand_92 (by decide) ?_
            exact r_tope (by rw [hx64, if_neg c63]) keyx64
def fX12_operand (N : Nat) (p0 : Int32) (S : PS) : Option PS :=
  bT (fX12_operand_4 N p0 N p0 1 S) fun q75 =>
  lt (q75.1 : Int32) fun x76 =>
  lt (q75.2.1 : Int32) fun x77 =>
  lt (q75.2.2 : PS) fun S78 =>
  bV (fX12_part N  S78) fun S82 =>
  some S82
set_option maxHeartbeats 4000000 in
set_option maxRecDepth 100000 in
theorem okX12_operand (N : Nat) (p0 : Int32) (S : PS) (T : PS) (h : fX12_operand N p0 S = some T) : CT mX12_operand 4 0 [.ref 80, .int p0] S (qV T) := by
  refine ct_of [some (.ref 80), some (.int p0), none, none, none] rfl (fun _ => rfl) (fun _ => Nat.le_of_ble_eq_true rfl) ?_
  unfold fX12_operand at h
  refine r_iload_n (x := p0) dX12_operand_0 rfl ?_
  refine r_istore_n (L' := [some (.ref 80), some (.int p0), some (.int p0), none, none]) dX12_operand_1 (Nat.le_of_ble_eq_true rfl) rfl rfl ?_
  refine r_iconst (v := 1) dX12_operand_2 rfl ?_
  refine r_istore_n (L' := [some (.ref 80), some (.int p0), some (.int p0), some (.int 1), none]) dX12_operand_3 (Nat.le_of_ble_eq_true rfl) rfl rfl ?_
  obtain ⟨⟨x76, x77, S78⟩, h80, h⟩ := bT_e h
  dsimp only at h
  replace h := pl_s (pl_s (pl_s (h)))
  refine okX12_operand_4 N p0 (qV T) 0 (Nat.zero_le _) _ _ _ _ _ _ _ h80 ?_
  refine r_aload_n (x := 80) dX12_operand_120 rfl ?_
  obtain ⟨S82, h83, h⟩ := bV_e h
  refine r_cVV (y := mX12_part) (As := []) (rest := []) dX12_operand_121 qX12_217 kX12_part rfl ob80 vc12 rfl (okX12_part N  S78 S82 h83) (by decide) (Nat.zero_le _) rfl (Nat.le_of_ble_eq_true rfl) ?_
  cases h
  exact r_return dX12_operand_124 rfl (Nat.zero_le _) ⟨rfl, rfl⟩
