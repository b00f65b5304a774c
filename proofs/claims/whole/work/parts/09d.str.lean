abbrev mJ0_length_8abf5 : MT := (yJ0_length_8abf5, cJ0_length_8abf5, 1, (some .int))
theorem kJ0_length_8abf5 : CLV mJ0_length_8abf5 0 := ⟨⟨(mt1 (List.mem_of_getElem? (i := 20) rfl) rfl), (mt3 (List.mem_of_getElem? (i := 192) rfl) rfl), ⟨by decide, by decide, by decide +kernel⟩, by decide⟩, (mt3 (List.mem_of_getElem? (i := 190) rfl) rfl), (mt3 (List.mem_of_getElem? (i := 191) rfl) rfl)⟩
abbrev mJ0_coder_7d493 : MT := (yJ0_coder_7d493, cJ0_coder_7d493, 1, (some .byte))
theorem kJ0_coder_7d493 : CLV mJ0_coder_7d493 0 := ⟨⟨(mt1 (List.mem_of_getElem? (i := 20) rfl) rfl), (mt3 (List.mem_of_getElem? (i := 196) rfl) rfl), ⟨by decide, by decide, by decide +kernel⟩, by decide⟩, (mt3 (List.mem_of_getElem? (i := 194) rfl) rfl), (mt3 (List.mem_of_getElem? (i := 195) rfl) rfl)⟩
abbrev mJ0_isLatin1_aae02 : MT := (yJ0_isLatin1_aae02, cJ0_isLatin1_aae02, 1, (some .boolean))
theorem kJ0_isLatin1_aae02 : CLV mJ0_isLatin1_aae02 0 := ⟨⟨(mt1 (List.mem_of_getElem? (i := 20) rfl) rfl), (mt3 (List.mem_of_getElem? (i := 206) rfl) rfl), ⟨by decide, by decide, by decide +kernel⟩, by decide⟩, (mt3 (List.mem_of_getElem? (i := 204) rfl) rfl), (mt3 (List.mem_of_getElem? (i := 205) rfl) rfl)⟩
abbrev mJ0_charAt_5068e : MT := (yJ0_charAt_5068e, cJ0_charAt_5068e, 2, (some .char))
theorem kJ0_charAt_5068e : CLV mJ0_charAt_5068e 1 := ⟨⟨(mt1 (List.mem_of_getElem? (i := 20) rfl) rfl), (mt3 (List.mem_of_getElem? (i := 202) rfl) rfl), ⟨by decide, by decide, by decide +kernel⟩, by decide⟩, (mt3 (List.mem_of_getElem? (i := 200) rfl) rfl), (mt3 (List.mem_of_getElem? (i := 201) rfl) rfl)⟩
abbrev mJ1_charAt_3b067 : MT := (yJ1_charAt_3b067, cJ1_charAt_3b067, 2, (some .char))
theorem kJ1_charAt_3b067 : CLS mJ1_charAt_3b067 2 := ⟨⟨(mt1 (List.mem_of_getElem? (i := 21) rfl) rfl), (mt3 (List.mem_of_getElem? (i := 209) rfl) rfl), ⟨by decide, by decide, by decide +kernel⟩, by decide⟩, (mt3 (List.mem_of_getElem? (i := 208) rfl) rfl)⟩
abbrev mJ0_checkIndex_df160 : MT := (yJ0_checkIndex_df160, cJ0_checkIndex_df160, 2, none)
theorem kJ0_checkIndex_df160 : CLS mJ0_checkIndex_df160 2 := ⟨⟨(mt1 (List.mem_of_getElem? (i := 20) rfl) rfl), (mt3 (List.mem_of_getElem? (i := 212) rfl) rfl), ⟨by decide, by decide, by decide +kernel⟩, by decide⟩, (mt3 (List.mem_of_getElem? (i := 211) rfl) rfl)⟩
abbrev mJ3_checkIndex_8e157 : MT := (yJ3_checkIndex_8e157, cJ3_checkIndex_8e157, 3, (some .int))
theorem kJ3_checkIndex_8e157 : CLS mJ3_checkIndex_8e157 3 := ⟨⟨(mt1 (List.mem_of_getElem? (i := 22) rfl) rfl), (mt3 (List.mem_of_getElem? (i := 217) rfl) rfl), ⟨by decide, by decide, by decide +kernel⟩, by decide⟩, (mt3 (List.mem_of_getElem? (i := 216) rfl) rfl)⟩
theorem qX10_56 : Cond.methodLink RX10 56 yJ0_length_8abf5 ∈ W0 := (mt3 (List.mem_of_getElem? (i := 189) rfl) rfl)
theorem qX10_61 : Cond.methodLink RX10 61 yJ0_charAt_5068e ∈ W0 := (mt3 (List.mem_of_getElem? (i := 199) rfl) rfl)
theorem qJ0_335 : Cond.methodLink RJ0 335 yJ0_coder_7d493 ∈ W0 := (mt3 (List.mem_of_getElem? (i := 193) rfl) rfl)
theorem qJ0_492 : Cond.methodLink RJ0 492 yJ0_isLatin1_aae02 ∈ W0 := (mt3 (List.mem_of_getElem? (i := 203) rfl) rfl)
theorem qJ0_495 : Cond.methodLink RJ0 495 yJ1_charAt_3b067 ∈ W0 := (mt3 (List.mem_of_getElem? (i := 207) rfl) rfl)
theorem qJ0_1059 : Cond.methodLink RJ0 1059 yJ3_checkIndex_8e157 ∈ W0 := (mt3 (List.mem_of_getElem? (i := 215) rfl) rfl)
theorem qJ1_9 : Cond.methodLink RJ1 9 yJ0_checkIndex_df160 ∈ W0 := (mt3 (List.mem_of_getElem? (i := 210) rfl) rfl)
theorem qJ2_414 : Cond.methodLink RJ2 414 yJ0_checkIndex_df160 ∈ W0 := (mt3 (List.mem_of_getElem? (i := 227) rfl) rfl)
section STR
variable {j : MT} {d M pc u : Nat} {Q : OQ} {L : List (Option Value)} {st : List Value} {S : PS}
theorem r_ldcS {i n : Nat} {tx : String} (hd : decode j.2.1 pc = .ok (.ldc i, 2)) (hw : (j.1.cls, i, tx, n) ∈ litW) (k : WP [] j d M Q (pc + 2) L (.ref n :: st) S u) : WP [] j d M Q pc L st S u := by
  intro G l p e s m args below meth c C H locs ls hP hS hl
  exact va_ldcS C.1 C.2.1 C.2.2.2.2.2.1 (C.2.2.2.2.2.2.2.1.2.2.2.2.2.2.2.2.2.2.1 _ hw) hd (k G l p e s m args below meth c C H locs ls hP hS hl)
theorem r_sval {i k9 : Nat} (hk : k9 < litL.length) (hd : decode j.2.1 pc = .ok (.getfield i, 3)) (hw : Cond.fieldLink j.1.cls i "java/lang/String" "value" "[B" ∈ W0) (k : WP [] j d M Q (pc + 3) L (.ref (1101 + k9) :: st) S u) : WP [] j d M Q pc L (.ref (1001 + k9) :: st) S u := by
  intro G l p e s m args below meth c C H locs ls hP hS hl
  exact vk_getf C.1 C.2.1 (C.2.2.2.2.2.2.2.1.2.2.2.2.2.2.2.2.2.2.2.1.1 k9 hk).2.2.1 hS C.2.2.2.2.2.1 (C.2.2.2.2.2.2.1 _ hw) (fun x h => h) hd (k G l p e s m args below meth c C H locs ls hP hS hl)
theorem r_scod {i k9 : Nat} (hk : k9 < litL.length) (hd : decode j.2.1 pc = .ok (.getfield i, 3)) (hw : Cond.fieldLink j.1.cls i "java/lang/String" "coder" "B" ∈ W0) (k : WP [] j d M Q (pc + 3) L (.int 0 :: st) S u) : WP [] j d M Q pc L (.ref (1001 + k9) :: st) S u := by
  intro G l p e s m args below meth c C H locs ls hP hS hl
  exact vk_getf C.1 C.2.1 (C.2.2.2.2.2.2.2.1.2.2.2.2.2.2.2.2.2.2.2.1.1 k9 hk).2.1 hS C.2.2.2.2.2.1 (C.2.2.2.2.2.2.1 _ hw) (fun x h => h) hd (k G l p e s m args below meth c C H locs ls hP hS hl)
theorem r_slen {k9 : Nat} (hk : k9 < litL.length) (hd : decode j.2.1 pc = .ok (.arraylength, 1)) (k : WP [] j d M Q (pc + 1) L (.int (nI (litL.getD k9 0)) :: st) S u) : WP [] j d M Q pc L (.ref (1101 + k9) :: st) S u := by
  intro G l p e s m args below meth c C H locs ls hP hS hl
  exact va_tlen C.1 C.2.1 (C.2.2.2.2.2.2.2.1.2.2.2.2.2.2.2.2.2.2.2.1.1 k9 hk).2.2.2 hS rfl hd (k G l p e s m args below meth c C H locs ls hP hS hl)
theorem r_sbal {k9 x : Nat} {i : Int32} (hk : k9 < litL.length) (hd : decode j.2.1 pc = .ok (.baload, 1)) (hi : IX i (litL.getD k9 0) x) (k : WP [] j d M Q (pc + 1) L (.int ((litB.getD k9 []).getD x 0) :: st) S u) : WP [] j d M Q pc L (.int i :: .ref (1101 + k9) :: st) S u := by
  intro G l p e s m args below meth c C H locs ls hP hS hl
  exact va_tb C.1 C.2.1 (C.2.2.2.2.2.2.2.1.2.2.2.2.2.2.2.2.2.2.2.1.1 k9 hk).2.2.2 hS hi.in (by rw [hi.cl]; rfl) hd (k G l p e s m args below meth c C H locs ls hP hS hl)
theorem r_compact {i : Nat} (hd : decode j.2.1 pc = .ok (.getstatic i, 3)) (hw : Cond.fieldLink j.1.cls i "java/lang/String" "COMPACT_STRINGS" "Z" ∈ W0) (k : WP [] j d M Q (pc + 3) L (.int 1 :: st) S u) : WP [] j d M Q pc L st S u := by
  intro G l p e s m args below meth c C H locs ls hP hS hl
  exact va_gets C.1 C.2.1 C.2.2.2.2.2.2.2.1.2.2.2.2.2.2.2.2.2.2.2.2.1 hS C.2.2.2.2.2.1 (C.2.2.2.2.2.2.1 _ hw) (fun x h => h) hd (k G l p e s m args below meth c C H locs ls hP hS hl)
theorem r_sioobe {i : Nat} (hd : decode j.2.1 pc = .ok (.getstatic i, 3)) (hw : Cond.fieldLink j.1.cls i "jdk/internal/util/Preconditions" "SIOOBE_FORMATTER" "Ljava/util/function/BiFunction;" ∈ W0) (k : ∀ v : Value, v = .null ∨ v = .ref 1300 → WP [] j d M Q (pc + 3) L (v :: st) S u) : WP [] j d M Q pc L st S u := by
  intro G l p e s m args below meth c C H locs ls hP hS hl
  rcases C.2.2.2.2.2.2.2.1.2.2.2.2.2.2.2.2.2.2.2.2.2.1 with hz | hz
  · exact va_gets C.1 C.2.1 hz hS C.2.2.2.2.2.1 (C.2.2.2.2.2.2.1 _ hw) (fun x h => h) hd (k .null (Or.inl rfl) G l p e s m args below meth c C H locs ls hP hS hl)
  · exact va_gets C.1 C.2.1 hz hS C.2.2.2.2.2.1 (C.2.2.2.2.2.2.1 _ hw) (fun x h => h) hd (k (.ref 1300) (Or.inr rfl) G l p e s m args below meth c C H locs ls hP hS hl)
/-- a call on a literal -/
theorem r_callStr {i k9 : Nat} {y : MT} {As rest : List Value} {dy n : Nat} {r : Int32} {T : PS} (hk : k9 < litL.length) (hd : decode j.2.1 pc = .ok (.invokevirtual i, 3)) (hw : Cond.methodLink j.1.cls i y.1 ∈ W0) (hc : CLV y n) (hn : As.length = n) (hcl : y.1.cls = "java/lang/String") (hct : CT y dy 0 (.ref (1001 + k9) :: As) S (qI r T)) (hdp : dy + 1 ≤ d) (hu : u ≤ M) (hst : st = As.reverse ++ .ref (1001 + k9) :: rest) (h8 : (rest.map fun v => v.category).sum ≤ 8)
    (k : WP [] j d M Q (pc + 3) L (.int r :: rest) T u) : WP [] j d M Q pc L st S u := by
  intro G l p e s m args below meth c C H locs ls hP hS hl
  obtain ⟨hx, hb, hml, hr, hlk, hown, hts, hG, hst9, htab⟩ := id C
  refine call_core (a := (Value.ref (G.1 (1001 + k9)) :: As.map (cv G)).toArray) (My := 0) (Qy := qI r T) rfl C hS hl hu ?_ (fun v S' h => by obtain ⟨h1, h2⟩ := h; cases h1; subst h2; exact k) (fun E S' h => by cases h.1)
  refine vx_runV (b := G.1 (1001 + k9)) (As := As.map (cv G)) (rest := rest.map (cv G)) (C := y.1.cls) ⟨hx, hb, hml, hown, hts⟩ (hct G l hst9) ⟨callB_W0 hts hc.1 hw hdp, hts _ hc.2.1, hts _ hc.2.2⟩ ⟨blind, ?_, ?_⟩ rfl (by rw [List.length_map]; exact hn) hl.1 (by rw [hst]; simp [cv]) ?_ hd ?_
  · rw [hcl]
    exact vk_recv (adK := fun i => G.1 (1001 + i)) (adV := fun i => G.1 (1101 + i)) (i := k9) hG.2.2.2.2.2.2.2.2.2.2.2.1 hk hS
  · intro U hU hW
    exact ⟨rfl, by rw [hU]; exact hG.at hS hW, by rw [hU]; exact hP⟩
  · refine lv_room ?_
    rw [List.map_map]
    have : ((fun v => v.category) ∘ cv G) = (fun v : Value => v.category) := by funext v; exact cv_cat
    rw [this]; exact h8
  · exact ⟨hu, by simp only [rmd]; omega⟩
end STR
theorem ok_sCod (S : PS) (k9 : Nat) (hk : k9 < litL.length) : CT mJ0_coder_7d493 0 0 [.ref (1001 + k9)] S (qI 0 S) := by
  refine ct_of [some (.ref (1001 + k9))] rfl (fun _ => rfl) (fun _ => Nat.le_of_ble_eq_true rfl) ?_
  refine r_compact dJ0_coder_7d493_0 (show Cond.fieldLink RJ0 38 "java/lang/String" "COMPACT_STRINGS" "Z" ∈ W0 from (mt3 (List.mem_of_getElem? (i := 197) rfl) rfl)) ?_
  refine r_if_eq (tgt := 13) dJ0_coder_7d493_3 (by decide) (fun h => absurd h (by decide)) (fun _ => ?_)
  refine r_aload_n (x := 1001 + k9) dJ0_coder_7d493_6 rfl ?_
  refine r_scod hk dJ0_coder_7d493_7 (show Cond.fieldLink RJ0 15 "java/lang/String" "coder" "B" ∈ W0 from (mt9 (List.mem_of_getElem? (i := 18) rfl) rfl)) ?_
  refine r_goto (tgt := 14) dJ0_coder_7d493_10 (by decide) ?_
  exact r_zreturn dJ0_coder_7d493_14 rfl rfl (Nat.zero_le _) ⟨rfl, rfl⟩
theorem ok_sLen (S : PS) (k9 : Nat) (hk : k9 < litL.length) : CT mJ0_length_8abf5 1 0 [.ref (1001 + k9)] S (qI (nI (litL.getD k9 0)) S) := by
  refine ct_of [some (.ref (1001 + k9))] rfl (fun _ => rfl) (fun _ => Nat.le_of_ble_eq_true rfl) ?_
  refine r_aload_n (x := 1001 + k9) dJ0_length_8abf5_0 rfl ?_
  refine r_sval hk dJ0_length_8abf5_1 (show Cond.fieldLink RJ0 9 "java/lang/String" "value" "[B" ∈ W0 from (mt9 (List.mem_of_getElem? (i := 17) rfl) rfl)) ?_
  refine r_slen hk dJ0_length_8abf5_4 ?_
  refine r_aload_n (x := 1001 + k9) dJ0_length_8abf5_5 rfl ?_
  refine r_callStr (y := mJ0_coder_7d493) (As := []) (rest := [.int (nI (litL.getD k9 0))]) hk dJ0_length_8abf5_6 qJ0_335 kJ0_coder_7d493 rfl rfl (ok_sCod S k9 hk) (by decide) (Nat.zero_le _) rfl (Nat.le_of_ble_eq_true rfl) ?_
  refine r_ishr dJ0_length_8abf5_9 ?_
  exact r_ireturn dJ0_length_8abf5_10 rfl (Nat.zero_le _) ⟨by rw [sb_shr0], rfl⟩
theorem ok_sLat (S : PS) (k9 : Nat) (hk : k9 < litL.length) : CT mJ0_isLatin1_aae02 0 0 [.ref (1001 + k9)] S (qI 1 S) := by
  refine ct_of [some (.ref (1001 + k9))] rfl (fun _ => rfl) (fun _ => Nat.le_of_ble_eq_true rfl) ?_
  refine r_compact dJ0_isLatin1_aae02_0 (show Cond.fieldLink RJ0 38 "java/lang/String" "COMPACT_STRINGS" "Z" ∈ W0 from (mt3 (List.mem_of_getElem? (i := 197) rfl) rfl)) ?_
  refine r_if_eq (tgt := 17) dJ0_isLatin1_aae02_3 (by decide) (fun h => absurd h (by decide)) (fun _ => ?_)
  refine r_aload_n (x := 1001 + k9) dJ0_isLatin1_aae02_6 rfl ?_
  refine r_scod hk dJ0_isLatin1_aae02_7 (show Cond.fieldLink RJ0 15 "java/lang/String" "coder" "B" ∈ W0 from (mt9 (List.mem_of_getElem? (i := 18) rfl) rfl)) ?_
  refine r_if_ne (tgt := 17) dJ0_isLatin1_aae02_10 (by decide) (fun h => absurd rfl h) (fun _ => ?_)
  refine r_iconst (v := 1) dJ0_isLatin1_aae02_13 rfl ?_
  refine r_goto (tgt := 18) dJ0_isLatin1_aae02_14 (by decide) ?_
  exact r_zreturn dJ0_isLatin1_aae02_18 rfl rfl (Nat.zero_le _) ⟨rfl, rfl⟩
theorem ok_pChk (S : PS) (a b : Int32) (v : Value) (hv : v = .null ∨ v = .ref 1300) (h0 : ¬ a < 0) (h1 : a < b) : CT mJ3_checkIndex_8e157 0 0 [.int a, .int b, v] S (qI a S) := by
  refine ct_of [some (.int a), some (.int b), some v] rfl (fun G => by rcases hv with rfl | rfl <;> rfl) (fun G => by rcases hv with rfl | rfl <;> exact Nat.le_of_ble_eq_true rfl) ?_
  refine r_iload_n (x := a) dJ3_checkIndex_8e157_0 rfl ?_
  refine r_if_lt (tgt := 9) dJ3_checkIndex_8e157_1 (by decide) (fun h => absurd h h0) (fun _ => ?_)
  refine r_iload_n (x := a) dJ3_checkIndex_8e157_4 rfl ?_
  refine r_iload_n (x := b) dJ3_checkIndex_8e157_5 rfl ?_
  refine r_icmp_lt (tgt := 16) dJ3_checkIndex_8e157_6 (by decide) (fun _ => ?_) (fun h => absurd h1 h)
  refine r_iload_n (x := a) dJ3_checkIndex_8e157_16 rfl ?_
  exact r_ireturn dJ3_checkIndex_8e157_17 rfl (Nat.zero_le _) ⟨rfl, rfl⟩
theorem ok_sChk (S : PS) (a b : Int32) (h0 : ¬ a < 0) (h1 : a < b) : CT mJ0_checkIndex_df160 1 0 [.int a, .int b] S (qV S) := by
  refine ct_of [some (.int a), some (.int b)] rfl (fun _ => rfl) (fun _ => Nat.le_of_ble_eq_true rfl) ?_
  refine r_iload_n (x := a) dJ0_checkIndex_df160_0 rfl ?_
  refine r_iload_n (x := b) dJ0_checkIndex_df160_1 rfl ?_
  refine r_sioobe dJ0_checkIndex_df160_2 (show Cond.fieldLink RJ0 1053 "jdk/internal/util/Preconditions" "SIOOBE_FORMATTER" "Ljava/util/function/BiFunction;" ∈ W0 from (mt3 (List.mem_of_getElem? (i := 213) rfl) rfl)) (fun v hv => ?_)
  refine r_cSI (y := mJ3_checkIndex_8e157) (As := [.int a, .int b, v]) (rest := []) dJ0_checkIndex_df160_5 qJ0_1059 kJ3_checkIndex_8e157 rfl (ok_pChk S a b v hv h0 h1) (by decide) (Nat.zero_le _) rfl (Nat.le_of_ble_eq_true rfl) ?_
  refine r_pop_int dJ0_checkIndex_df160_8 ?_
  exact r_return dJ0_checkIndex_df160_9 rfl (Nat.zero_le _) ⟨rfl, rfl⟩
theorem inr_n0 {i : Int32} {n : Nat} (h : inr i n) : ¬ i < 0 := by
  intro hc
  have h1 := Int32.lt_iff_toInt_lt.mp hc
  have h2 := h.1
  have h3 : (0 : Int32).toInt = 0 := rfl
  omega
theorem lit_small : ∀ k, k < litL.length → litL.getD k 0 < 2 ^ 31 := by decide
theorem inr_lt {i : Int32} {k9 : Nat} (hk : k9 < litL.length) (h : inr i (litL.getD k9 0)) : i < nI (litL.getD k9 0) := by
  refine Int32.lt_iff_toInt_lt.mpr ?_
  rw [nI_toInt (lit_small k9 hk)]
  exact h.2
def sch (k9 x : Nat) : Int32 := (litB.getD k9 []).getD x 0 &&& 255
theorem sch_char (k9 x : Nat) : ((sch k9 x).toUInt32 % 65536).toInt32 = sch k9 x := sc_c2 _
theorem ok_lChA (S : PS) (k9 x : Nat) (i : Int32) (hk : k9 < litL.length) (hi : IX i (litL.getD k9 0) x) (h0 : ¬ i < 0) (h1 : i < nI (litL.getD k9 0)) : CT mJ1_charAt_3b067 2 0 [.ref (1101 + k9), .int i] S (qI (sch k9 x) S) := by
  refine ct_of [some (.ref (1101 + k9)), some (.int i)] rfl (fun _ => rfl) (fun _ => Nat.le_of_ble_eq_true rfl) ?_
  refine r_iload_n (x := i) dJ1_charAt_3b067_0 rfl ?_
  refine r_aload_n (x := 1101 + k9) dJ1_charAt_3b067_1 rfl ?_
  refine r_slen hk dJ1_charAt_3b067_2 ?_
  refine r_cSV (y := mJ0_checkIndex_df160) (As := [.int i, .int (nI (litL.getD k9 0))]) (rest := []) dJ1_charAt_3b067_3 qJ1_9 kJ0_checkIndex_df160 rfl (ok_sChk S i _ h0 h1) (by decide) (Nat.zero_le _) rfl (Nat.le_of_ble_eq_true rfl) ?_
  refine r_aload_n (x := 1101 + k9) dJ1_charAt_3b067_6 rfl ?_
  refine r_iload_n (x := i) dJ1_charAt_3b067_7 rfl ?_
  refine r_sbal hk dJ1_charAt_3b067_8 hi ?_
  refine r_sipush (v := 255) dJ1_charAt_3b067_9 rfl ?_
  refine r_iand dJ1_charAt_3b067_12 ?_
  refine r_i2c dJ1_charAt_3b067_13 ?_
  have e : ((((litB.getD k9 []).getD x 0) &&& 255).toUInt32 % 65536).toInt32 = sch k9 x := sch_char k9 x
  exact r_zreturn (ty := .char) dJ1_charAt_3b067_14 rfl (by rw [e]; exact sc_nar _) (Nat.zero_le _) ⟨by rw [e], rfl⟩
theorem ok_sChA (S : PS) (k9 x : Nat) (i : Int32) (hk : k9 < litL.length) (hi : IX i (litL.getD k9 0) x) (h0 : ¬ i < 0) (h1 : i < nI (litL.getD k9 0)) : CT mJ0_charAt_5068e 3 0 [.ref (1001 + k9), .int i] S (qI (sch k9 x) S) := by
  refine ct_of [some (.ref (1001 + k9)), some (.int i)] rfl (fun _ => rfl) (fun _ => Nat.le_of_ble_eq_true rfl) ?_
  refine r_aload_n (x := 1001 + k9) dJ0_charAt_5068e_0 rfl ?_
  refine r_callStr (y := mJ0_isLatin1_aae02) (As := []) (rest := []) hk dJ0_charAt_5068e_1 qJ0_492 kJ0_isLatin1_aae02 rfl rfl (ok_sLat S k9 hk) (by decide) (Nat.zero_le _) rfl (Nat.le_of_ble_eq_true rfl) ?_
  refine r_if_eq (tgt := 16) dJ0_charAt_5068e_4 (by decide) (fun h => absurd h (by decide)) (fun _ => ?_)
  refine r_aload_n (x := 1001 + k9) dJ0_charAt_5068e_7 rfl ?_
  refine r_sval hk dJ0_charAt_5068e_8 (show Cond.fieldLink RJ0 9 "java/lang/String" "value" "[B" ∈ W0 from (mt9 (List.mem_of_getElem? (i := 17) rfl) rfl)) ?_
  refine r_iload_n (x := i) dJ0_charAt_5068e_11 rfl ?_
  refine r_cSI (y := mJ1_charAt_3b067) (As := [.ref (1101 + k9), .int i]) (rest := []) dJ0_charAt_5068e_12 qJ0_495 kJ1_charAt_3b067 rfl (ok_lChA S k9 x i hk hi h0 h1) (by decide) (Nat.zero_le _) rfl (Nat.le_of_ble_eq_true rfl) ?_
  exact r_zreturn (ty := .char) dJ0_charAt_5068e_15 rfl (sc_nar _) (Nat.zero_le _) ⟨rfl, rfl⟩
