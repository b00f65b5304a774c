theorem wArr_int : Cond.arrayClass (newarray.typeOf .int) ∈ W0 := (mt1 (List.mem_of_getElem? (i := 145) rfl) rfl)
theorem wArr_byte : Cond.arrayClass (newarray.typeOf .byte) ∈ W0 := (mt1 (List.mem_of_getElem? (i := 74) rfl) rfl)
theorem wArr_boolean : Cond.arrayClass (newarray.typeOf .boolean) ∈ W0 := (mt7 (List.mem_of_getElem? (i := 25) rfl) rfl)
theorem wArr_long : Cond.arrayClass (newarray.typeOf .long) ∈ W0 := (mt2 (List.mem_of_getElem? (i := 114) rfl) rfl)
def fl (n : Nat) (x : Int32) (f : Nat → Int32) : Nat → Int32 := fun k => if k < n then x else f k
theorem nI_leQ {a b : Nat} (ha : a < 2 ^ 31) (hb : b < 2 ^ 31) : nI a ≤ nI b ↔ a ≤ b := by
  rw [Int32.le_iff_toInt_le, nI_toInt ha, nI_toInt hb]
  omega
theorem k_as {j : MT} {d mc ms : Nat} {D : va_G} {ty : Nat → ClassId} {base : Nat} {Post : va_W → Prop} {pc u v : Nat} {L : List (Nat × Value)} {st : List Value} {ws tl x tl' : va_W} (ht : tl ++ x = tl') (k : KW j d mc ms D ty base Post pc L st (ws ++ tl') u v) : KW j d mc ms D ty base Post pc L st ((ws ++ tl) ++ x) u v := by
  rw [List.append_assoc, ht]; exact k
set_option maxHeartbeats 4000000 in
theorem k_fill {D : va_G} {ty : Nat → ClassId} {base : Nat} {ws tl : va_W} {a o n : Nat} {f : Nat → Int32} {x : Int32} (he : tl[o]? = some (a, .inl (ty 1, n, .inl f))) (hn : n < 2 ^ 31) : KC mJ7_fill_53178 1 0 0 D ty base [.ref a, .int x] (ws ++ tl) (fun W2 => W2 = ws ++ tl.set o (a, .inl (ty 1, n, .inl (fl n x f)))) := by
  refine kc_of rfl (Nat.le_of_ble_eq_true rfl) ?_
  intro l p e s m args below meth c C H locs ls hP hD hS hl
  obtain ⟨hx, hb, hml, hr, hlk, hown, hts, hG, hnm⟩ := id C
  have hl : lv_has ls 4 [(0, .ref a), (1, .int x)] := hl
  have hol : o < tl.length := (List.getElem?_eq_some_iff.mp he).1
  refine lv_iconst (v := 0) hx hb dJ7_fill_53178_0 rfl ?_
  refine lv_istore_n (lv' := [(2, .int 0), (0, .ref a), (1, .int x)]) hx hb dJ7_fill_53178_1 rfl hl (by decide) rfl (fun ls hl => ?_)
  refine lv_aload_n hx hb dJ7_fill_53178_2 rfl (hl.2.2 (0, .ref a) (by simp)) ?_
  refine va_alen hx hb hG.1 hP (ws.length + o) 0 (tl_get he) rfl (v := nI n) rfl dJ7_fill_53178_3 ?_
  refine lv_istore_n (lv' := [(3, .int (nI n)), (2, .int 0), (0, .ref a), (1, .int x)]) hx hb dJ7_fill_53178_4 rfl hl (by decide) rfl (fun ls hl => ?_)
  have loop : ∀ (r i : Nat), i + r = n → ∀ (H : Heap) (locs : List Loc) (ls : Array Slot), va_P D vwCl (ws ++ tl.set o (a, .inl (ty 1, n, .inl (fl i x f)))) H → va_D (kA base) (ws ++ tl.set o (a, .inl (ty 1, n, .inl (fl i x f)))) → va_S (kA base) s.heap H locs → lv_has ls 4 [(3, .int (nI n)), (2, .int (nI i)), (0, .ref a), (1, .int x)] → W p l e (rmk 1 0 0) s m args below meth c H locs 0 0 (vx_MQ below (kQ D base (fun W2 => W2 = ws ++ tl.set o (a, .inl (ty 1, n, .inl (fl n x f))))) kN args s 0 0 (kA base)) (F0 m 5 ls []) := by
    intro r
    induction r with
    | zero =>
      intro i hi H locs ls hP hD hS hl
      refine lv_iload_n hx hb dJ7_fill_53178_5 rfl (hl.2.2 (2, .int (nI i)) (by simp)) ?_
      refine lv_iload_n hx hb dJ7_fill_53178_6 rfl (hl.2.2 (3, .int (nI n)) (by simp)) ?_
      obtain rfl : i = n := by omega
      refine lv_icmp_ge (tgt := 20) hx hb dJ7_fill_53178_7 (by decide) (fun c9 => ?_) (fun c9 => ?_)
      · refine vx_ret ?_
        exact W.vret hx hb hr (fun t ht _ => ⟨⟨rfl, _, rfl, by rw [ht]; exact hP, hD⟩, hS.F ht⟩) hS.2.2 dJ7_fill_53178_20 hlk
      · exact (c9 ((nI_leQ hn hn).mpr (Nat.le_refl _))).elim
    | succ r ih =>
      intro i hi H locs ls hP hD hS hl
      refine lv_iload_n hx hb dJ7_fill_53178_5 rfl (hl.2.2 (2, .int (nI i)) (by simp)) ?_
      refine lv_iload_n hx hb dJ7_fill_53178_6 rfl (hl.2.2 (3, .int (nI n)) (by simp)) ?_
      refine lv_icmp_ge (tgt := 20) hx hb dJ7_fill_53178_7 (by decide) (fun c9 => ?_) (fun c9 => ?_)
      · have := (nI_leQ hn (by omega)).mp c9
        omega
      · refine lv_aload_n hx hb dJ7_fill_53178_10 rfl (hl.2.2 (0, .ref a) (by simp)) ?_
        refine lv_iload_n hx hb dJ7_fill_53178_11 rfl (hl.2.2 (2, .int (nI i)) (by simp)) ?_
        refine lv_iload_n hx hb dJ7_fill_53178_12 rfl (hl.2.2 (1, .int x) (by simp)) ?_
        have hix : IX (nI i) n i := ⟨nI_toInt (by omega), by omega⟩
        refine va_iast hx hb hG.1 hP hD hS (ws.length + o) 0 (tl_get (List.getElem?_set_self hol)) rfl hix.in dJ7_fill_53178_13 (fun H1 locs1 hP1 hD1 hS1 => ?_)
        have e9 : upd (fl i x f) (nI i).toNatClampNeg x = fl (i + 1) x f := by
          rw [hix.cl]
          funext k
          simp only [upd, fl]
          by_cases h1 : k = i
          · subst h1; simp
          · by_cases h2 : k < i
            · simp [h1, h2, show k < i + 1 by omega]
            · simp [h1, h2, show ¬ k < i + 1 by omega]
        rw [e9, tl_set (tl' := tl.set o (a, .inl (ty 1, n, .inl (fl (i + 1) x f)))) (by rw [List.set_set])] at hP1 hD1
        refine lv_iinc (k := 1) (x := nI i) (v := nI (i + 1)) (lv' := [(2, .int (nI (i + 1))), (3, .int (nI n)), (0, .ref a), (1, .int x)]) hx hb dJ7_fill_53178_14 hl rfl (nI_addQ (b := 1) (by omega)) (by decide) rfl (fun ls hl => ?_)
        refine lv_goto (tgt := 5) hx hb dJ7_fill_53178_17 (by decide) ?_
        refine ih (i + 1) (by omega) H1 locs1 ls hP1 hD1 hS1 ⟨hl.1, hl.2.1, fun q hq => hl.2.2 q ?_⟩
        simp only [List.mem_cons, List.not_mem_nil, or_false] at hq ⊢
        rcases hq with h | h | h | h
        · exact Or.inr (Or.inl h)
        · exact Or.inl h
        · exact Or.inr (Or.inr (Or.inl h))
        · exact Or.inr (Or.inr (Or.inr h))
  have e0 : tl.set o (a, .inl (ty 1, n, .inl (fl 0 x f))) = tl := by
    have : fl 0 x f = f := by funext k; simp [fl]
    rw [this]
    apply List.ext_getElem?
    intro k
    by_cases h1 : k = o
    · subst h1; rw [List.getElem?_set_self hol, he]
    · rw [List.getElem?_set_ne (Ne.symm h1)]
  refine loop n 0 (by omega) H locs ls ?_ ?_ hS hl
  · rw [e0]; exact hP
  · rw [e0]; exact hD
