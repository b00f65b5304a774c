theorem tb1 {w : Cond} (h : w ∈ tables_1_1) : w ∈ lw_tbl := List.mem_append_right _ (List.mem_append_left _ h)
theorem tb2 {w : Cond} (h : w ∈ tables_1_2) : w ∈ lw_tbl := List.mem_append_right _ (List.mem_append_right _ (List.mem_append_left _ h))
theorem tb3 {w : Cond} (h : w ∈ tables_1_3) : w ∈ lw_tbl := List.mem_append_right _ (List.mem_append_right _ (List.mem_append_right _ (List.mem_append_left _ h)))
theorem tb4 {w : Cond} (h : w ∈ tables_1_4) : w ∈ lw_tbl := List.mem_append_right _ (List.mem_append_right _ (List.mem_append_right _ (List.mem_append_right _ (List.mem_append_left _ h))))
theorem tb5 {w : Cond} (h : w ∈ tables_1_5) : w ∈ lw_tbl := List.mem_append_right _ (List.mem_append_right _ (List.mem_append_right _ (List.mem_append_right _ (List.mem_append_right _ (List.mem_append_left _ h)))))
theorem tb6 {w : Cond} (h : w ∈ tables_1_6) : w ∈ lw_tbl := List.mem_append_right _ (List.mem_append_right _ (List.mem_append_right _ (List.mem_append_right _ (List.mem_append_right _ (List.mem_append_right _ (List.mem_append_left _ h))))))
theorem tb7 {w : Cond} (h : w ∈ tables_1_7) : w ∈ lw_tbl := List.mem_append_right _ (List.mem_append_right _ (List.mem_append_right _ (List.mem_append_right _ (List.mem_append_right _ (List.mem_append_right _ (List.mem_append_right _ (List.mem_append_left _ h)))))))
theorem tb8 {w : Cond} (h : w ∈ tables_1_8) : w ∈ lw_tbl := List.mem_append_right _ (List.mem_append_right _ (List.mem_append_right _ (List.mem_append_right _ (List.mem_append_right _ (List.mem_append_right _ (List.mem_append_right _ (List.mem_append_right _ (List.mem_append_left _ h))))))))
theorem tb9 {w : Cond} (h : w ∈ tables_1_9) : w ∈ lw_tbl := List.mem_append_right _ (List.mem_append_right _ (List.mem_append_right _ (List.mem_append_right _ (List.mem_append_right _ (List.mem_append_right _ (List.mem_append_right _ (List.mem_append_right _ (List.mem_append_right _ h))))))))
theorem arr_of {s : State} {args : Array Value} {t : FieldType} (h : (Cond.arrayClass t).before args s = true) : ∃ c, s.vm.findClass ("[" ++ t.toString) = some c ∧ ArrOfT s c t := by
  obtain ⟨c, k, comp, h1, h2, h3⟩ := Cond.arrayClass_spec h
  exact ⟨c, h1, fun n z => ⟨fun k h => (by cases h), k, h2, comp, h3⟩⟩
theorem start_K {s : State} {args : Array Value} (hts : ∀ w ∈ W0, w.before args s = true) : ∃ (D : va_G) (ty : Nat → ClassId), va_K D vwCl (kT ty) s := by
  obtain ⟨D, hD⟩ := start_C hts
  obtain ⟨a1, b1, d1⟩ := arr_of (hts _ wArr_int)
  obtain ⟨a2, b2, d2⟩ := arr_of (hts _ wArr_byte)
  obtain ⟨a3, b3, d3⟩ := arr_of (hts _ wArr_boolean)
  obtain ⟨a4, b4, d4⟩ := arr_of (hts _ wArr_long)
  refine ⟨D, fun k => if k = 1 then a1 else if k = 2 then a2 else if k = 3 then a3 else a4, hD, ?_⟩
  intro k q hq
  match k, hq with
  | 0, hq => cases hq; exact ⟨d1, b1⟩
  | 1, hq => cases hq; exact ⟨d2, b2⟩
  | 2, hq => cases hq; exact ⟨d3, b3⟩
  | 3, hq => cases hq; exact ⟨d4, b4⟩
  | (k + 4), hq => simp [kT] at hq
theorem nestI_in : ∀ q ∈ nestI, Cond.methodLinkNest q.1 q.2.1 q.2.2.1 q.2.2.2 ∈ lw_tbl := by
  intro q hq
  simp only [nestI, List.mem_cons, List.not_mem_nil, or_false] at hq
  rcases hq with rfl | rfl | rfl | rfl | rfl | rfl | rfl | rfl | rfl | rfl | rfl
  · exact (tb1 (List.mem_of_getElem? (i := 38) rfl))
  · exact (tb1 (List.mem_of_getElem? (i := 44) rfl))
  · exact (tb1 (List.mem_of_getElem? (i := 77) rfl))
  · exact (tb1 (List.mem_of_getElem? (i := 148) rfl))
  · exact (tb1 (List.mem_of_getElem? (i := 218) rfl))
  · exact (tb1 (List.mem_of_getElem? (i := 226) rfl))
  · exact (tb2 (List.mem_of_getElem? (i := 1) rfl))
  · exact (tb2 (List.mem_of_getElem? (i := 37) rfl))
  · exact (tb2 (List.mem_of_getElem? (i := 44) rfl))
  · exact (tb2 (List.mem_of_getElem? (i := 77) rfl))
  · exact (tb2 (List.mem_of_getElem? (i := 95) rfl))
theorem nestW_in : ∀ q ∈ nestW, Cond.methodLinkNest q.1 q.2.1 q.2.2.1 q.2.2.2 ∈ lw_tbl := by
  intro q hq
  simp only [nestW, List.mem_cons, List.not_mem_nil, or_false] at hq
  rcases hq with rfl | rfl | rfl | rfl | rfl
  · exact (tb2 (List.mem_of_getElem? (i := 205) rfl))
  · exact (tb2 (List.mem_of_getElem? (i := 225) rfl))
  · exact (tb4 (List.mem_of_getElem? (i := 142) rfl))
  · exact (tb5 (List.mem_of_getElem? (i := 81) rfl))
  · exact (tb5 (List.mem_of_getElem? (i := 158) rfl))
theorem decW_in : ∀ q ∈ decW, Cond.declares q ∈ lw_tbl := by
  intro q hq
  simp only [decW, List.mem_cons, List.not_mem_nil, or_false] at hq
  rcases hq with rfl | rfl | rfl
  · exact (tb3 (List.mem_of_getElem? (i := 89) rfl))
  · exact (tb3 (List.mem_of_getElem? (i := 91) rfl))
  · exact (tb3 (List.mem_of_getElem? (i := 93) rfl))
theorem casW_in : ∀ q ∈ casW, Cond.castable q.1 q.2 ∈ lw_tbl := by
  intro q hq
  simp only [casW, List.mem_cons, List.not_mem_nil, or_false] at hq
  rcases hq with rfl | rfl
  · exact (tb3 (List.mem_of_getElem? (i := 87) rfl))
  · exact (tb4 (List.mem_of_getElem? (i := 110) rfl))
