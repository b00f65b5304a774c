theorem adr_lt {a : Nat} {g : Nat → Nat} {b : Nat} {g2 : Nat → Nat} {o : Nat} {B B' : Nat → Nat} {k : Nat} (h : k < 112) : adr a g b g2 o B k = adr a g b g2 o B' k := by simp [adr, h]
theorem adr_ge {a : Nat} {g : Nat → Nat} {b : Nat} {g2 : Nat → Nat} {o : Nat} {B : Nat → Nat} {k : Nat} (h : 112 ≤ k) : adr a g b g2 o B k = B k := by simp [adr, show ¬ k < 112 by omega]
theorem str_ev {s : State} {args : Array Value} {own tx : String} {k : Nat} (h1 : (Cond.stringRef own k tx).before args s = true) (h2 : (Cond.exactly (.string own k) "java/lang/String").before args s = true) : ∃ a, vk_R own k tx a s := by
  obtain ⟨a, c, cA, kA, q1, -⟩ := Cond.exactly_spec (args := args) (first := s) (o := none) (s := s) (idx := []) (t := .string own k) (cls := "java/lang/String") h2
  exact ⟨a, vk_R.of h1 q1⟩
set_option maxHeartbeats 4000000 in
set_option maxRecDepth 100000 in
theorem start_GF {s : State} {b len : Nat} {xs : Nat → Int32} {D : va_G} {ty : Nat → ClassId} (hts : ∀ w ∈ lw_tbl, w.before #[Value.ref b] s = true) (hs : ∀ c ∈ flatC (Jvm.Cond.and given_1 narrow_1), c.before #[Value.ref b] s = true) (hX : va_X b len xs s s.heap) (hbl : b < s.heap.size) (hK : va_K D vwCl (kT ty) s)
    (a : Nat) (g : Nat → Nat) (b2 : Nat) (g2 : Nat → Nat) (o : Nat) (hD : va_D (kA s.heap.size) (cre ty a g b2 g2 o)) : ∃ B : Nat → Nat, B 1000 = b ∧ GF (adr a g b2 g2 o B, ty, D.1, D.2, s.heap.size, len, xs) s s.heap := by
  obtain ⟨A, hAe⟩ : ∃ A, A = gA (adr a g b2 g2 o (fun _ => 0), ty, D.1, D.2, s.heap.size, len, xs) := ⟨_, rfl⟩
  have hA : ∀ q : Nat, q < s.heap.size → ¬ A q := by
    intro q hq h
    rw [hAe] at h
    rcases h with ⟨k, hk, rfl⟩ | h
    · exact absurd hq (Nat.not_lt.mpr (start_in (B := fun _ => 0) hD k hk))
    · exact absurd hq (Nat.not_lt.mpr h)
  have eA : ∀ B, gA (adr a g b2 g2 o B, ty, D.1, D.2, s.heap.size, len, xs) = A := by
    intro B
    rw [hAe]
    funext q
    apply propext
    constructor
    · rintro (⟨k, hk, rfl⟩ | h)
      · exact Or.inl ⟨k, hk, adr_lt (B := B) (B' := fun _ => 0) hk⟩
      · exact Or.inr h
    · rintro (⟨k, hk, rfl⟩ | h)
      · exact Or.inl ⟨k, hk, adr_lt (B := fun _ => 0) (B' := B) hk⟩
      · exact Or.inr h
  obtain ⟨adK, adV, hSt, hev⟩ := start_S hs hA
  have z1 : vx_Zq Bundle.tN "UNASSIGNED_STACK" Bundle.steD A s s.heap := vx_Zqof (hts _ (tb3 (List.mem_of_getElem? (i := 112) rfl))) (hts _ (tb1 (List.mem_of_getElem? (i := 15) rfl))) (hs _ (List.mem_of_getElem? (i := 4) rfl)) hA
  have z2 : vx_Zq Bundle.tN "SUPPRESSED_SENTINEL" Bundle.listD A s s.heap := vx_Zqof (hts _ (tb3 (List.mem_of_getElem? (i := 114) rfl))) (hts _ (tb1 (List.mem_of_getElem? (i := 15) rfl))) (hs _ (List.mem_of_getElem? (i := 5) rfl)) hA
  have z3 : va_Z "java/lang/String" "COMPACT_STRINGS" "Z" (.int 1) A s s.heap := va_Zof (hts _ (tb3 (List.mem_of_getElem? (i := 198) rfl))) (hts _ (tb1 (List.mem_of_getElem? (i := 20) rfl))) (va_eqt (hs _ (List.mem_of_getElem? (i := 6) rfl))) hA
  have z4 : va_Zq "jdk/internal/util/Preconditions" "SIOOBE_FORMATTER" "Ljava/util/function/BiFunction;" A s s.heap := va_Zqof (hts _ (tb3 (List.mem_of_getElem? (i := 214) rfl))) (hts _ (tb1 (List.mem_of_getElem? (i := 22) rfl))) (hs _ (List.mem_of_getElem? (i := 7) rfl)) hA
  obtain ⟨t9, z5⟩ : ∃ t9, va_Z "jdk/internal/util/Preconditions" "SIOOBE_FORMATTER" "Ljava/util/function/BiFunction;" .null A s s.heap ∨ va_Z "jdk/internal/util/Preconditions" "SIOOBE_FORMATTER" "Ljava/util/function/BiFunction;" (.ref t9) A s s.heap := by
    rcases z4 with h | ⟨t, h⟩
    · exact ⟨0, Or.inl h⟩
    · exact ⟨t, Or.inr h⟩
  obtain ⟨B, hB⟩ : ∃ B : Nat → Nat, B = fun k => if k = 1000 then b else if k = 1300 then t9 else if k < 1101 then adK (k - 1001) else adV (k - 1101) := ⟨_, rfl⟩
  have b0 : B 1000 = b := by rw [hB]; rfl
  have b1 : B 1300 = t9 := by rw [hB]; rfl
  have bK : ∀ i, i < litL.length → adr a g b2 g2 o B (1001 + i) = adK i := fun i hi => by
    have h9 : i < 12 := hi
    rw [adr_ge (by omega), hB]
    simp only [show ¬ 1001 + i = 1000 by omega, show ¬ 1001 + i = 1300 by omega, show 1001 + i < 1101 by omega, if_true, if_false, show 1001 + i - 1001 = i by omega]
  have bV : ∀ i, i < litL.length → adr a g b2 g2 o B (1101 + i) = adV i := fun i hi => by
    have h9 : i < 12 := hi
    rw [adr_ge (by omega), hB]
    simp only [show ¬ 1101 + i = 1000 by omega, show ¬ 1101 + i = 1300 by omega, show ¬ 1101 + i < 1101 by omega, if_true, if_false, show 1101 + i - 1101 = i by omega]
  refine ⟨B, b0, hK, start_inj hD, Nat.le_refl _, by rw [eA]; exact z1, by rw [eA]; exact z2, ⟨?_, ?_, ?_⟩, ?_⟩
  · show va_X (adr a g b2 g2 o B 1000) len xs s s.heap
    rw [adr_ge (by decide), b0]; exact hX
  · show adr a g b2 g2 o B 1000 < s.heap.size
    rw [adr_ge (by decide), b0]; exact hbl
  · rw [eA]
    show ¬ A (adr a g b2 g2 o B 1000)
    rw [adr_ge (by decide), b0]; exact hA b hbl
  · refine ⟨fun q hq => va_Nw.of rfl (hts _ (nestW_in q hq)), fun q hq => va_Nw.of rfl (hts _ (decW_in q hq)), fun q hq => va_Nw.of rfl (hts _ (casW_in q hq)), ?_, ?_, ?_, by rw [eA]; exact z3, ?_, va_Nc.of (hs _ (List.mem_of_getElem? (i := 38) rfl))⟩
    · intro q hq
      simp only [thrW, List.mem_cons, List.not_mem_nil, or_false] at hq
      rcases hq with rfl | rfl | rfl | rfl | rfl | rfl
      · exact str_ev (hts _ (tb3 (List.mem_of_getElem? (i := 125) rfl))) (hs _ (List.mem_of_getElem? (i := 39) rfl))
      · exact str_ev (hts _ (tb4 (List.mem_of_getElem? (i := 117) rfl))) (hs _ (List.mem_of_getElem? (i := 229) rfl))
      · exact str_ev (hts _ (tb4 (List.mem_of_getElem? (i := 158) rfl))) (hs _ (List.mem_of_getElem? (i := 258) rfl))
      · exact str_ev (hts _ (tb5 (List.mem_of_getElem? (i := 13) rfl))) (hs _ (List.mem_of_getElem? (i := 287) rfl))
      · exact str_ev (hts _ (tb5 (List.mem_of_getElem? (i := 111) rfl))) (hs _ (List.mem_of_getElem? (i := 322) rfl))
      · exact str_ev (hts _ (tb5 (List.mem_of_getElem? (i := 208) rfl))) (hs _ (List.mem_of_getElem? (i := 355) rfl))
    · intro q hq
      simp only [litW, List.mem_cons, List.not_mem_nil, or_false] at hq
      rcases hq with rfl | rfl | rfl | rfl | rfl | rfl | rfl | rfl | rfl | rfl | rfl | rfl
      · show vk_R "DripCups$Reader" 49 "cup" (adr a g b2 g2 o B (1001 + 0)) s
        rw [bK 0 (by decide)]; exact vk_R.of (hts _ (tb3 (List.mem_of_getElem? (i := 184) rfl))) (hev 0 (by decide))
      · show vk_R "DripCups$Reader" 58 "pipe" (adr a g b2 g2 o B (1001 + 1)) s
        rw [bK 1 (by decide)]; exact vk_R.of (hts _ (tb4 (List.mem_of_getElem? (i := 26) rfl))) (hev 1 (by decide))
      · show vk_R "DripCups$Reader" 63 "leaks" (adr a g b2 g2 o B (1001 + 2)) s
        rw [bK 2 (by decide)]; exact vk_R.of (hts _ (tb4 (List.mem_of_getElem? (i := 39) rfl))) (hev 2 (by decide))
      · show vk_R "DripCups$Reader" 150 "not" (adr a g b2 g2 o B (1001 + 3)) s
        rw [bK 3 (by decide)]; exact vk_R.of (hts _ (tb4 (List.mem_of_getElem? (i := 56) rfl))) (hev 3 (by decide))
      · show vk_R "DripCups$Reader" 170 "fill" (adr a g b2 g2 o B (1001 + 4)) s
        rw [bK 4 (by decide)]; exact vk_R.of (hts _ (tb4 (List.mem_of_getElem? (i := 85) rfl))) (hev 4 (by decide))
      · show vk_R "DripCups$Reader" 172 "holds" (adr a g b2 g2 o B (1001 + 5)) s
        rw [bK 5 (by decide)]; exact vk_R.of (hts _ (tb4 (List.mem_of_getElem? (i := 86) rfl))) (hev 5 (by decide))
      · show vk_R "DripCups$Reader" 174 "spring" (adr a g b2 g2 o B (1001 + 6)) s
        rw [bK 6 (by decide)]; exact vk_R.of (hts _ (tb4 (List.mem_of_getElem? (i := 87) rfl))) (hev 6 (by decide))
      · show vk_R "DripCups$Reader" 176 "tips" (adr a g b2 g2 o B (1001 + 7)) s
        rw [bK 7 (by decide)]; exact vk_R.of (hts _ (tb4 (List.mem_of_getElem? (i := 88) rfl))) (hev 7 (by decide))
      · show vk_R "DripCups$Reader" 178 "hour" (adr a g b2 g2 o B (1001 + 8)) s
        rw [bK 8 (by decide)]; exact vk_R.of (hts _ (tb4 (List.mem_of_getElem? (i := 89) rfl))) (hev 8 (by decide))
      · show vk_R "DripCups$Reader" 148 "and" (adr a g b2 g2 o B (1001 + 9)) s
        rw [bK 9 (by decide)]; exact vk_R.of (hts _ (tb4 (List.mem_of_getElem? (i := 90) rfl))) (hev 9 (by decide))
      · show vk_R "DripCups$Reader" 140 "or" (adr a g b2 g2 o B (1001 + 10)) s
        rw [bK 10 (by decide)]; exact vk_R.of (hts _ (tb4 (List.mem_of_getElem? (i := 91) rfl))) (hev 10 (by decide))
      · show vk_R "DripCups$Reader" 68 "frost" (adr a g b2 g2 o B (1001 + 11)) s
        rw [bK 11 (by decide)]; exact vk_R.of (hts _ (tb4 (List.mem_of_getElem? (i := 92) rfl))) (hev 11 (by decide))
    · rw [eA]
      exact ⟨fun i hi => by
        show va_O "java/lang/String" (adr a g b2 g2 o B (1001 + i)) A s s.heap ∧ va_OF "java/lang/String" "coder" "B" (.int 0) (adr a g b2 g2 o B (1001 + i)) A s s.heap ∧ va_OF "java/lang/String" "value" "[B" (.ref (adr a g b2 g2 o B (1101 + i))) (adr a g b2 g2 o B (1001 + i)) A s s.heap ∧ va_T .byte (adr a g b2 g2 o B (1101 + i)) (litL.getD i 0) (fun j => .int ((litB.getD i []).getD j 0)) A s s.heap
        rw [bK i hi, bV i hi]; exact hSt.1 i hi, fun i j hi hj h => hSt.2 i j hi hj (by
        have h9 : adr a g b2 g2 o B (1001 + i) = adr a g b2 g2 o B (1001 + j) := h
        rw [bK i hi, bK j hj] at h9; exact h9)⟩
    · rw [eA]
      show _ ∨ va_Z "jdk/internal/util/Preconditions" "SIOOBE_FORMATTER" "Ljava/util/function/BiFunction;" (.ref (adr a g b2 g2 o B 1300)) A s s.heap
      rw [adr_ge (by decide), b1]; exact z5
