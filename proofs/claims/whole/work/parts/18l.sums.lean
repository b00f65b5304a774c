/-! ===== phase 2: tips of all; straight below ===== -/
def capS (f : Nat → Int32) : Nat → Int32
  | 0 => 0
  | k + 1 => lesS (capS f k + f k)
theorem capS_s {f : Nat → Int32} {k : Nat} : capS f (k + 1) = lesS (capS f k + f k) := by rw [capS]
theorem lesL {z : Int32} : (if z < 1000000000 then z else 1000000000) = lesS z := by
  unfold lesS
  by_cases h : z < 1000000000
  · rw [if_pos h, if_pos (by rw [lt_ti] at h; rw [le_ti]; omega)]
  · rw [if_neg h]
    by_cases h2 : z ≤ 1000000000
    · rw [if_pos h2]
      rw [lt_ti] at h
      rw [le_ti] at h2
      exact Int32.toInt_inj.mp (by omega)
    · rw [if_neg h2]
theorem lesR {z : Int32} (h : 0 ≤ z.toInt) : 0 ≤ (lesS z).toInt ∧ (lesS z).toInt ≤ 1000000000 := by
  unfold lesS
  by_cases h2 : z ≤ 1000000000
  · rw [if_pos h2]
    rw [le_ti, b_ti] at h2
    exact ⟨h, h2⟩
  · rw [if_neg h2, b_ti]
    omega
theorem cap_r {n : Nat} {A : Rw} (hw : WF n A) : ∀ k, k ≤ 9 → 0 ≤ (capS (A 4) k).toInt ∧ (capS (A 4) k).toInt ≤ 1000000000
  | 0, _ => by rw [capS, z_ti]; omega
  | k + 1, h => by
    have ih := cap_r hw k (by omega)
    have h4 := (hw.2 k (by omega)).2.2.2.2.1
    rw [capS_s]
    refine lesR ?_
    rw [ti_add (by omega) (by omega)]
    omega
theorem cap_z {n : Nat} {A : Rw} (hw : WF n A) : ∀ m, n + m ≤ 9 → capS (A 4) (n + m) = capS (A 4) n
  | 0, _ => rfl
  | m + 1, h => by
    have r := cap_r hw (n + m) (by omega)
    have e4 : A 4 (n + m) = 0 := ((hw.2 (n + m) (by omega)).2.2.2.2.2.2.2 (by omega)).2.2.2.2.1
    rw [← Nat.add_assoc, capS_s, e4, Int32.add_zero]
    unfold lesS
    rw [if_pos (by rw [le_ti, b_ti]; omega)]
    exact cap_z hw m (by omega)
theorem cap9 {n : Nat} {A : Rw} (hw : WF n A) : capS (A 4) 9 = capS (A 4) n := by
  have hn := hw.1
  have := cap_z hw (9 - n) (by omega)
  have e : n + (9 - n) = 9 := by omega
  rw [e] at this
  exact this
theorem C_tipsAll {N o n : Nat} {A : Rw} {S : PS} (hN : 30000 ≤ N) (ho : isCu o) (hw : WF n A) (h : CU o A S) : fX2_tipsOfAll N o S = some (capS (A 4) n, S) := by
  have key : ∀ c, c ≤ 9 → ∀ m, 9 < m + c → fX2_tipsOfAll_4 N o m (capS (A 4) c) (iN c) S = some (capS (A 4) 9, iN 9, S) := by
    intro c hc m
    induction m generalizing c with
    | zero => intro h; omega
    | succ m ih =>
      intro hm
      rw [fX2_tipsOfAll_4]
      by_cases e : c = 9
      · rw [e, if_pos (show (9 : Int32) ≤ iN 9 from Int32.le_refl _)]
      · have i9 : inr (iN c) 9 := inr_iN (by omega) (by omega)
        have x9 : ix (iN c) = c := ix_iN (by omega)
        rw [if_neg (by rw [i9l (by omega)]; omega), gd_t ho.ob, gd_t (ho.ar (k := 4) (by omega)), gd_t i9, lt_b, lt_b, x9, h.1 4 (by omega) c (by omega), lesL, ← capS_s, iN_1]
        exact ih (c + 1) (by omega) (by omega)
  unfold fX2_tipsOfAll
  have := key 0 (by omega) N (by omega)
  rw [capS] at this
  rw [show fX2_tipsOfAll_4 N o N 0 0 S = fX2_tipsOfAll_4 N o N 0 (iN 0) S from rfl, this, ← cap9 hw]
  rfl
theorem M_tipsAll {N b n : Nat} {A : Rw} {S : PS} (hN : 30000 ≤ N) (hb : b ≤ 64) (hw : WF n A) (hm : S.1 80 1 = iN n) (h : MR b n A S) : fX12_sumOf N (iN b) 46 S = some (capS (A 4) n, S) := by
  have hn := hw.1
  have key : ∀ c, c ≤ n → ∀ m, n < m + c → fX12_sumOf_5 N (iN b) 46 m (capS (A 4) c) (iN c) S = some (capS (A 4) n, iN n, S) := by
    intro c hc m
    induction m generalizing c with
    | zero => intro h; omega
    | succ m ih =>
      intro hmm
      rw [fX12_sumOf_5, hm]
      by_cases e : c = n
      · rw [e, if_pos (Int32.le_refl _)]
      · have o10 : iN b + 46 + iN c = iN (b + 46 + c) := of_add b 46 c
        have i10 : inr (iN (b + 46 + c)) 128 := inr_iN (by omega) (by omega)
        have x10 : ix (iN (b + 46 + c)) = b + 46 + c := ix_iN (by omega)
        rw [if_neg (by rw [iN_le (by omega) (by omega)]; omega), o10, gd_t i10, x10, (h.2 c (by omega)).2.2.2.2.1]
        unfold fX12_lesser
        rw [lt_b, bI_s, lt_b, iN_1]
        exact ih (c + 1) (by omega) (by omega)
  unfold fX12_sumOf
  have := key 0 (by omega) N (by omega)
  rw [capS] at this
  rw [show fX12_sumOf_5 N (iN b) 46 N 0 0 S = fX12_sumOf_5 N (iN b) 46 N 0 (iN 0) S from rfl, this]
  rfl
theorem bit_any {N n c : Nat} {v : Int32} {S : PS} (hn : n ≤ 9) (hv : v = -1 ∨ ∃ d, v = iN d ∧ c < d ∧ d < n) : ∃ x, fX11_bitOf N v S = some (x, S) ∧ bt x (fun i => if v = iN i then 1 else 0) := by
  rcases hv with e | ⟨d, e, h1, h2⟩
  · subst e
    refine ⟨0, ?_, bt_congr bt_0 (fun i hi => if_neg (fun q => ?_))⟩
    · unfold fX11_bitOf
      rw [lt_b, if_pos (by decide)]
    · have := congrArg Int32.toInt q
      rw [iN_ti (by omega), show (-1 : Int32).toInt = -1 from by decide] at this
      omega
  · subst e
    refine ⟨_, bitOf_c (by omega), ?_⟩
    have := bt_or bt_0 (show d < 9 by omega)
    rw [show (0 : Int32) ||| (1 <<< (iN d &&& 31)) = 1 <<< (iN d &&& 31) from by simp] at this
    refine bt_congr this (fun i hi => ?_)
    by_cases q : i = d
    · rw [q, if_pos rfl, upd_at]
    · rw [if_neg (by rw [iN_eq (by omega) (by omega)]; omega), upd_o q]
/-- the cups straight below -/
def blS (A : Rw) (c d : Nat) : Int32 := if A 2 c = iN d ∨ A 3 c = iN d then 1 else 0
theorem C_below {N o n c : Nat} {A : Rw} {S : PS} (ho : isCu o) (hc : c < 9) (hw : WF n A) (h : CU o A S) : ∃ x, fX2_straightBelow N o (iN c) S = some (x, S) ∧ bt x (blS A c) := by
  have hr := hw.2 c hc
  have i9 : inr (iN c) 9 := inr_iN hc (by omega)
  have x9 : ix (iN c) = c := ix_iN (by omega)
  have e2 : S.1 (sr o 2) c = A 2 c := h.1 2 (by omega) c hc
  have e3 : S.1 (sr o 3) c = A 3 c := h.1 3 (by omega) c hc
  obtain ⟨x, hx, bx⟩ := bit_any (N := N) (S := S) (c := c) hw.1 hr.2.2.1
  obtain ⟨y, hy, bx2⟩ := bit_any (N := N) (S := S) (c := c) (v := A 3 c) hw.1 (by
    rcases hr.2.2.2.1 with e | ⟨d, e, q1, q2, -⟩
    · exact Or.inl e
    · exact Or.inr ⟨d, e, q1, q2⟩)
  refine ⟨x ||| y, ?_, bt_congr (bt_orr bx bx2) (fun i hi => ?_)⟩
  · unfold fX2_straightBelow
    rw [gd_t ho.ob, gd_t (ho.ar (k := 2) (by omega)), gd_t i9, x9, e2, hx, bI_s, gd_t ho.ob, gd_t (ho.ar (k := 3) (by omega)), gd_t i9, e3, hy, bI_s]
  · unfold blS
    by_cases a : A 2 c = iN i
    · simp [a]
    · simp [a]
theorem M_below {N n c d : Nat} {A : Rw} {S : PS} (hn : n ≤ 9) (hc : c < n) (h : MR 0 n A S) : fX12_goesInto N (iN c) (iN d) S = some (blS A c d, S) := by
  have o1 : (19 : Int32) + iN c = iN (0 + 19 + c) := by rw [show (19 : Int32) = iN 19 from rfl, iN_add]
  have i1 : inr (iN (0 + 19 + c)) 128 := inr_iN (by omega) (by omega)
  have x1 : ix (iN (0 + 19 + c)) = 0 + 19 + c := ix_iN (by omega)
  have o2 : (28 : Int32) + iN c = iN (0 + 28 + c) := by rw [show (28 : Int32) = iN 28 from rfl, iN_add]
  have i2 : inr (iN (0 + 28 + c)) 128 := inr_iN (by omega) (by omega)
  have x2 : ix (iN (0 + 28 + c)) = 0 + 28 + c := ix_iN (by omega)
  have r1 : S.1 91 (0 + 19 + c) = A 2 c := (h.2 c hc).2.2.1
  have r2 : S.1 91 (0 + 28 + c) = A 3 c := (h.2 c hc).2.2.2.1
  simp only [fX12_goesInto, o1, o2, gd_t i1, gd_t i2, x1, x2, r1, r2, lt_b]
  unfold blS
  by_cases a : A 2 c = iN d
  · rw [if_pos a, if_pos (Or.inl a)]
  · by_cases b : A 3 c = iN d
    · rw [if_neg a, if_pos b, if_pos (Or.inr b)]
      exact gd_t (Or.inr rfl)
    · rw [if_neg a, if_neg b, if_neg (fun q => by rcases q with q | q; exact a q; exact b q)]
      exact gd_t (Or.inl rfl)
