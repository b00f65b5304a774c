/-! ===== phase 2: bits, rows of cups ===== -/
set_option maxRecDepth 100000 in
theorem k_has : ∀ m : Fin 512, ∀ c : Fin 9, (iN m.val >>> (iN c.val &&& 31)) &&& 1 = cond (Nat.testBit m.val c.val) 1 0 := by decide +kernel
set_option maxRecDepth 100000 in
theorem k_or : ∀ m : Fin 512, ∀ c : Fin 9, iN m.val ||| (1 <<< (iN c.val &&& 31)) = iN (m.val ||| 2 ^ c.val) := by decide +kernel
set_option maxRecDepth 100000 in
theorem k_clr : ∀ m : Fin 512, ∀ c : Fin 9, iN m.val &&& ((1 <<< (iN c.val &&& 31)) ^^^ (-1)) = iN (m.val &&& (511 ^^^ 2 ^ c.val)) := by decide +kernel
set_option maxRecDepth 100000 in
theorem k_xor : ∀ m : Fin 512, ∀ c : Fin 9, iN m.val ^^^ (1 <<< (iN c.val &&& 31)) = iN (m.val ^^^ 2 ^ c.val) := by decide +kernel
theorem k_511 : ∀ c : Fin 9, ∀ i : Fin 9, Nat.testBit (511 ^^^ 2 ^ c.val) i.val = !decide (c.val = i.val) := by decide +kernel
theorem k_31 : ∀ c : Fin 32, iN c.val &&& 31 = iN c.val := by decide +kernel
theorem b_has {m c : Nat} (hm : m < 512) (hc : c < 9) : (iN m >>> (iN c &&& 31)) &&& 1 = cond (m.testBit c) 1 0 := k_has ⟨m, hm⟩ ⟨c, hc⟩
theorem b_or {m c : Nat} (hm : m < 512) (hc : c < 9) : iN m ||| (1 <<< (iN c &&& 31)) = iN (m ||| 2 ^ c) := k_or ⟨m, hm⟩ ⟨c, hc⟩
theorem b_clr {m c : Nat} (hm : m < 512) (hc : c < 9) : iN m &&& ((1 <<< (iN c &&& 31)) ^^^ (-1)) = iN (m &&& (511 ^^^ 2 ^ c)) := k_clr ⟨m, hm⟩ ⟨c, hc⟩
theorem b_xor {m c : Nat} (hm : m < 512) (hc : c < 9) : iN m ^^^ (1 <<< (iN c &&& 31)) = iN (m ^^^ 2 ^ c) := k_xor ⟨m, hm⟩ ⟨c, hc⟩
theorem b_31 {c : Nat} (hc : c < 32) : iN c &&& 31 = iN c := k_31 ⟨c, hc⟩
theorem p2_lt {c : Nat} (hc : c < 9) : 2 ^ c < 512 := by
  have : 2 ^ c < 2 ^ 9 := Nat.pow_lt_pow_right (by omega) hc
  simpa using this
theorem bor_lt {m c : Nat} (hm : m < 512) (hc : c < 9) : m ||| 2 ^ c < 512 := Nat.or_lt_two_pow (n := 9) hm (p2_lt hc)
theorem bxor_lt {m c : Nat} (hm : m < 512) (hc : c < 9) : m ^^^ 2 ^ c < 512 := Nat.xor_lt_two_pow (n := 9) hm (p2_lt hc)
theorem bclr_lt {m k : Nat} (hm : m < 512) : m &&& k < 512 := Nat.lt_of_le_of_lt Nat.and_le_left hm
theorem tb_or {m c i : Nat} : (m ||| 2 ^ c).testBit i = (m.testBit i || decide (c = i)) := by rw [Nat.testBit_or, Nat.testBit_two_pow]
theorem tb_xor {m c i : Nat} : (m ^^^ 2 ^ c).testBit i = (m.testBit i ^^ decide (c = i)) := by rw [Nat.testBit_xor, Nat.testBit_two_pow]
theorem tb_clr {m c i : Nat} (hc : c < 9) (hi : i < 9) : (m &&& (511 ^^^ 2 ^ c)).testBit i = (m.testBit i && !decide (c = i)) := by rw [Nat.testBit_and, k_511 ⟨c, hc⟩ ⟨i, hi⟩]
theorem b_ext {m m' : Nat} (hm : m < 512) (hm' : m' < 512) (h : ∀ c, c < 9 → m.testBit c = m'.testBit c) : m = m' := by
  apply Nat.eq_of_testBit_eq
  intro i
  by_cases hi : i < 9
  · exact h i hi
  · have h2 : 2 ^ 9 ≤ 2 ^ i := Nat.pow_le_pow_right (by omega) (by omega)
    rw [Nat.testBit_lt_two_pow (Nat.lt_of_lt_of_le hm h2), Nat.testBit_lt_two_pow (Nat.lt_of_lt_of_le hm' h2)]
theorem iN_s1 (k : Nat) : iN (k + 1) - 1 = iN k := by rw [← iN_1, Int32.add_sub_cancel]
theorem iN_m1 (k : Nat) : iN (k + 1) + (-1) = iN k := by
  rw [← iN_1, Int32.add_assoc]
  exact Int32.add_zero _
theorem iN_n1 {k : Nat} (h : k < 2147483648) : iN k ≠ -1 := by
  intro e
  have := congrArg Int32.toInt e
  rw [iN_ti h] at this
  have h2 : (-1 : Int32).toInt = -1 := by decide
  omega
/-- a set of cups as bits, against a row of 0 and 1 -/
def bt (x : Int32) (f : Nat → Int32) : Prop := ∃ m, m < 512 ∧ x = iN m ∧ ∀ c, c < 9 → f c = cond (m.testBit c) 1 0
theorem bt_has {x : Int32} {f : Nat → Int32} {c : Nat} (h : bt x f) (hc : c < 9) : (x >>> (iN c &&& 31)) &&& 1 = f c := by
  obtain ⟨m, hm, rfl, hf⟩ := h
  rw [b_has hm hc, hf c hc]
theorem bt_or {x : Int32} {f : Nat → Int32} {c : Nat} (h : bt x f) (hc : c < 9) : bt (x ||| (1 <<< (iN c &&& 31))) (upd f c 1) := by
  obtain ⟨m, hm, rfl, hf⟩ := h
  refine ⟨m ||| 2 ^ c, bor_lt hm hc, b_or hm hc, fun i hi => ?_⟩
  rw [tb_or]
  by_cases e : i = c
  · subst e; simp [upd]
  · simp [upd, e, Ne.symm e, hf i hi]
theorem bt_clr {x : Int32} {f : Nat → Int32} {c : Nat} (h : bt x f) (hc : c < 9) : bt (x &&& ((1 <<< (iN c &&& 31)) ^^^ (-1))) (upd f c 0) := by
  obtain ⟨m, hm, rfl, hf⟩ := h
  refine ⟨m &&& (511 ^^^ 2 ^ c), bclr_lt hm, b_clr hm hc, fun i hi => ?_⟩
  rw [tb_clr hc hi]
  by_cases e : i = c
  · subst e; simp [upd]
  · simp [upd, e, Ne.symm e, hf i hi]
theorem bt_xor {x : Int32} {f : Nat → Int32} {c : Nat} (h : bt x f) (hc : c < 9) : bt (x ^^^ (1 <<< (iN c &&& 31))) (upd f c (1 - f c)) := by
  obtain ⟨m, hm, rfl, hf⟩ := h
  refine ⟨m ^^^ 2 ^ c, bxor_lt hm hc, b_xor hm hc, fun i hi => ?_⟩
  rw [tb_xor]
  by_cases e : i = c
  · subst e
    rw [upd_at, hf i hi]
    cases m.testBit i <;> simp
  · simp [upd, e, Ne.symm e, hf i hi]
theorem bt_congr {x : Int32} {f g : Nat → Int32} (h : bt x f) (e : ∀ c, c < 9 → g c = f c) : bt x g := by
  obtain ⟨m, hm, hx, hf⟩ := h
  exact ⟨m, hm, hx, fun c hc => (e c hc).trans (hf c hc)⟩
theorem bt_uniq {x y : Int32} {f g : Nat → Int32} (h : bt x f) (h' : bt y g) (e : ∀ c, c < 9 → f c = g c) : x = y := by
  obtain ⟨m, hm, rfl, hf⟩ := h
  obtain ⟨m', hm', rfl, hg⟩ := h'
  rw [b_ext hm hm' (fun c hc => ?_)]
  have h3 := hf c hc
  rw [e c hc, hg c hc] at h3
  revert h3
  cases m.testBit c <;> cases m'.testBit c <;> simp
theorem bt_0 : bt 0 (fun _ => 0) := ⟨0, by omega, rfl, fun c _ => by simp⟩
/-- rows of cups: 0 holds, 1 fill, 2 first, 3 second, 4 tips, 5 plugged, 6 turn; 7 the hour -/
def WR (n : Nat) (A : Nat → Nat → Int32) (c : Nat) : Prop :=
  (1 ≤ (A 0 c).toInt ∧ (A 0 c).toInt ≤ 30) ∧ (0 ≤ (A 1 c).toInt ∧ (A 1 c).toInt < (A 0 c).toInt) ∧
  (A 2 c = -1 ∨ ∃ d, A 2 c = iN d ∧ c < d ∧ d < n) ∧ (A 3 c = -1 ∨ ∃ d, A 3 c = iN d ∧ c < d ∧ d < n ∧ A 2 c ≠ A 3 c ∧ A 2 c ≠ -1) ∧
  (0 ≤ (A 4 c).toInt ∧ (A 4 c).toInt ≤ 1000000000) ∧ (A 5 c = 0 ∨ A 5 c = 1) ∧ (A 6 c = 0 ∨ A 6 c = 1) ∧
  (n ≤ c → A 0 c = 1 ∧ A 1 c = 0 ∧ A 2 c = -1 ∧ A 3 c = -1 ∧ A 4 c = 0 ∧ A 5 c = 0 ∧ A 6 c = 0)
def WF (n : Nat) (A : Nat → Nat → Int32) : Prop := n ≤ 9 ∧ ∀ c, c < 9 → WR n A c
/-- the class's row at the object o -/
def CU (o : Nat) (A : Nat → Nat → Int32) (S : PS) : Prop :=
  (∀ k, k < 5 → ∀ c, c < 9 → S.1 (sr o k) c = A k c) ∧ S.1 o 6 = A 7 0 ∧ bt (S.1 o 7) (A 5) ∧ bt (S.1 o 8) (A 6)
/-- the model's row at b -/
def MR (b n : Nat) (A : Nat → Nat → Int32) (S : PS) : Prop :=
  S.1 91 b = A 7 0 ∧ ∀ c, c < n → S.1 91 (b + 1 + c) = A 0 c ∧ S.1 91 (b + 10 + c) = A 1 c ∧ S.1 91 (b + 19 + c) = A 2 c ∧ S.1 91 (b + 28 + c) = A 3 c ∧ S.1 91 (b + 46 + c) = A 4 c ∧ S.1 91 (b + 55 + c) = A 5 c ∧ S.1 91 (b + 37 + c) = A 6 c
def isCu (o : Nat) : Prop := o = 18 ∨ o = 19 ∨ o = 20 ∨ o = 21 ∨ o = 22
theorem isCu.ob {o : Nat} (h : isCu o) : obj o 2 := by rcases h with rfl | rfl | rfl | rfl | rfl <;> exact ⟨rfl, by decide⟩
theorem isCu.ar {o : Nat} (h : isCu o) {k : Nat} (hk : k < 6) : arr (sr o k) 1 9 := by
  have : k = 0 ∨ k = 1 ∨ k = 2 ∨ k = 3 ∨ k = 4 ∨ k = 5 := by omega
  rcases h with rfl | rfl | rfl | rfl | rfl <;> rcases this with rfl | rfl | rfl | rfl | rfl | rfl <;> exact ⟨rfl, by decide⟩
theorem isCu.sr {o : Nat} (h : isCu o) {k : Nat} (hk : k < 6) : sr o k = 50 + 6 * (o - 18) + k := by
  have : k = 0 ∨ k = 1 ∨ k = 2 ∨ k = 3 ∨ k = 4 ∨ k = 5 := by omega
  rcases h with rfl | rfl | rfl | rfl | rfl <;> rcases this with rfl | rfl | rfl | rfl | rfl | rfl <;> rfl
theorem isCu.rg {o : Nat} (h : isCu o) : 18 ≤ o ∧ o ≤ 22 := by rcases h with rfl | rfl | rfl | rfl | rfl <;> decide
/-- the cells of the cups at o -/
def cuC (o : Nat) (a : Nat) : Prop := a = o ∨ (50 + 6 * (o - 18) ≤ a ∧ a < 50 + 6 * (o - 18) + 6)
theorem CU.fr {o : Nat} {A : Nat → Nat → Int32} {S T : PS} {cs : Nat → Prop} (ho : isCu o) (h : CU o A S) (hf : ∀ a, ¬ cs a → T.1 a = S.1 a) (hc : ∀ a, cuC o a → ¬ cs a) : CU o A T := by
  have h1 : T.1 o = S.1 o := hf o (hc o (Or.inl rfl))
  refine ⟨fun k hk c hcc => ?_, ?_, ?_, ?_⟩
  · rw [hf (sr o k) (hc _ (Or.inr (by rw [ho.sr (by omega)]; omega)))]
    exact h.1 k hk c hcc
  · rw [h1]; exact h.2.1
  · rw [h1]; exact h.2.2.1
  · rw [h1]; exact h.2.2.2
theorem CU.u {o : Nat} {A : Nat → Nat → Int32} {S : PS} {k c : Nat} {x : Int32} (ho : isCu o) (h : CU o A S) (hk : k < 5) : CU o (u2 A k c x) (u2 S.1 (sr o k) c x, S.2) := by
  have hr := ho.rg
  have hne : o ≠ sr o k := by rw [ho.sr (by omega)]; omega
  refine ⟨fun j hj i hi => ?_, ?_, ?_, ?_⟩
  · show u2 S.1 (sr o k) c x (sr o j) i = u2 A k c x j i
    rw [u2_a2, u2_a2, h.1 j hj i hi]
    have : (sr o j = sr o k) ↔ j = k := by rw [ho.sr (by omega), ho.sr (by omega)]; omega
    simp only [this]
  · show u2 S.1 (sr o k) c x o 6 = u2 A k c x 7 0
    rw [u2_o hne, u2_o (by omega)]; exact h.2.1
  · show bt (u2 S.1 (sr o k) c x o 7) (u2 A k c x 5)
    rw [u2_o hne, u2_o (by omega)]; exact h.2.2.1
  · show bt (u2 S.1 (sr o k) c x o 8) (u2 A k c x 6)
    rw [u2_o hne, u2_o (by omega)]; exact h.2.2.2
/-- another cell than those of the cups -/
theorem CU.o {o : Nat} {A : Nat → Nat → Int32} {S : PS} {a k : Nat} {x : Int32} (ho : isCu o) (h : CU o A S) (ha : ¬ cuC o a) : CU o A (u2 S.1 a k x, S.2) :=
  h.fr ho (cs := fun b => b = a) (fun _ hb => u2_o hb) (fun _ hb e => ha (e ▸ hb))
theorem CU.u8 {o : Nat} {A : Nat → Nat → Int32} {S : PS} {x : Int32} {f : Nat → Int32} (ho : isCu o) (h : CU o A S) (hb : bt x f) : CU o (urow A 6 f) (u2 S.1 o 8 x, S.2) := by
  have hr := ho.rg
  refine ⟨fun j hj i hi => ?_, ?_, ?_, ?_⟩
  · show u2 S.1 o 8 x (sr o j) i = _
    rw [u2_o (by rw [ho.sr (by omega)]; omega), urow_o (by omega)]
    exact h.1 j hj i hi
  · show u2 S.1 o 8 x o 6 = _
    rw [u2_at, upd_o (by omega), urow_o (by omega)]; exact h.2.1
  · show bt (u2 S.1 o 8 x o 7) _
    rw [u2_at, upd_o (by omega), urow_o (by omega)]; exact h.2.2.1
  · show bt (u2 S.1 o 8 x o 8) _
    rw [u2_at, upd_at, urow_at]; exact hb
theorem CU.u7 {o : Nat} {A : Nat → Nat → Int32} {S : PS} {x : Int32} {f : Nat → Int32} (ho : isCu o) (h : CU o A S) (hb : bt x f) : CU o (urow A 5 f) (u2 S.1 o 7 x, S.2) := by
  have hr := ho.rg
  refine ⟨fun j hj i hi => ?_, ?_, ?_, ?_⟩
  · show u2 S.1 o 7 x (sr o j) i = _
    rw [u2_o (by rw [ho.sr (by omega)]; omega), urow_o (by omega)]
    exact h.1 j hj i hi
  · show u2 S.1 o 7 x o 6 = _
    rw [u2_at, upd_o (by omega), urow_o (by omega)]; exact h.2.1
  · show bt (u2 S.1 o 7 x o 7) _
    rw [u2_at, upd_at, urow_at]; exact hb
  · show bt (u2 S.1 o 7 x o 8) _
    rw [u2_at, upd_o (by omega), urow_o (by omega)]; exact h.2.2.2
theorem CU.u6 {o : Nat} {A : Nat → Nat → Int32} {S : PS} {x : Int32} (ho : isCu o) (h : CU o A S) : CU o (u2 A 7 0 x) (u2 S.1 o 6 x, S.2) := by
  have hr := ho.rg
  refine ⟨fun j hj i hi => ?_, ?_, ?_, ?_⟩
  · show u2 S.1 o 6 x (sr o j) i = _
    rw [u2_o (by rw [ho.sr (by omega)]; omega), u2_o (by omega)]
    exact h.1 j hj i hi
  · show u2 S.1 o 6 x o 6 = _
    rw [u2_at, upd_at, u2_at, upd_at]
  · show bt (u2 S.1 o 6 x o 7) _
    rw [u2_at, upd_o (by omega), u2_o (by omega)]; exact h.2.2.1
  · show bt (u2 S.1 o 6 x o 8) _
    rw [u2_at, upd_o (by omega), u2_o (by omega)]; exact h.2.2.2
