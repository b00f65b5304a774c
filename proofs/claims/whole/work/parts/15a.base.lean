/-! ===== phase 2: pure programs as predicates; numbers; cells; loops ===== -/
def rn {α : Type} (m : Option α) (Q : α → Prop) : Prop := ∃ a, m = some a ∧ Q a
theorem rn_some {α : Type} {a : α} {Q : α → Prop} : rn (some a) Q ↔ Q a := ⟨fun ⟨_, h, q⟩ => by cases h; exact q, fun q => ⟨a, rfl, q⟩⟩
theorem rn_none {α : Type} {Q : α → Prop} : rn none Q ↔ False := ⟨fun ⟨_, h, _⟩ => (by cases h), False.elim⟩
theorem rn_gd {α : Type} {p : Prop} [Decidable p] {x : Option α} {Q : α → Prop} : rn (gd p x) Q ↔ p ∧ rn x Q := by
  by_cases h : p
  · simp [gd, h]
  · simp [gd, h, rn_none]
theorem gd_t {α : Type} {p : Prop} (h : p) {i : Decidable p} {x : Option α} : @gd α p i x = x := if_pos h
theorem rn_lt {α β : Type} {x : α} {f : α → Option β} {Q : β → Prop} : rn (lt x f) Q ↔ rn (f x) Q := Iff.rfl
theorem rn_bI {β : Type} {m : Option (Int32 × PS)} {f : Int32 → PS → Option β} {Q : β → Prop} : rn (bI m f) Q ↔ rn m (fun q => rn (f q.1 q.2) Q) := by
  cases m with
  | none => simp [bI, rn_none]
  | some q => simp [bI, rn_some]
theorem rn_bJ {β : Type} {m : Option (Int64 × PS)} {f : Int64 → PS → Option β} {Q : β → Prop} : rn (bJ m f) Q ↔ rn m (fun q => rn (f q.1 q.2) Q) := by
  cases m with
  | none => simp [bJ, rn_none]
  | some q => simp [bJ, rn_some]
theorem rn_bV {β : Type} {m : Option PS} {f : PS → Option β} {Q : β → Prop} : rn (bV m f) Q ↔ rn m (fun q => rn (f q) Q) := by
  cases m with
  | none => simp [bV, rn_none]
  | some q => simp [bV, rn_some]
theorem rn_bT {α β : Type} {m : Option α} {f : α → Option β} {Q : β → Prop} : rn (bT m f) Q ↔ rn m (fun q => rn (f q) Q) := by
  cases m with
  | none => simp [bT, rn_none]
  | some q => simp [bT, rn_some]
theorem rn_ite {α : Type} {c : Prop} [Decidable c] {a b : Option α} {Q : α → Prop} : rn (if c then a else b) Q ↔ (c → rn a Q) ∧ (¬ c → rn b Q) := by
  by_cases h : c <;> simp [h]
theorem rn_bU {β : Type} {m : Option ((Unit ⊕ String) × PS)} {f : PS → Option ((β ⊕ String) × PS)} {Q : (β ⊕ String) × PS → Prop} : rn (bU m f) Q ↔ rn m (fun q => (q.1 = .inl () → rn (f q.2) Q) ∧ ∀ E, q.1 = .inr E → Q (.inr E, q.2)) := by
  rcases m with _ | ⟨_ | E, S⟩
  · simp [bU, rn_none]
  · simp [bU, rn_some]
  · simp [bU, rn_some]
theorem rn_bH {β : Type} {m : Option ((Int32 ⊕ String) × PS)} {f : Int32 → PS → Option β} {fN fI : PS → Option β} {Q : β → Prop} : rn (bH m f fN fI) Q ↔ rn m (fun q => (∀ x, q.1 = .inl x → rn (f x q.2) Q) ∧ ∀ E, q.1 = .inr E → rn (if E = nNSE then fN q.2 else if E = nIAE then fI q.2 else none) Q) := by
  rcases m with _ | ⟨x | E, S⟩
  · simp [bH, rn_none]
  · simp [bH, rn_some]
  · simp [bH, rn_some]
theorem rn_mono {α : Type} {m : Option α} {Q R : α → Prop} (h : rn m Q) (hq : ∀ a, Q a → R a) : rn m R := by
  obtain ⟨a, h1, h2⟩ := h
  exact ⟨a, h1, hq a h2⟩
theorem nNI : nNSE ≠ nIAE := by decide
/-- a loop that counts up -/
theorem forG {σ β : Type} {f : Nat → Nat → σ → Option β} (hi : Nat) {J : Nat → σ → Prop} {Q : β → Prop}
    (done : ∀ n s, J hi s → rn (f (n + 1) hi s) Q)
    (step : ∀ n k s, k < hi → J k s → (∀ s', J (k + 1) s' → rn (f n (k + 1) s') Q) → rn (f (n + 1) k s) Q) :
    ∀ n k s, k ≤ hi → J k s → hi < n + k → rn (f n k s) Q
  | 0, k, s, hk, _, hn => by omega
  | n + 1, k, s, hk, hJ, hn => by
    by_cases e : k = hi
    · subst e; exact done n s hJ
    · exact step n k s (by omega) hJ (fun s' h' => forG hi done step n (k + 1) s' (by omega) h' (by omega))
/-- a loop with a measure -/
theorem lpG {σ β : Type} {f : Nat → σ → Option β} {J : σ → Prop} (m : σ → Nat) {Q : β → Prop}
    (step : ∀ n s, J s → (∀ s', J s' → m s' < m s → rn (f n s') Q) → rn (f (n + 1) s) Q) :
    ∀ n s, J s → m s < n → rn (f n s) Q
  | 0, s, _, hn => by omega
  | n + 1, s, hJ, hn => step n s hJ (fun s' h' hm => lpG m step n s' h' (by omega))
/-! numbers -/
def iN (k : Nat) : Int32 := Int32.ofNat k
theorem iN_add (a b : Nat) : iN a + iN b = iN (a + b) := (Int32.ofNat_add a b).symm
theorem iN_1 (k : Nat) : iN k + 1 = iN (k + 1) := iN_add k 1
theorem iN_ti {k : Nat} (h : k < 2147483648) : (iN k).toInt = (k : Int) := Int32.toInt_ofNat_of_lt h
theorem ix_iN {k : Nat} (h : k < 2147483648) : ix (iN k) = k := Int32.toNatClampNeg_ofNat_of_lt h
theorem iN_le {a b : Nat} (ha : a < 2147483648) (hb : b < 2147483648) : iN a ≤ iN b ↔ a ≤ b := Int32.ofNat_le_iff_le ha hb
theorem iN_lt {a b : Nat} (ha : a < 2147483648) (hb : b < 2147483648) : iN a < iN b ↔ a < b := Int32.ofNat_lt_iff_lt ha hb
theorem iN_eq {a b : Nat} (ha : a < 2147483648) (hb : b < 2147483648) : iN a = iN b ↔ a = b := by
  constructor
  · intro h
    have := congrArg Int32.toInt h
    rw [iN_ti ha, iN_ti hb] at this
    omega
  · intro h; rw [h]
theorem inr_iN {k n : Nat} (h : k < n) (hk : k < 2147483648) : inr (iN k) n := by
  have := iN_ti hk
  constructor <;> omega
theorem iN_of {x : Int32} (h : 0 ≤ x.toInt) : x = iN (ix x) := by
  apply Int32.toInt_inj.mp
  have h2 := Int32.toInt_lt x
  have h1 : ((ix x : Nat) : Int) = x.toInt := Int.toNat_of_nonneg h
  rw [iN_ti (by omega)]
  omega
theorem ix_lt (x : Int32) : ix x < 2147483648 := Int32.toNatClampNeg_lt x
theorem le_ti {x y : Int32} : x ≤ y ↔ x.toInt ≤ y.toInt := Int32.le_iff_toInt_le
theorem lt_ti {x y : Int32} : x < y ↔ x.toInt < y.toInt := Int32.lt_iff_toInt_lt
theorem eq_ti {x y : Int32} : x = y ↔ x.toInt = y.toInt := Int32.toInt_inj.symm
theorem ti_hi (x : Int32) : x.toInt < 2147483648 := Int32.toInt_lt x
theorem ti_lo (x : Int32) : -2147483648 ≤ x.toInt := Int32.le_toInt x
theorem bm_id {a : Int} (h : -2147483648 ≤ a) (h' : a < 2147483648) : a.bmod 4294967296 = a := by
  rw [Int.bmod_def]
  split <;> omega
theorem ti_add {x y : Int32} (h : -2147483648 ≤ x.toInt + y.toInt) (h' : x.toInt + y.toInt < 2147483648) : (x + y).toInt = x.toInt + y.toInt := by
  rw [Int32.toInt_add]; exact bm_id h h'
theorem ti_sub {x y : Int32} (h : -2147483648 ≤ x.toInt - y.toInt) (h' : x.toInt - y.toInt < 2147483648) : (x - y).toInt = x.toInt - y.toInt := by
  rw [Int32.toInt_sub]; exact bm_id h h'
theorem ti_mul {x y : Int32} (h : -2147483648 ≤ x.toInt * y.toInt) (h' : x.toInt * y.toInt < 2147483648) : (x * y).toInt = x.toInt * y.toInt := by
  rw [Int32.toInt_mul]; exact bm_id h h'
theorem ti_div {x y : Int32} (h : 0 ≤ x.toInt) (h' : 0 < y.toInt) : (x / y).toInt = x.toInt / y.toInt := by
  rw [Int32.toInt_div_of_ne_right]
  · exact Int.tdiv_eq_ediv_of_nonneg h
  · intro e
    rw [e] at h'
    revert h'
    decide
/-! cells -/
theorem u2_at {f : Nat → Nat → Int32} {a k : Nat} {x : Int32} : u2 f a k x a = upd (f a) k x := by simp [u2]
theorem u2_o {f : Nat → Nat → Int32} {a b k : Nat} {x : Int32} (h : b ≠ a) : u2 f a k x b = f b := by simp [u2, h]
theorem upd_at {f : Nat → Int32} {k : Nat} {x : Int32} : upd f k x k = x := by simp [upd]
theorem upd_o {f : Nat → Int32} {k j : Nat} {x : Int32} (h : j ≠ k) : upd f k x j = f j := by simp [upd, h]
theorem u2_a2 {f : Nat → Nat → Int32} {a k b j : Nat} {x : Int32} : u2 f a k x b j = if b = a ∧ j = k then x else f b j := by
  by_cases h : b = a
  · by_cases h2 : j = k <;> simp [u2, upd, h, h2]
  · simp [u2, h]
theorem urow_at {f : Nat → Nat → Int32} {a : Nat} {r : Nat → Int32} : urow f a r a = r := by simp [urow]
theorem urow_o {f : Nat → Nat → Int32} {a b : Nat} {r : Nat → Int32} (h : b ≠ a) : urow f a r b = f b := by simp [urow, h]
theorem u2_urow {f : Nat → Nat → Int32} {a k : Nat} {x : Int32} : urow f a (upd (f a) k x) = u2 f a k x := by
  funext b
  by_cases h : b = a
  · subst h; simp [urow, u2]
  · simp [urow, u2, h]
/-- nothing but these cells is changed -/
def FC (cs : Nat → Prop) (S T : PS) : Prop := (∀ a, ¬ cs a → T.1 a = S.1 a) ∧ T.2 = S.2
theorem FC.rfl {cs : Nat → Prop} {S : PS} : FC cs S S := ⟨fun _ _ => Eq.refl _, Eq.refl _⟩
theorem FC.tr {cs : Nat → Prop} {S T U : PS} (h : FC cs S T) (h' : FC cs T U) : FC cs S U := ⟨fun a ha => (h'.1 a ha).trans (h.1 a ha), h'.2.trans h.2⟩
theorem FC.mono {cs ds : Nat → Prop} {S T : PS} (h : FC cs S T) (hd : ∀ a, cs a → ds a) : FC ds S T := ⟨fun a ha => h.1 a (fun c => ha (hd a c)), h.2⟩
theorem FC.u {cs : Nat → Prop} {S T : PS} {a k : Nat} {x : Int32} (h : FC cs S T) (ha : cs a) : FC cs S (u2 T.1 a k x, T.2) :=
  ⟨fun b hb => (u2_o (fun e => hb (by rw [e]; exact ha))).trans (h.1 b hb), h.2⟩
theorem FC.row {cs : Nat → Prop} {S T : PS} {a : Nat} {r : Nat → Int32} (h : FC cs S T) (ha : cs a) : FC cs S (urow T.1 a r, T.2) :=
  ⟨fun b hb => (urow_o (fun e => hb (by rw [e]; exact ha))).trans (h.1 b hb), h.2⟩
/-- the model: nothing but these cells, and these fields of the object, is changed -/
def FM (cs fs : Nat → Prop) (S T : PS) : Prop := (∀ a, a ≠ 80 → ¬ cs a → T.1 a = S.1 a) ∧ (∀ k, ¬ fs k → T.1 80 k = S.1 80 k) ∧ T.2 = S.2
theorem FM.rfl {cs fs : Nat → Prop} {S : PS} : FM cs fs S S := ⟨fun _ _ _ => Eq.refl _, fun _ _ => Eq.refl _, Eq.refl _⟩
theorem FM.tr {cs fs : Nat → Prop} {S T U : PS} (h : FM cs fs S T) (h' : FM cs fs T U) : FM cs fs S U := ⟨fun a h8 ha => (h'.1 a h8 ha).trans (h.1 a h8 ha), fun k hk => (h'.2.1 k hk).trans (h.2.1 k hk), h'.2.2.trans h.2.2⟩
theorem FM.mono {cs fs ds gs : Nat → Prop} {S T : PS} (h : FM cs fs S T) (hd : ∀ a, cs a → ds a) (hg : ∀ a, fs a → gs a) : FM ds gs S T := ⟨fun a h8 ha => h.1 a h8 (fun c => ha (hd a c)), fun k hk => h.2.1 k (fun c => hk (hg k c)), h.2.2⟩
theorem FM.u {cs fs : Nat → Prop} {S T : PS} {a k : Nat} {x : Int32} (h : FM cs fs S T) (h8 : a ≠ 80) (ha : cs a) : FM cs fs S (u2 T.1 a k x, T.2) :=
  ⟨fun b hb hc => (u2_o (fun e => hc (by rw [e]; exact ha))).trans (h.1 b hb hc), fun j hj => by show u2 T.1 a k x 80 j = _; rw [u2_o (Ne.symm h8)]; exact h.2.1 j hj, h.2.2⟩
theorem FM.f {cs fs : Nat → Prop} {S T : PS} {k : Nat} {x : Int32} (h : FM cs fs S T) (hk : fs k) : FM cs fs S (u2 T.1 80 k x, T.2) :=
  ⟨fun b hb hc => (u2_o hb).trans (h.1 b hb hc), fun j hj => by show u2 T.1 80 k x 80 j = _; rw [u2_at, upd_o (fun e => hj (by rw [e]; exact hk))]; exact h.2.1 j hj, h.2.2⟩
