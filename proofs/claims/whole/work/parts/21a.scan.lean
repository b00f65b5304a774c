/-! ===== phase 2: tokens of a tape ===== -/
/-- as far as P holds -/
def ru (P : Int32 → Bool) (b : Nat → Int32) (L : Nat) : Nat → Nat → Nat
  | 0, p => p
  | k + 1, p => if p < L ∧ P (b p) = true then ru P b L k (p + 1) else p
theorem ru_s {P : Int32 → Bool} {b : Nat → Int32} {L k p : Nat} : ru P b L (k + 1) p = if p < L ∧ P (b p) = true then ru P b L k (p + 1) else p := by rw [ru]
def rU (P : Int32 → Bool) (b : Nat → Int32) (L p : Nat) : Nat := ru P b L (L - p) p
theorem rU_t {P : Int32 → Bool} {b : Nat → Int32} {L p : Nat} (h1 : p < L) (h2 : P (b p) = true) : rU P b L p = rU P b L (p + 1) := by
  unfold rU
  rw [show L - p = (L - (p + 1)) + 1 from by omega, ru_s, if_pos ⟨h1, h2⟩]
theorem rU_f {P : Int32 → Bool} {b : Nat → Int32} {L p : Nat} (h : ¬ (p < L ∧ P (b p) = true)) : rU P b L p = p := by
  unfold rU
  cases L - p with
  | zero => rw [ru]
  | succ k => rw [ru_s, if_neg h]
theorem rU_le {P : Int32 → Bool} {b : Nat → Int32} {L : Nat} : ∀ k p, L - p ≤ k → p ≤ rU P b L p ∧ (p ≤ L → rU P b L p ≤ L)
  | 0, p, h => by
    rw [rU_f (by omega)]
    exact ⟨Nat.le_refl _, id⟩
  | k + 1, p, h => by
    by_cases e : p < L ∧ P (b p) = true
    · rw [rU_t e.1 e.2]
      have := rU_le (P := P) (b := b) (L := L) k (p + 1) (by omega)
      exact ⟨by omega, fun _ => this.2 (by omega)⟩
    · rw [rU_f e]
      exact ⟨Nat.le_refl _, id⟩
theorem rU_all {P : Int32 → Bool} {b : Nat → Int32} {L : Nat} : ∀ k p, L - p ≤ k → ∀ i, p ≤ i → i < rU P b L p → P (b i) = true
  | 0, p, h => by
    intro i h1 h2
    rw [rU_f (by omega)] at h2
    omega
  | k + 1, p, h => by
    intro i h1 h2
    by_cases e : p < L ∧ P (b p) = true
    · rw [rU_t e.1 e.2] at h2
      by_cases ei : i = p
      · rw [ei]; exact e.2
      · exact rU_all k (p + 1) (by omega) i (by omega) h2
    · rw [rU_f e] at h2
      omega
def isB (x : Int32) : Bool := decide (x = 32 ∨ x = 10)
def isL (x : Int32) : Bool := decide (97 ≤ x ∧ x ≤ 122)
def isD (x : Int32) : Bool := decide (48 ≤ x ∧ x ≤ 57)
/-- the token that begins at or behind p: where, what, how far, its number -/
def tfr (b : Nat → Int32) (L p : Nat) : Nat := rU isB b L p
def tkd (b : Nat → Int32) (L p : Nat) : Nat := if tfr b L p < L then (if isL (b (tfr b L p)) = true then 1 else if isD (b (tfr b L p)) = true then 2 else 3) else 0
def tto (b : Nat → Int32) (L p : Nat) : Nat := if tkd b L p = 0 then tfr b L p else if tkd b L p = 1 then rU isL b L (tfr b L p) else if tkd b L p = 2 then rU isD b L (tfr b L p) else tfr b L p + 1
def vD (b : Nat → Int32) (fr : Nat) : Nat → Int32
  | 0 => 0
  | k + 1 => if k < 4 then vD b fr k * 10 + b (fr + k) - 48 else vD b fr k
theorem vD_s {b : Nat → Int32} {fr k : Nat} : vD b fr (k + 1) = if k < 4 then vD b fr k * 10 + b (fr + k) - 48 else vD b fr k := by rw [vD]
def tvl (b : Nat → Int32) (L p : Nat) : Int32 := vD b (tfr b L p) (tto b L p - tfr b L p)
section TKS
variable {b : Nat → Int32} {L p : Nat}
theorem tfr_le (hp : p ≤ L) : p ≤ tfr b L p ∧ tfr b L p ≤ L := by
  have := rU_le (P := isB) (b := b) (L := L) (L - p) p (Nat.le_refl _)
  exact ⟨this.1, this.2 hp⟩
theorem tkd_lt : tkd b L p ≤ 3 := by
  unfold tkd
  split
  · split
    · omega
    · split <;> omega
  · omega
theorem tkd_0 : tkd b L p = 0 ↔ ¬ tfr b L p < L := by
  unfold tkd
  split
  · rename_i h
    refine ⟨fun q => ?_, fun q => absurd h q⟩
    revert q
    split
    · intro q; omega
    · split <;> intro q <;> omega
  · rename_i h
    exact ⟨fun _ => h, fun _ => rfl⟩
theorem tto_le (hp : p ≤ L) : tfr b L p ≤ tto b L p ∧ tto b L p ≤ L ∧ (¬ tkd b L p = 0 → tfr b L p < tto b L p) := by
  have h := tfr_le (b := b) hp
  unfold tto
  by_cases e0 : tkd b L p = 0
  · rw [if_pos e0]
    exact ⟨Nat.le_refl _, h.2, fun q => absurd e0 q⟩
  · have hl : tfr b L p < L := by
      rcases Nat.lt_or_ge (tfr b L p) L with q | q
      · exact q
      · exact absurd (tkd_0.mpr (by omega)) e0
    rw [if_neg e0]
    by_cases e1 : tkd b L p = 1
    · rw [if_pos e1]
      have hL : isL (b (tfr b L p)) = true := by
        unfold tkd at e1
        rw [if_pos hl] at e1
        by_cases q : isL (b (tfr b L p)) = true
        · exact q
        · rw [if_neg q] at e1
          revert e1
          split <;> intro e1 <;> omega
      rw [rU_t hl hL]
      have := rU_le (P := isL) (b := b) (L := L) (L - (tfr b L p + 1)) (tfr b L p + 1) (Nat.le_refl _)
      have h2 := this.2 (by omega)
      exact ⟨by omega, h2, fun _ => by omega⟩
    · rw [if_neg e1]
      by_cases e2 : tkd b L p = 2
      · rw [if_pos e2]
        have hD : isD (b (tfr b L p)) = true := by
          unfold tkd at e2
          rw [if_pos hl] at e2
          by_cases q : isL (b (tfr b L p)) = true
          · rw [if_pos q] at e2; omega
          · rw [if_neg q] at e2
            by_cases q2 : isD (b (tfr b L p)) = true
            · exact q2
            · rw [if_neg q2] at e2; omega
        rw [rU_t hl hD]
        have := rU_le (P := isD) (b := b) (L := L) (L - (tfr b L p + 1)) (tfr b L p + 1) (Nat.le_refl _)
        have h2 := this.2 (by omega)
        exact ⟨by omega, h2, fun _ => by omega⟩
      · rw [if_neg e2]
        exact ⟨by omega, by omega, fun _ => by omega⟩
end TKS
/-- bytes as the class keeps them -/
def TB (b : Nat → Int32) (L : Nat) (S : PS) : Prop := L ≤ 700 ∧ S.1 2 2 = iN L ∧ ∀ k, k < L → BY (S.1 26 k) (b k)
theorem BY_eq {x y c : Int32} (h : BY x y) (hc : 0 ≤ c.toInt ∧ c.toInt < 128) : x = c ↔ y = c := by
  obtain ⟨h1, h2, h3⟩ := h
  constructor
  · intro e
    rcases Int.lt_or_le y.toInt 128 with q | q
    · rw [← h2 q]; exact e
    · have := h3 q
      rw [e] at this
      omega
  · intro e
    rw [h2 (by rw [e]; exact hc.2)]; exact e
theorem BY_rg {x y : Int32} {lo hi : Int32} (h : BY x y) (hlo : 0 ≤ lo.toInt) (hhi : hi.toInt < 128) : (lo ≤ x ∧ x ≤ hi) ↔ (lo ≤ y ∧ y ≤ hi) := by
  obtain ⟨h1, h2, h3⟩ := h
  rcases Int.lt_or_le y.toInt 128 with q | q
  · rw [h2 q]
  · have := h3 q
    rw [le_ti, le_ti, le_ti, le_ti]
    constructor
    · intro e; omega
    · intro e; omega
section SCC
variable {N : Nat} {b : Nat → Int32} {L : Nat} {S : PS}
theorem C_isB {x y : Int32} (h : BY x y) : fX10_isBlank N x S = some ((if isB y = true then 1 else 0), S) := by
  have e1 : x = 32 ↔ y = 32 := BY_eq h (by decide)
  have e2 : x = 10 ↔ y = 10 := BY_eq h (by decide)
  unfold fX10_isBlank isB
  by_cases a : y = 32
  · rw [if_pos (e1.mpr a), if_pos (decide_eq_true (Or.inl a)), lt_b]; exact gd_t (Or.inr rfl)
  · rw [if_neg (fun q => a (e1.mp q))]
    by_cases c : y = 10
    · rw [if_pos (e2.mpr c), if_pos (decide_eq_true (Or.inr c)), lt_b]; exact gd_t (Or.inr rfl)
    · rw [if_neg (fun q => c (e2.mp q)), if_neg (fun q => by rcases of_decide_eq_true q with q | q; exact a q; exact c q), lt_b]; exact gd_t (Or.inl rfl)
theorem two_if {x lo hi : Int32} : (if x < lo then (0 : Int32) else (if hi < x then 0 else 1)) = if lo ≤ x ∧ x ≤ hi then 1 else 0 := by
  by_cases a : x < lo
  · rw [if_pos a, if_neg (fun q => by have := q.1; rw [le_ti] at this; rw [lt_ti] at a; omega)]
  · rw [if_neg a]
    by_cases c : hi < x
    · rw [if_pos c, if_neg (fun q => by have := q.2; rw [le_ti] at this; rw [lt_ti] at c; omega)]
    · rw [if_neg c, if_pos ⟨by rw [lt_ti] at a; rw [le_ti]; omega, by rw [lt_ti] at c; rw [le_ti]; omega⟩]
theorem if_01 {p : Prop} {i : Decidable p} : b01 (@ite _ p i (1 : Int32) 0) := by
  by_cases h : p
  · rw [if_pos h]; exact Or.inr rfl
  · rw [if_neg h]; exact Or.inl rfl
theorem C_isL {x y : Int32} (h : BY x y) : fX10_isLetter N x S = some ((if isL y = true then 1 else 0), S) := by
  have e := BY_rg (lo := 97) (hi := 122) h (by decide) (by decide)
  unfold fX10_isLetter isL
  rw [two_if, lt_b, gd_t if_01]
  simp only [e, decide_eq_true_eq]
theorem C_isD {x y : Int32} (h : BY x y) : fX10_isDigit N x S = some ((if isD y = true then 1 else 0), S) := by
  have e := BY_rg (lo := 48) (hi := 57) h (by decide) (by decide)
  unfold fX10_isDigit isD
  rw [two_if, lt_b, gd_t if_01]
  simp only [e, decide_eq_true_eq]
theorem M_isL {x : Int32} : fX12_isLetter N x S = some ((if isL x = true then 1 else 0), S) := by
  unfold fX12_isLetter isL
  rw [two_if, lt_b, gd_t if_01]
  simp only [decide_eq_true_eq]
theorem M_isD {x : Int32} : fX12_isDigit N x S = some ((if isD x = true then 1 else 0), S) := by
  unfold fX12_isDigit isD
  rw [two_if, lt_b, gd_t if_01]
  simp only [decide_eq_true_eq]
end SCC
