/-! ===== phase 2: how many bits a long has ===== -/
def byS (f : Nat → Nat) : Nat → Nat → Nat
  | 0, _ => 0
  | k + 1, x => f (x % 256) + 256 * byS f k (x / 256)
theorem byS_s {f : Nat → Nat} {k x : Nat} : byS f (k + 1) x = f (x % 256) + 256 * byS f k (x / 256) := by rw [byS]
theorem and256 {y d M m : Nat} (hd : d < 256) (hm : m < 256) : (256 * y + d) &&& (256 * M + m) = 256 * (y &&& M) + (d &&& m) := by
  have h8 : (256 : Nat) = 2 ^ 8 := by decide
  rw [h8] at hd hm ⊢
  have hdm : d &&& m < 2 ^ 8 := Nat.lt_of_le_of_lt Nat.and_le_left hd
  apply Nat.eq_of_testBit_eq
  intro i
  rw [Nat.testBit_and, Nat.testBit_two_pow_mul_add y hd, Nat.testBit_two_pow_mul_add M hm, Nat.testBit_two_pow_mul_add (y &&& M) hdm]
  by_cases e : i < 8
  · rw [if_pos e, if_pos e, if_pos e, Nat.testBit_and]
  · rw [if_neg e, if_neg e, if_neg e, Nat.testBit_and]
def mkB (m : Nat) : Nat → Nat
  | 0 => 0
  | k + 1 => 256 * mkB m k + m
theorem mkB_s {m k : Nat} : mkB m (k + 1) = 256 * mkB m k + m := by rw [mkB]
theorem byS_id : ∀ k x, x < 256 ^ k → byS (fun d => d) k x = x
  | 0, x, h => by
    rw [byS]
    have : (256 : Nat) ^ 0 = 1 := rfl
    omega
  | k + 1, x, h => by
    rw [byS_s, byS_id k (x / 256) (by rw [Nat.pow_succ] at h; omega)]
    omega
theorem byS_add {f g h : Nat → Nat} (e : ∀ d, d < 256 → f d + g d = h d) : ∀ k x, byS f k x + byS g k x = byS h k x
  | 0, x => by rw [byS, byS, byS]
  | k + 1, x => by
    have ih := byS_add e k (x / 256)
    have e1 := e (x % 256) (Nat.mod_lt _ (by omega))
    rw [byS_s, byS_s, byS_s]
    omega
theorem byS_and {f : Nat → Nat} {m : Nat} (hf : ∀ d, d < 256 → f d < 256) (hm : m < 256) : ∀ k x, byS f k x &&& mkB m k = byS (fun d => f d &&& m) k x
  | 0, x => by rw [byS, mkB, byS]; rfl
  | k + 1, x => by
    rw [byS_s, mkB_s, Nat.add_comm, and256 (hf _ (Nat.mod_lt _ (by omega))) hm, byS_and hf hm k (x / 256), byS_s]
    omega
/-- shifted and masked, where the mask hides what comes from the next byte -/
theorem byS_sh {f : Nat → Nat} {m q r : Nat} (hq : q * r = 256) (hf : ∀ d, d < 256 → f d < 256) (hm : m < 256) (hr : ∀ b, b < q → ∀ e, e < 256 → r * b + e / q < 256 ∧ (r * b + e / q) &&& m = (e / q) &&& m) (h0 : 0 < q) : ∀ k x, (byS f k x / q) &&& mkB m k = byS (fun d => (f d / q) &&& m) k x
  | 0, x => by rw [byS, mkB, byS, Nat.and_zero]
  | k + 1, x => by
    have ih := byS_sh hq hf hm hr h0 k (x / 256)
    have hd := hf (x % 256) (Nat.mod_lt _ (by omega))
    have hb : byS f k (x / 256) % q < q := Nat.mod_lt _ h0
    have h2 := hr _ hb _ hd
    rw [byS_s, mkB_s, byS_s]
    have e1 : (f (x % 256) + 256 * byS f k (x / 256)) / q = 256 * (byS f k (x / 256) / q) + (r * (byS f k (x / 256) % q) + f (x % 256) / q) := by
      have w := Nat.div_add_mod (byS f k (x / 256)) q
      have e2 : 256 * byS f k (x / 256) = q * (r * byS f k (x / 256)) := by rw [← Nat.mul_assoc, hq]
      rw [e2, Nat.add_mul_div_left _ _ h0]
      have e3 : r * byS f k (x / 256) = 256 * (byS f k (x / 256) / q) + r * (byS f k (x / 256) % q) := by
        generalize byS f k (x / 256) = W at *
        have e4 : r * W = r * (q * (W / q) + W % q) := by rw [w]
        rw [e4, Nat.mul_add, ← Nat.mul_assoc, Nat.mul_comm r q, hq]
      omega
    rw [e1, and256 h2.1 hm, h2.2, ih]
    omega
theorem k_s1 : ∀ b : Fin 2, ∀ e : Fin 256, 128 * b.val + e.val / 2 < 256 ∧ (128 * b.val + e.val / 2) &&& 85 = (e.val / 2) &&& 85 := by decide +kernel
theorem k_s2 : ∀ b : Fin 4, ∀ e : Fin 256, 64 * b.val + e.val / 4 < 256 ∧ (64 * b.val + e.val / 4) &&& 51 = (e.val / 4) &&& 51 := by decide +kernel
def g1B (d : Nat) : Nat := d - ((d / 2) &&& 85)
def g2B (d : Nat) : Nat := (g1B d &&& 51) + ((g1B d / 4) &&& 51)
def g3B (d : Nat) : Nat := (g2B d + g2B d / 16) % 16
theorem k_g1 : ∀ d : Fin 256, g1B d.val < 256 ∧ (g1B d.val + ((d.val / 2) &&& 85) = d.val) := by decide +kernel
theorem k_g2 : ∀ d : Fin 256, g2B d.val ≤ 68 ∧ g2B d.val % 16 ≤ 4 := by decide +kernel
def cB (x : Nat) (s : Nat) : Nat := if x.testBit s = true then 1 else 0
theorem k_g3 : ∀ d : Fin 256, g3B d.val = sumN (cB d.val) 8 ∧ g3B d.val ≤ 8 := by decide +kernel
theorem by_1 {k x : Nat} (h : x < 256 ^ k) : x - ((x / 2) &&& mkB 85 k) = byS g1B k x := by
  have a := byS_sh (f := fun d => d) (m := 85) (q := 2) (r := 128) rfl (fun d h => h) (by omega) (fun b hb e he => k_s1 ⟨b, hb⟩ ⟨e, he⟩) (by omega) k x
  rw [byS_id k x h] at a
  have b := byS_add (f := g1B) (g := fun d => (d / 2) &&& 85) (h := fun d => d) (fun d hd => (k_g1 ⟨d, hd⟩).2) k x
  rw [byS_id k x h] at b
  rw [a]
  omega
theorem by_2 {k x : Nat} : (byS g1B k x &&& mkB 51 k) + ((byS g1B k x / 4) &&& mkB 51 k) = byS g2B k x := by
  have hf : ∀ d, d < 256 → g1B d < 256 := fun d hd => (k_g1 ⟨d, hd⟩).1
  rw [byS_and hf (by omega), byS_sh (q := 4) (r := 64) rfl hf (by omega) (fun b hb e he => k_s2 ⟨b, hb⟩ ⟨e, he⟩) (by omega)]
  exact byS_add (fun d _ => rfl) k x
theorem by_3 : ∀ k x, (byS g2B k x + byS g2B k x / 16) &&& mkB 15 k = byS g3B k x
  | 0, x => by rw [byS, mkB, byS, Nat.and_zero]
  | k + 1, x => by
    have ih := by_3 k (x / 256)
    have hd := (k_g2 ⟨x % 256, Nat.mod_lt _ (by omega)⟩).1
    have hw : byS g2B k (x / 256) % 16 ≤ 4 := by
      cases k with
      | zero => rw [byS]; omega
      | succ k =>
        have := (k_g2 ⟨x / 256 % 256, Nat.mod_lt _ (by omega)⟩).2
        dsimp only at this
        rw [byS_s]
        omega
    dsimp only at hd
    rw [byS_s, mkB_s, byS_s, ← ih]
    have e1 : g2B (x % 256) + 256 * byS g2B k (x / 256) + (g2B (x % 256) + 256 * byS g2B k (x / 256)) / 16 = 256 * (byS g2B k (x / 256) + byS g2B k (x / 256) / 16) + (16 * (byS g2B k (x / 256) % 16) + g2B (x % 256) + g2B (x % 256) / 16) := by omega
    rw [e1, and256 (by omega) (by omega), Nat.add_comm]
    congr 1
    have e15 := Nat.and_two_pow_sub_one_eq_mod (16 * (byS g2B k (x / 256) % 16) + g2B (x % 256) + g2B (x % 256) / 16) 4
    rw [show (2 : Nat) ^ 4 - 1 = 15 from rfl, show (2 : Nat) ^ 4 = 16 from rfl] at e15
    rw [e15]
    unfold g3B
    omega
theorem cB_8 {x s : Nat} : cB x (8 + s) = cB (x / 256) s := by
  unfold cB
  have : x.testBit (8 + s) = (x / 256).testBit s := by
    rw [show (256 : Nat) = 2 ^ 8 from rfl, Nat.testBit_div_two_pow, Nat.add_comm]
  rw [this]
theorem sumN_app {f : Nat → Nat} {a : Nat} : ∀ m, sumN f (a + m) = sumN f a + sumN (fun s => f (a + s)) m
  | 0 => by rw [Nat.add_zero, sumN]; rfl
  | m + 1 => by rw [← Nat.add_assoc, sumN_s, sumN_s, sumN_app m, Nat.add_assoc]
theorem k_low8 {x : Nat} : sumN (cB x) 8 = sumN (cB (x % 256)) 8 := by
  refine sumN_cg 8 (fun s hs => ?_)
  unfold cB
  have : (x % 256).testBit s = x.testBit s := by
    rw [show (256 : Nat) = 2 ^ 8 from rfl, Nat.testBit_mod_two_pow]
    simp [hs]
  rw [this]
/-- the bytes' counts together -/
def tB (f : Nat → Nat) : Nat → Nat → Nat
  | 0, _ => 0
  | k + 1, x => f (x % 256) + tB f k (x / 256)
theorem tB_c : ∀ k x, sumN (cB x) (8 * k) = tB g3B k x
  | 0, x => by rw [Nat.mul_zero, sumN, tB]
  | k + 1, x => by
    rw [show 8 * (k + 1) = 8 + 8 * k from by omega, sumN_app, tB, ← tB_c k (x / 256), k_low8, (k_g3 ⟨x % 256, Nat.mod_lt _ (by omega)⟩).1]
    congr 1
    exact sumN_cg _ (fun s _ => cB_8)
