/-! ===== phase 2: how many bits a long has, the last steps ===== -/
theorem bp_d {a p w m : Nat} (h : a = p + m * w) (hp : p < m) : a / m = w := by
  rw [h, Nat.add_mul_div_left _ _ (by omega), Nat.div_eq_of_lt hp, Nat.zero_add]
theorem bp_4 {n p0 p1 p2 w1 w2 w3 : Nat} (h0 : n = p0 + 256 * w1) (h1 : w1 = p1 + 256 * w2) (h2 : w2 = p2 + 256 * w3) : n + w1 = ((p0 + p1) + 256 * (p1 + p2)) + 65536 * (w2 + w3) := by omega
theorem bp_5 {p2 p3 p4 p5 p6 p7 w2 w3 w4 w5 w6 : Nat} (h2 : w2 = p2 + 256 * w3) (h3 : w3 = p3 + 256 * w4) (h4 : w4 = p4 + 256 * w5) (h5 : w5 = p5 + 256 * w6) (h6 : w6 = p6 + 256 * p7) :
    65536 * (w2 + w3) = 65536 * (p2 + p3) + 16777216 * (p3 + p4) + 4294967296 * (w4 + w5) ∧ w2 + w3 = (p2 + p3) + 256 * (p3 + p4) + 65536 * (p4 + p5) + 16777216 * (p5 + p6) + 4294967296 * (w6 + p7) := by
  constructor
  · clear h5 h6
    omega
  · have a : w4 + w5 = (p4 + p5) + 256 * (p5 + p6) + 65536 * (w6 + p7) := by
      clear h2 h3
      omega
    have b : w2 + w3 = (p2 + p3) + 256 * (p3 + p4) + 65536 * (w4 + w5) := by
      clear h5 h6 a
      omega
    rw [b, a]
    clear h2 h3 h4 h5 h6 a b
    omega
theorem by_p {n p0 p1 p2 p3 p4 p5 p6 p7 w1 w2 w3 w4 w5 w6 : Nat} (h0 : n = p0 + 256 * w1) (h1 : w1 = p1 + 256 * w2) (h2 : w2 = p2 + 256 * w3) (h3 : w3 = p3 + 256 * w4) (h4 : w4 = p4 + 256 * w5) (h5 : w5 = p5 + 256 * w6) (h6 : w6 = p6 + 256 * p7)
    (q0 : p0 ≤ 8) (q1 : p1 ≤ 8) (q2 : p2 ≤ 8) (q3 : p3 ≤ 8) (q4 : p4 ≤ 8) (q5 : p5 ≤ 8) (q6 : p6 ≤ 8) (q7 : p7 ≤ 8) :
    n / 256 = w1 ∧ (n + w1) / 65536 = w2 + w3 ∧ (n + w1 + (w2 + w3)) / 4294967296 = w4 + w5 + w6 + p7 ∧ (n + w1 + (w2 + w3) + (w4 + w5 + w6 + p7)) % 128 = p0 + (p1 + (p2 + (p3 + (p4 + (p5 + (p6 + p7)))))) := by
  have d1 : n / 256 = w1 := bp_d h0 (by omega)
  have e4 := bp_4 h0 h1 h2
  have d2 : (n + w1) / 65536 = w2 + w3 := bp_d e4 (by omega)
  have e5 := bp_5 h2 h3 h4 h5 h6
  have e6 : n + w1 + (w2 + w3) = ((p0 + p1 + p2 + p3) + 256 * (p1 + p2 + p3 + p4) + 65536 * (p2 + p3 + p4 + p5) + 16777216 * (p3 + p4 + p5 + p6)) + 4294967296 * (w4 + w5 + w6 + p7) := by
    rw [e4, e5.1, e5.2]
    clear h0 h1 h2 h3 h4 h5 h6 e4 e5 d1 d2
    omega
  have d3 : (n + w1 + (w2 + w3)) / 4294967296 = w4 + w5 + w6 + p7 := bp_d e6 (by omega)
  refine ⟨d1, d2, d3, ?_⟩
  have e7 : w4 + w5 + w6 + p7 = (p4 + p5 + p6 + p7) + 256 * (w5 + w6 + p7) := by
    clear h0 h1 h2 h3 e4 e5 e6 d1 d2 d3
    omega
  rw [e6, e7]
  clear h0 h1 h2 h3 h4 h5 h6 e4 e5 e6 e7 d1 d2 d3
  omega
theorem by_4 {x n3 : Nat} (h : n3 = byS g3B 8 x) : n3 < 1152921504606846976 ∧ (n3 + n3 / 256 + (n3 + n3 / 256) / 65536 + (n3 + n3 / 256 + (n3 + n3 / 256) / 65536) / 4294967296) % 128 = sumN (cB x) 64 := by
  have g : ∀ y, g3B (y % 256) ≤ 8 := fun y => (k_g3 ⟨y % 256, Nat.mod_lt _ (by omega)⟩).2
  have h0 : n3 = g3B (x % 256) + 256 * byS g3B 7 (x / 256) := h.trans byS_s
  have h1 : byS g3B 7 (x / 256) = g3B (x / 256 % 256) + 256 * byS g3B 6 (x / 256 / 256) := byS_s
  have h2 : byS g3B 6 (x / 256 / 256) = g3B (x / 256 / 256 % 256) + 256 * byS g3B 5 (x / 256 / 256 / 256) := byS_s
  have h3 : byS g3B 5 (x / 256 / 256 / 256) = g3B (x / 256 / 256 / 256 % 256) + 256 * byS g3B 4 (x / 256 / 256 / 256 / 256) := byS_s
  have h4 : byS g3B 4 (x / 256 / 256 / 256 / 256) = g3B (x / 256 / 256 / 256 / 256 % 256) + 256 * byS g3B 3 (x / 256 / 256 / 256 / 256 / 256) := byS_s
  have h5 : byS g3B 3 (x / 256 / 256 / 256 / 256 / 256) = g3B (x / 256 / 256 / 256 / 256 / 256 % 256) + 256 * byS g3B 2 (x / 256 / 256 / 256 / 256 / 256 / 256) := byS_s
  have h6 : byS g3B 2 (x / 256 / 256 / 256 / 256 / 256 / 256) = g3B (x / 256 / 256 / 256 / 256 / 256 / 256 % 256) + 256 * g3B (x / 256 / 256 / 256 / 256 / 256 / 256 / 256 % 256) := by
    rw [byS_s, byS_s, byS]
    omega
  have t := tB_c 8 x
  have t1 : tB g3B 8 x = g3B (x % 256) + (g3B (x / 256 % 256) + (g3B (x / 256 / 256 % 256) + (g3B (x / 256 / 256 / 256 % 256) + (g3B (x / 256 / 256 / 256 / 256 % 256) + (g3B (x / 256 / 256 / 256 / 256 / 256 % 256) + (g3B (x / 256 / 256 / 256 / 256 / 256 / 256 % 256) + g3B (x / 256 / 256 / 256 / 256 / 256 / 256 / 256 % 256))))))) := by
    rw [tB, tB, tB, tB, tB, tB, tB, tB, tB, Nat.add_zero]
  have r := by_p h0 h1 h2 h3 h4 h5 h6 (g _) (g _) (g _) (g _) (g _) (g _) (g _) (g _)
  refine ⟨?_, ?_⟩
  · have b : ∀ k y, 255 * byS g3B k y + 8 ≤ 8 * 256 ^ k := by
      intro k
      induction k with
      | zero => intro y; rw [byS]; decide
      | succ k ih =>
        intro y
        rw [byS_s, Nat.pow_succ]
        have := ih (y / 256)
        have := g y
        omega
    have b8 := b 8 x
    have e8 : (256 : Nat) ^ 8 = 18446744073709551616 := by decide
    rw [e8, ← h] at b8
    clear r t t1 h0 h1 h2 h3 h4 h5 h6 b h g
    omega
  · rw [r.1, r.2.1, r.2.2.1, r.2.2.2, ← t1]
    exact t.symm
