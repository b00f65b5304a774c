/-! ===== phase 2: words ===== -/
def lLen (k : Nat) : Nat := litL.getD k 0
abbrev wdP (b : Nat → Int32) (L p k : Nat) : Prop := tkd b L p = 1 ∧ tto b L p - tfr b L p = lLen k ∧ ∀ i, i < lLen k → b (tfr b L p + i) = sch k i
theorem k_sch : ∀ k : Fin 12, lLen k.val ≤ 6 ∧ 2 ≤ lLen k.val ∧ ∀ i : Fin 6, i.val < lLen k.val → 97 ≤ (sch k.val i.val).toInt ∧ (sch k.val i.val).toInt ≤ 122 := by decide +kernel
theorem k_lit : litL.length = 12 := by decide
section WDC
variable {N : Nat} {b : Nat → Int32} {L : Nat}
theorem tkd1 {p : Nat} (hp : p ≤ L) (h : tkd b L p = 1) : tfr b L p < L ∧ tto b L p = rU isL b L (tfr b L p) ∧ ∀ i, tfr b L p ≤ i → i < tto b L p → 97 ≤ (b i).toInt ∧ (b i).toInt ≤ 122 := by
  have hl : tfr b L p < L := by
    rcases Nat.lt_or_ge (tfr b L p) L with q | q
    · exact q
    · have := tkd_0 (b := b) (L := L) (p := p) |>.mpr (by omega)
      omega
  have to : tto b L p = rU isL b L (tfr b L p) := by unfold tto; rw [h, if_neg (by decide), if_pos rfl]
  refine ⟨hl, to, fun i h1 h2 => ?_⟩
  rw [to] at h2
  have := of_decide_eq_true (rU_all (P := isL) (b := b) (L := L) (L - tfr b L p) (tfr b L p) (Nat.le_refl _) i h1 h2)
  rw [le_ti, le_ti, show (97 : Int32).toInt = 97 from by decide, show (122 : Int32).toInt = 122 from by decide] at this
  exact this
theorem C_isWd {p k : Nat} {S : PS} (hN : 30000 ≤ N) (hk : k < 12) (h : CTk b L p S) : fX10_isWord N k S = some ((if wdP b L p k then 1 else 0), S) := by
  obtain ⟨h1, hp, h3, h4, h5, h6⟩ := h
  have hL := h1.1
  have ht := tto_le (b := b) hp
  have kk := k_sch ⟨k, hk⟩
  have hkd := tkd_lt (b := b) (L := L) (p := p)
  unfold fX10_isWord
  rw [h5, show (1 : Int32) = iN 1 from rfl]
  by_cases e : tkd b L p = 1
  · have t1 := tkd1 hp e
    rw [if_pos (by rw [e]), gd_t (by rw [k_lit]; exact hk), lt_b, h4, h3, iN_sub ht.1]
    have en : nI (litL.getD k 0) = iN (lLen k) := rfl
    rw [en]
    have e6 : lLen k ≤ 6 := kk.1
    by_cases e2 : tto b L p - tfr b L p = lLen k
    · rw [if_pos (by rw [e2]), lt_b]
      have key : ∀ d j f, tfr b L p + j + d = tto b L p → (∀ i, i < j → b (tfr b L p + i) = sch k i) → d < f → ∃ t y, fX10_isWord_31 N k f (iN (tfr b L p + j)) S = some (t, y, S) ∧ (t = 0 ↔ ∀ i, i < lLen k → b (tfr b L p + i) = sch k i) := by
        intro d
        induction d with
        | zero =>
          intro j f hj hi hf
          obtain ⟨f', rfl⟩ : ∃ f', f = f' + 1 := ⟨f - 1, by omega⟩
          refine ⟨0, iN (tfr b L p + j), ?_, ⟨fun _ i hi2 => hi i (by omega), fun _ => rfl⟩⟩
          rw [fX10_isWord_31, h4, if_pos (by rw [iN_le (by omega) (by omega)]; omega)]
        | succ d ih =>
          intro j f hj hi hf
          obtain ⟨f', rfl⟩ : ∃ f', f = f' + 1 := ⟨f - 1, by omega⟩
          have hjl : j < lLen k := by omega
          have i7 : inr (iN (tfr b L p + j)) 700 := inr_iN (by omega) (by omega)
          have es : iN (tfr b L p + j) - iN (tfr b L p) = iN j := by rw [iN_sub (by omega), Nat.add_sub_cancel_left]
          have ij : inr (iN j) (litL.getD k 0) := inr_iN hjl (by omega)
          have x7 : ix (iN (tfr b L p + j)) = tfr b L p + j := ix_iN (by omega)
          have xj : ix (iN j) = j := ix_iN (by omega)
          have ks := kk.2.2 ⟨j, by omega⟩ hjl
          have eb : S.1 26 (tfr b L p + j) = sch k j ↔ b (tfr b L p + j) = sch k j := BY_eq (h1.2.2 _ (by omega)) (by dsimp only at ks; omega)
          rw [fX10_isWord_31, h4, if_neg (by rw [iN_le (by omega) (by omega)]; omega), gd_t i7, gd_t (by rw [k_lit]; exact hk), h3, es, gd_t ij, xj, lt_b, x7]
          by_cases g : b (tfr b L p + j) = sch k j
          · rw [if_pos (eb.mpr g), lt_b, iN_1, Nat.add_assoc]
            refine ih (j + 1) f' (by omega) (fun i hi2 => ?_) (by omega)
            by_cases ei : i = j
            · rw [ei]; exact g
            · exact hi i (by omega)
          · rw [if_neg (fun q => g (eb.mp q))]
            exact ⟨1, iN (tfr b L p + j), rfl, ⟨fun q => absurd q (by decide), fun q => absurd (q j hjl) g⟩⟩
      obtain ⟨t, y, et, ht2⟩ := key (tto b L p - tfr b L p) 0 N (by omega) (fun i hi => by omega) (by omega)
      rw [Nat.add_zero] at et
      rw [et]
      show (if t = 0 then some ((1 : Int32), S) else some (0, S)) = _
      by_cases e0 : t = 0
      · rw [if_pos e0, if_pos ⟨e, e2, ht2.mp e0⟩]
        rfl
      · rw [if_neg e0, if_neg (fun q => e0 (ht2.mpr q.2.2))]
    · rw [if_neg (by rw [iN_eq (by omega) (by omega)]; exact fun q => e2 q.symm), if_neg (fun q => e2 q.2.1)]
  · rw [if_neg (by rw [iN_eq (by omega) (by omega)]; exact e), if_neg (fun q => e q.1)]
end WDC
/-- letters packed by fives -/
def pkN (f : Nat → Nat) : Nat → Nat
  | 0 => 0
  | k + 1 => 32 * pkN f k + f k
theorem pkN_s {f : Nat → Nat} {k : Nat} : pkN f (k + 1) = 32 * pkN f k + f k := by rw [pkN]
theorem pkN_lt {f : Nat → Nat} (hf : ∀ i, f i < 32) : ∀ k, pkN f k < 32 ^ k
  | 0 => by rw [pkN]; decide
  | k + 1 => by
    have := pkN_lt hf k
    have := hf k
    rw [pkN_s, Nat.pow_succ]
    omega
theorem pkN_inj {f g : Nat → Nat} : ∀ n m, (∀ i, i < n → 1 ≤ f i ∧ f i < 32) → (∀ i, i < m → 1 ≤ g i ∧ g i < 32) → pkN f n = pkN g m → n = m ∧ ∀ i, i < n → f i = g i
  | 0, 0, _, _, _ => ⟨rfl, fun i h => by omega⟩
  | 0, m + 1, _, hg, h => by
    have := hg m (by omega)
    rw [pkN, pkN_s] at h
    omega
  | n + 1, 0, hf, _, h => by
    have := hf n (by omega)
    rw [pkN, pkN_s] at h
    omega
  | n + 1, m + 1, hf, hg, h => by
    have a := hf n (by omega)
    have c := hg m (by omega)
    rw [pkN_s, pkN_s] at h
    have ih := pkN_inj n m (fun i hi => hf i (by omega)) (fun i hi => hg i (by omega)) (by omega)
    refine ⟨by omega, fun i hi => ?_⟩
    by_cases e : i = n
    · have e2 : n = m := ih.1
      rw [e]
      rw [← e2] at h c
      omega
    · exact ih.2 i (by omega)
theorem nn_shl {x : Int64} : nnL (x <<< ((5 : Int32).toInt64 &&& 63)) = (nnL x * 32) % 18446744073709551616 := by
  unfold nnL
  rw [Int64.toBitVec_shiftLeft, show ((5 : Int32).toInt64 &&& 63).toBitVec.smod 64 = 5#64 from by decide, BitVec.shiftLeft_eq', BitVec.toNat_shiftLeft, Nat.shiftLeft_eq]
  rfl
theorem nn_or {a c : Int64} : nnL (a ||| c) = nnL a ||| nnL c := by
  unfold nnL
  rw [Int64.toBitVec_or, BitVec.toNat_or]
theorem k_let : ∀ j : Fin 26, nnL ((iN (97 + j.val) - 96).toInt64) = j.val + 1 := by decide +kernel
theorem nn_pk {b : Nat → Int32} {fr : Nat} : ∀ n, n ≤ 6 → (∀ i, i < n → 97 ≤ (b (fr + i)).toInt ∧ (b (fr + i)).toInt ≤ 122) → nnL (pkL b fr n) = pkN (fun i => ix (b (fr + i)) - 96) n ∧ nnL (pkL b fr n) < 32 ^ n
  | 0, _, _ => by
    rw [pkL, pkN]
    exact ⟨by decide, by decide⟩
  | n + 1, hn, h => by
    have ih := nn_pk n (by omega) (fun i hi => h i (by omega))
    have hb := h n (by omega)
    have e1 : ((ix (b (fr + n)) : Nat) : Int) = (b (fr + n)).toInt := Int.toNat_of_nonneg (by omega)
    have e2 : b (fr + n) = iN (97 + (ix (b (fr + n)) - 97)) := by
      rw [show 97 + (ix (b (fr + n)) - 97) = ix (b (fr + n)) from by omega]
      exact iN_of (by omega)
    have e3 : nnL ((b (fr + n) - 96).toInt64) = ix (b (fr + n)) - 96 := by
      have := k_let ⟨ix (b (fr + n)) - 97, by omega⟩
      dsimp only at this
      rw [← e2] at this
      rw [this]
      omega
    have hp : (32 : Nat) ^ n ≤ 32 ^ 5 := Nat.pow_le_pow_right (by omega) (by omega)
    have h5 : (32 : Nat) ^ 5 = 33554432 := by decide
    have hor := Nat.two_pow_add_eq_or_of_lt (i := 5) (b := ix (b (fr + n)) - 96) (by omega) (nnL (pkL b fr n))
    have q : nnL (pkL b fr (n + 1)) = 32 * nnL (pkL b fr n) + (ix (b (fr + n)) - 96) := by
      rw [pkL_s, if_pos (by omega), nn_or, nn_shl, e3, Nat.mod_eq_of_lt (by omega), Nat.mul_comm, ← show (2 : Nat) ^ 5 = 32 from rfl, ← hor]
    refine ⟨by rw [q, pkN_s, ih.1], ?_⟩
    rw [q, Nat.pow_succ]
    omega
theorem nn_inj {x y : Int64} (h : nnL x = nnL y) : x = y := Int64.toBitVec_inj.mp (BitVec.eq_of_toNat_eq h)
theorem lg_0 {x y : Int64} : lg_cmp x y = 0 ↔ x = y := by
  unfold lg_cmp
  by_cases a : x > y
  · rw [if_pos a]
    exact ⟨fun q => absurd q (by decide), fun q => absurd a (by rw [q]; exact fun h => Int64.lt_irrefl h)⟩
  · rw [if_neg a]
    by_cases c : x = y
    · rw [if_pos c]
      exact ⟨fun _ => c, fun _ => rfl⟩
    · rw [if_neg c]
      exact ⟨fun q => absurd q (by decide), fun q => absurd q c⟩
