/-! ===== phase 2: floors in whole numbers: they grow with the hours, and stay small ===== -/
def sumN (f : Nat → Nat) : Nat → Nat
  | 0 => 0
  | k + 1 => sumN f k + f k
theorem sumN_s {f : Nat → Nat} {k : Nat} : sumN f (k + 1) = sumN f k + f k := by rw [sumN]
theorem sumN_le {f g : Nat → Nat} : ∀ n, (∀ c, c < n → f c ≤ g c) → sumN f n ≤ sumN g n
  | 0, _ => by rw [sumN, sumN]; exact Nat.le_refl _
  | n + 1, h => by rw [sumN_s, sumN_s]; exact Nat.add_le_add (sumN_le n (fun c hc => h c (by omega))) (h n (by omega))
theorem sumN_cg {f g : Nat → Nat} (n : Nat) (h : ∀ c, c < n → f c = g c) : sumN f n = sumN g n :=
  Nat.le_antisymm (sumN_le n (fun c hc => Nat.le_of_eq (h c hc))) (sumN_le n (fun c hc => Nat.le_of_eq (h c hc).symm))
theorem addN_cg {a b c : Nat} (h : b = c) : a + b = a + c := by rw [h]
theorem sumN_add {f g : Nat → Nat} : ∀ n, sumN (fun c => f c + g c) n = sumN f n + sumN g n
  | 0 => by rw [sumN, sumN, sumN]
  | n + 1 => by rw [sumN_s, sumN_s, sumN_s, sumN_add n]; omega
theorem sumN_c {a : Nat} : ∀ n, sumN (fun _ => a) n = n * a
  | 0 => by rw [sumN, Nat.zero_mul]
  | n + 1 => by rw [sumN_s, sumN_c n, Nat.succ_mul]
theorem sumN_sp {f : Nat → Nat} {c : Nat} : ∀ m, sumN (fun y => if c ≤ y then f y else 0) m = (if c < m then f c else 0) + sumN (fun y => if c + 1 ≤ y then f y else 0) m
  | 0 => by rw [sumN, sumN, if_neg (by omega)]
  | m + 1 => by
    rw [sumN_s, sumN_s, sumN_sp m]
    by_cases e : c = m
    · subst e
      rw [if_neg (Nat.lt_irrefl _), if_pos (Nat.le_refl _), if_pos (by omega), if_neg (by omega)]
      omega
    · by_cases l : c < m
      · rw [if_pos l, if_pos (by omega), if_pos (by omega), if_pos (by omega)]
        omega
      · rw [if_neg l, if_neg (by omega), if_neg (by omega), if_neg (by omega)]
        omega
theorem sumN_1 {v : Int32} {a : Nat} : ∀ k, k ≤ 9 → sumN (fun y => if v = iN y then a else 0) k ≤ a ∧ ((∀ y, y < k → v ≠ iN y) → sumN (fun y => if v = iN y then a else 0) k = 0)
  | 0, _ => by rw [sumN]; exact ⟨by omega, fun _ => rfl⟩
  | k + 1, h => by
    have ih := sumN_1 (v := v) (a := a) k (by omega)
    rw [sumN_s]
    by_cases e : v = iN k
    · have z := ih.2 (fun y hy q => by
        have := q.symm.trans e
        rw [iN_eq (by omega) (by omega)] at this
        omega)
      rw [if_pos e, z]
      exact ⟨by omega, fun q => absurd e (q k (by omega))⟩
    · rw [if_neg e]
      exact ⟨by omega, fun q => by rw [ih.2 (fun y hy => q y (by omega))]⟩
def tmN (A : Rw) (x i : Nat) : Nat := (ix (A 1 x) + i) / ix (A 0 x)
def f1N (A : Rw) (x t : Nat) : Nat := if A 3 x = -1 then t else (t + (1 - ix (A 6 x))) / 2
def gvN (A : Rw) (x y t : Nat) : Nat := if A 2 x = iN y then f1N A x t else if A 3 x = iN y then t - f1N A x t else 0
def bsN (sp : Nat → Int32) (A : Rw) (h y : Nat) : Nat := if A 5 y = 1 then 0 else ix (sp y) * h
def fnF (sp : Nat → Int32) (A : Rw) (h : Nat) : Nat → Nat → Nat
  | 0, _ => 0
  | k + 1, y => bsN sp A h y + sumN (fun x => gvN A x y (tmN A x (fnF sp A h k x))) y
theorem fnF_s {sp : Nat → Int32} {A : Rw} {h k y : Nat} : fnF sp A h (k + 1) y = bsN sp A h y + sumN (fun x => gvN A x y (tmN A x (fnF sp A h k x))) y := by rw [fnF]
theorem fnF_st {sp : Nat → Int32} {A : Rw} {h : Nat} : ∀ k m y, y < k → y < m → fnF sp A h k y = fnF sp A h m y
  | 0, m, y, h, _ => by omega
  | k + 1, 0, y, _, h => by omega
  | k + 1, m + 1, y, h1, h2 => by
    rw [fnF_s, fnF_s]
    refine addN_cg (sumN_cg y (fun x hx => ?_))
    rw [fnF_st k m x (by omega) (by omega)]
def fnS (sp : Nat → Int32) (A : Rw) (h y : Nat) : Nat := fnF sp A h 9 y
def tnS (sp : Nat → Int32) (A : Rw) (h y : Nat) : Nat := tmN A y (fnS sp A h y)
theorem fnS_e {sp : Nat → Int32} {A : Rw} {h y : Nat} (hy : y < 9) : fnS sp A h y = bsN sp A h y + sumN (fun x => gvN A x y (tnS sp A h x)) y := by
  unfold tnS fnS
  rw [fnF_s]
  refine addN_cg (sumN_cg y (fun x hx => ?_))
  rw [fnF_st 8 9 x (by omega) (by omega)]
theorem f1N_le {A : Rw} {x t : Nat} : f1N A x t ≤ t := by
  unfold f1N
  split <;> omega
theorem f1N_mo {A : Rw} {x t u : Nat} (h : t ≤ u) : f1N A x t ≤ f1N A x u ∧ t - f1N A x t ≤ u - f1N A x u := by
  unfold f1N
  split <;> omega
theorem gvN_mo {A : Rw} {x y t u : Nat} (h : t ≤ u) : gvN A x y t ≤ gvN A x y u := by
  unfold gvN
  have := f1N_mo (A := A) (x := x) h
  split
  · exact this.1
  · split
    · exact this.2
    · exact Nat.le_refl _
theorem tmN_mo {A : Rw} {x i j : Nat} (h : i ≤ j) : tmN A x i ≤ tmN A x j := by
  unfold tmN
  exact Nat.div_le_div_right (by omega)
theorem fnF_mo {sp : Nat → Int32} {A : Rw} {h g : Nat} (hh : h ≤ g) : ∀ k y, fnF sp A h k y ≤ fnF sp A g k y
  | 0, y => by rw [fnF, fnF]; exact Nat.le_refl _
  | k + 1, y => by
    rw [fnF_s, fnF_s]
    refine Nat.add_le_add ?_ (sumN_le y (fun x _ => gvN_mo (tmN_mo (fnF_mo hh k x))))
    unfold bsN
    split
    · exact Nat.le_refl _
    · exact Nat.mul_le_mul_left _ hh
theorem tnS_mo {sp : Nat → Int32} {A : Rw} {h g y : Nat} (hh : h ≤ g) : tnS sp A h y ≤ tnS sp A g y := tmN_mo (fnF_mo hh 9 y)
theorem tmN_le {n : Nat} {A : Rw} {x i : Nat} (hw : WF n A) (hx : x < 9) : tmN A x i ≤ i := by
  obtain ⟨h0, h1, -⟩ := hw.2 x hx
  have e1 : ((ix (A 1 x) : Nat) : Int) = (A 1 x).toInt := Int.toNat_of_nonneg (by omega)
  have e0 : ((ix (A 0 x) : Nat) : Int) = (A 0 x).toInt := Int.toNat_of_nonneg (by omega)
  unfold tmN
  have hb : 1 ≤ ix (A 0 x) := by omega
  have ha : ix (A 1 x) < ix (A 0 x) := by omega
  refine Nat.le_of_lt_succ (Nat.div_lt_of_lt_mul ?_)
  have : i ≤ ix (A 0 x) * i := Nat.le_mul_of_pos_left _ hb
  rw [Nat.mul_succ]
  omega
theorem gvN_sum {A : Rw} {c t : Nat} : sumN (fun y => gvN A c y t) 9 ≤ t := by
  have h1 := (sumN_1 (v := A 2 c) (a := f1N A c t) 9 (by omega)).1
  have h2 := (sumN_1 (v := A 3 c) (a := t - f1N A c t) 9 (by omega)).1
  have h3 := f1N_le (A := A) (x := c) (t := t)
  have h4 : sumN (fun y => gvN A c y t) 9 ≤ sumN (fun y => (if A 2 c = iN y then f1N A c t else 0) + (if A 3 c = iN y then t - f1N A c t else 0)) 9 := by
    refine sumN_le 9 (fun y _ => ?_)
    unfold gvN
    by_cases e : A 2 c = iN y
    · rw [if_pos e, if_pos e]; omega
    · rw [if_neg e, if_neg e]; omega
  rw [sumN_add] at h4
  omega
section BND
variable {n : Nat} {sp : Nat → Int32} {A : Rw} {h : Nat}
theorem tn_fn (hw : WF n A) {y : Nat} (hy : y < 9) : tnS sp A h y ≤ fnS sp A h y := tmN_le hw hy
theorem pot (hw : WF n A) : ∀ c, c ≤ 9 → sumN (fun y => if c ≤ y then sumN (fun x => gvN A x y (tnS sp A h x)) c else 0) 9 ≤ sumN (bsN sp A h) c
  | 0, _ => by
    have e : sumN (fun y => if 0 ≤ y then sumN (fun x => gvN A x y (tnS sp A h x)) 0 else 0) 9 = sumN (fun _ => 0) 9 := sumN_cg 9 (fun y _ => by rw [if_pos (Nat.zero_le _), sumN])
    rw [e, sumN_c]
    omega
  | c + 1, hc => by
    have ih := pot hw c (by omega)
    rw [sumN_sp, if_pos (by omega)] at ih
    have hf := fnS_e (sp := sp) (A := A) (h := h) (show c < 9 by omega)
    have ht := tn_fn (sp := sp) (h := h) hw (show c < 9 by omega)
    have hg := gvN_sum (A := A) (c := c) (t := tnS sp A h c)
    have h1 : sumN (fun y => if c + 1 ≤ y then sumN (fun x => gvN A x y (tnS sp A h x)) (c + 1) else 0) 9 ≤ sumN (fun y => (if c + 1 ≤ y then sumN (fun x => gvN A x y (tnS sp A h x)) c else 0) + gvN A c y (tnS sp A h c)) 9 := by
      refine sumN_le 9 (fun y _ => ?_)
      by_cases e : c + 1 ≤ y
      · rw [if_pos e, if_pos e, sumN_s]; exact Nat.le_refl _
      · rw [if_neg e, if_neg e]; omega
    rw [sumN_add] at h1
    rw [sumN_s (f := bsN sp A h)]
    omega
theorem fn_b (hw : WF n A) {y : Nat} (hy : y < 9) : fnS sp A h y ≤ sumN (bsN sp A h) (y + 1) := by
  have h1 := pot (sp := sp) (h := h) hw y (by omega)
  rw [sumN_sp, if_pos hy] at h1
  rw [fnS_e hy, sumN_s (f := bsN sp A h)]
  omega
theorem fn_max (hw : WF n A) (hs : SPR sp) (hh : h ≤ 1000000) {y : Nat} (hy : y < 9) : fnS sp A h y ≤ 180000000 := by
  refine Nat.le_trans (fn_b hw hy) ?_
  refine Nat.le_trans (sumN_le (g := fun _ => 20000000) (y + 1) (fun c hc => ?_)) ?_
  · unfold bsN
    split
    · omega
    · have := hs c (by omega)
      have e : ((ix (sp c) : Nat) : Int) = (sp c).toInt := Int.toNat_of_nonneg (by omega)
      have h1 : ix (sp c) ≤ 20 := by omega
      have := Nat.mul_le_mul h1 hh
      omega
  · rw [sumN_c]
    omega
theorem tn_max (hw : WF n A) (hs : SPR sp) (hh : h ≤ 1000000) {y : Nat} (hy : y < 9) : tnS sp A h y ≤ 180000000 := Nat.le_trans (tn_fn hw hy) (fn_max hw hs hh hy)
theorem tn_0 (hw : WF n A) {y : Nat} (hy : y < 9) : tnS sp A 0 y = 0 := by
  have h1 := tn_fn (sp := sp) (h := 0) hw hy
  have h2 := fn_b (sp := sp) (h := 0) hw hy
  have h3 : sumN (bsN sp A 0) (y + 1) = sumN (fun _ => 0) (y + 1) := sumN_cg _ (fun c _ => by
    unfold bsN
    split
    · rfl
    · rw [Nat.mul_zero])
  rw [h3, sumN_c] at h2
  omega
end BND
theorem iN_div {a b : Nat} (ha : a < 2147483648) (hb : b < 2147483648) (h0 : 0 < b) : iN a / iN b = iN (a / b) := by
  apply Int32.toInt_inj.mp
  have h1 : a / b ≤ a := Nat.div_le_self a b
  rw [ti_div (by rw [iN_ti ha]; omega) (by rw [iN_ti hb]; omega), iN_ti ha, iN_ti hb, iN_ti (by omega)]
  exact (Int.natCast_ediv a b).symm
theorem iN_sub {a b : Nat} (h : b ≤ a) : iN a - iN b = iN (a - b) := by
  have e : iN a = iN (a - b) + iN b := by rw [iN_add, Nat.sub_add_cancel h]
  rw [e, Int32.add_sub_cancel]
theorem sumS_N {f : Nat → Nat} : ∀ n, sumS (fun x => iN (f x)) n = iN (sumN f n)
  | 0 => by rw [sumS, sumN]; rfl
  | n + 1 => by rw [sumS_s, sumN_s, sumS_N n, iN_add]
theorem cg_add {a b c : Int32} (h : a = b) : a + c = b + c := by rw [h]
section BRI
variable {n : Nat} {sp : Nat → Int32} {A : Rw} {h : Nat}
theorem f1_N {x t : Nat} (hw : WF n A) (hx : x < 9) (ht : t ≤ 180000000) : f1S A x (iN t) = iN (f1N A x t) := by
  unfold f1S f1N
  by_cases e : A 3 x = -1
  · rw [if_pos e, if_pos e]
  · rw [if_neg e, if_neg e]
    have e1 : (1 : Int32) - A 6 x = iN (1 - ix (A 6 x)) := by
      rcases (hw.2 x hx).2.2.2.2.2.2.1 with q | q <;> rw [q] <;> decide
    rw [e1, iN_add, show (2 : Int32) = iN 2 from rfl, iN_div (by omega) (by omega) (by omega)]
theorem gv_N {x y t : Nat} (hw : WF n A) (hx : x < 9) (ht : t ≤ 180000000) : gvS A x y (iN t) = iN (gvN A x y t) := by
  unfold gvS gvN
  rw [f1_N hw hx ht, iN_sub f1N_le]
  split
  · rfl
  · split <;> rfl
theorem tm_N {x i : Nat} (hw : WF n A) (hx : x < 9) (hi : i ≤ 180000000) : tmS A x (iN i) = iN (tmN A x i) := by
  obtain ⟨h0, h1, -⟩ := hw.2 x hx
  have e1 : ((ix (A 1 x) : Nat) : Int) = (A 1 x).toInt := Int.toNat_of_nonneg (by omega)
  have e0 : ((ix (A 0 x) : Nat) : Int) = (A 0 x).toInt := Int.toNat_of_nonneg (by omega)
  unfold tmS tmN
  have q1 : A 1 x = iN (ix (A 1 x)) := iN_of (by omega)
  have q0 : A 0 x = iN (ix (A 0 x)) := iN_of (by omega)
  rw [← iN_div (by omega) (by omega) (by omega), ← iN_add, ← q1, ← q0]
theorem fl_N (hw : WF n A) (hs : SPR sp) (hh : h ≤ 1000000) : ∀ k y, y < 9 → y < k → flS sp A (iN h) y = iN (fnS sp A h y)
  | 0, y, _, q => by omega
  | k + 1, y, hy, q => by
    have e : sumS (fun x => gvS A x y (tiS sp A (iN h) x)) y = sumS (fun x => iN (gvN A x y (tnS sp A h x))) y := sumS_cg y (fun x hx => by
      unfold tiS
      rw [fl_N hw hs hh k x (by omega) (by omega), tm_N hw (by omega) (fn_max hw hs hh (by omega))]
      exact gv_N hw (by omega) (tn_max hw hs hh (by omega)))
    rw [flS_e hy, fnS_e hy, e, sumS_N, ← iN_add]
    refine cg_add ?_
    unfold bsS bsN
    split
    · rfl
    · have := hs y hy
      rw [← iN_mul, ← iN_of (by omega)]
theorem ti_N (hw : WF n A) (hs : SPR sp) (hh : h ≤ 1000000) {y : Nat} (hy : y < 9) : tiS sp A (iN h) y = iN (tnS sp A h y) := by
  unfold tiS
  rw [fl_N hw hs hh 9 y hy hy, tm_N hw hy (fn_max hw hs hh hy)]
  rfl
end BRI
