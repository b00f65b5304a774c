/-! ===== phase 2: the class's hour ===== -/
theorem u2_self {A : Nat → Nat → Int32} {k c : Nat} : u2 A k c (A k c) = A := by
  funext j i
  rw [u2_a2]
  split
  · rename_i h; rw [h.1, h.2]
  · rfl
theorem iN_and1 (m : Nat) : iN m &&& 1 = iN (m % 2) := by
  apply Int32.toBitVec_inj.mp
  apply BitVec.eq_of_toNat_eq
  show (BitVec.ofNat 32 m &&& 1#32).toNat = (BitVec.ofNat 32 (m % 2)).toNat
  rw [BitVec.toNat_and, BitVec.toNat_ofNat, BitVec.toNat_ofNat, BitVec.toNat_ofNat]
  have : (1 : Nat) % 2 ^ 32 = 1 := by decide
  rw [this, Nat.and_one_is_mod]
  omega
theorem odd_ti {t : Int32} (h : 0 ≤ t.toInt) : (t &&& 1) = 1 ↔ t.toInt % 2 = 1 := by
  have e := iN_of h
  have hx := ix_lt t
  have h1 : t.toInt = (ix t : Int) := by
    have := congrArg Int32.toInt e
    rw [iN_ti hx] at this
    exact this
  rw [h1]
  have e2 : t &&& 1 = iN (ix t % 2) := by
    rw [← iN_and1]
    exact congrArg (· &&& 1) e
  rw [e2]
  have : (1 : Int32) = iN 1 := rfl
  rw [this, iN_eq (by omega) (by omega)]
  omega
theorem les_lt {z : Int32} : (if z < 1000000000 then z else 1000000000) = lesS z := by
  unfold lesS
  by_cases h : z < 1000000000
  · rw [if_pos h, if_pos]
    rw [lt_ti] at h
    rw [le_ti]
    omega
  · rw [if_neg h]
    split
    · rename_i h2
      rw [lt_ti] at h
      rw [le_ti] at h2
      rw [eq_ti]
      omega
    · rfl
def stC (a : Nat) : Prop := a = 43 ∨ a = 45 ∨ a = 47 ∨ a = 49
def hcC (o a : Nat) : Prop := a = 5 ∨ a = 27 ∨ a = 28 ∨ stC a ∨ cuC o a
def HC (o : Nat) (T : Nat → Int32) (L : Int32) (X : Hs) (S : PS) : Prop := CU o X.1 S ∧ (∀ c, c < 9 → S.1 27 c = X.2.1 c ∧ S.1 28 c = T c + X.2.2.1 c) ∧ S.1 5 5 = X.2.2.2.1 ∧ S.1 5 6 = L + X.2.2.2.2
theorem cuC_no {o a : Nat} (ho : isCu o) (h : a < 18 ∨ (22 < a ∧ a < 50)) : ¬ cuC o a := by
  have := ho.rg
  unfold cuC
  omega
theorem cuC_ne {o a b : Nat} (ho : isCu o) (h : cuC o a) (hb : b < 18 ∨ (22 < b ∧ b < 50)) : a ≠ b := fun e => cuC_no ho hb (e ▸ h)
section CH
variable {o n : Nat} {T : Nat → Int32} {L : Int32} {X : Hs} {S : PS}
theorem HC.row {a k : Nat} {A' : Nat → Nat → Int32} {y : Int32} (ho : isCu o) (h : HC o T L X S) (ha : cuC o a) (hr : CU o A' (u2 S.1 a k y, S.2)) : HC o T L (A', X.2) (u2 S.1 a k y, S.2) := by
  have h5 : 5 ≠ a := (cuC_ne ho ha (by omega)).symm
  have h27 : 27 ≠ a := (cuC_ne ho ha (by omega)).symm
  have h28 : 28 ≠ a := (cuC_ne ho ha (by omega)).symm
  refine ⟨hr, fun c hc => ⟨?_, ?_⟩, ?_, ?_⟩
  · show u2 S.1 a k y 27 c = _
    rw [u2_o h27]; exact (h.2.1 c hc).1
  · show u2 S.1 a k y 28 c = _
    rw [u2_o h28]; exact (h.2.1 c hc).2
  · show u2 S.1 a k y 5 5 = _
    rw [u2_o h5]; exact h.2.2.1
  · show u2 S.1 a k y 5 6 = _
    rw [u2_o h5]; exact h.2.2.2
theorem HC.com {d : Nat} {y : Int32} (ho : isCu o) (h : HC o T L X S) : HC o T L (X.1, upd X.2.1 d y, X.2.2) (u2 S.1 27 d y, S.2) := by
  refine ⟨h.1.o ho (cuC_no ho (by omega)), fun c hc => ⟨?_, ?_⟩, ?_, ?_⟩
  · show u2 S.1 27 d y 27 c = upd X.2.1 d y c
    rw [u2_at]; unfold upd; rw [(h.2.1 c hc).1]
  · show u2 S.1 27 d y 28 c = _
    rw [u2_o (by decide)]; exact (h.2.1 c hc).2
  · show u2 S.1 27 d y 5 5 = _
    rw [u2_o (by decide)]; exact h.2.2.1
  · show u2 S.1 27 d y 5 6 = _
    rw [u2_o (by decide)]; exact h.2.2.2
theorem HC.tm {d : Nat} {y : Int32} (ho : isCu o) (h : HC o T L X S) : HC o T L (X.1, X.2.1, upd X.2.2.1 d y, X.2.2.2) (u2 S.1 28 d (T d + y), S.2) := by
  refine ⟨h.1.o ho (cuC_no ho (by omega)), fun c hc => ⟨?_, ?_⟩, ?_, ?_⟩
  · show u2 S.1 28 d (T d + y) 27 c = _
    rw [u2_o (by decide)]; exact (h.2.1 c hc).1
  · show u2 S.1 28 d (T d + y) 28 c = T c + upd X.2.2.1 d y c
    rw [u2_at]; unfold upd
    by_cases e : c = d
    · rw [if_pos e, if_pos e, e]
    · rw [if_neg e, if_neg e]; exact (h.2.1 c hc).2
  · show u2 S.1 28 d (T d + y) 5 5 = _
    rw [u2_o (by decide)]; exact h.2.2.1
  · show u2 S.1 28 d (T d + y) 5 6 = _
    rw [u2_o (by decide)]; exact h.2.2.2
theorem HC.tp {y : Int32} (ho : isCu o) (h : HC o T L X S) : HC o T L (X.1, X.2.1, X.2.2.1, y, X.2.2.2.2) (u2 S.1 5 5 y, S.2) := by
  refine ⟨h.1.o ho (cuC_no ho (by omega)), fun c hc => ⟨?_, ?_⟩, ?_, ?_⟩
  · show u2 S.1 5 5 y 27 c = _
    rw [u2_o (by decide)]; exact (h.2.1 c hc).1
  · show u2 S.1 5 5 y 28 c = _
    rw [u2_o (by decide)]; exact (h.2.1 c hc).2
  · show u2 S.1 5 5 y 5 5 = _
    rw [u2_at, upd_at]
  · show u2 S.1 5 5 y 5 6 = _
    rw [u2_at, upd_o (by decide)]; exact h.2.2.2
theorem HC.ls {y : Int32} (ho : isCu o) (h : HC o T L X S) : HC o T L (X.1, X.2.1, X.2.2.1, X.2.2.2.1, y) (u2 S.1 5 6 (L + y), S.2) := by
  refine ⟨h.1.o ho (cuC_no ho (by omega)), fun c hc => ⟨?_, ?_⟩, ?_, ?_⟩
  · show u2 S.1 5 6 (L + y) 27 c = _
    rw [u2_o (by decide)]; exact (h.2.1 c hc).1
  · show u2 S.1 5 6 (L + y) 28 c = _
    rw [u2_o (by decide)]; exact (h.2.1 c hc).2
  · show u2 S.1 5 6 (L + y) 5 5 = _
    rw [u2_at, upd_o (by decide)]; exact h.2.2.1
  · show u2 S.1 5 6 (L + y) 5 6 = _
    rw [u2_at, upd_at]
theorem HC.fc {S' : PS} (ho : isCu o) (h : HC o T L X S) (hf : FC stC S S') : HC o T L X S' := by
  refine ⟨h.1.fr ho hf.1 (fun a ha hs => ?_), fun c hc => ?_, ?_, ?_⟩
  · rcases hs with rfl | rfl | rfl | rfl <;> exact cuC_no ho (by omega) ha
  · rw [hf.1 27 (by unfold stC; omega), hf.1 28 (by unfold stC; omega)]; exact h.2.1 c hc
  · rw [hf.1 5 (by unfold stC; omega)]; exact h.2.2.1
  · rw [hf.1 5 (by unfold stC; omega)]; exact h.2.2.2
theorem give_f {N : Nat} {x : Int32} : fX3_give N (-1) x S = some (u2 S.1 5 6 (S.1 5 6 + x), S.2) := by
  unfold fX3_give
  rw [if_pos (by decide)]
  rfl
theorem give_c {N d : Nat} {x : Int32} (hd : d < 9) : fX3_give N (iN d) x S = some (u2 S.1 27 d (S.1 27 d + x), S.2) := by
  have h1 : ¬ iN d < 0 := by
    have : (0 : Int32) = iN 0 := rfl
    rw [this, iN_lt (by omega) (by omega)]; omega
  have h2 : ¬ 9 ≤ iN d := by
    have : (9 : Int32) = iN 9 := rfl
    rw [this, iN_le (by omega) (by omega)]; omega
  have h3 : inr (iN d) 9 := inr_iN hd (by omega)
  unfold fX3_give
  rw [if_neg h1, if_neg h2, gd_t h3, gd_t h3, ix_iN (by omega)]
  rfl
theorem bitOf_c {N d : Nat} (hd : d < 9) : fX11_bitOf N (iN d) S = some (1 <<< (iN d &&& 31), S) := by
  have h1 : ¬ iN d < 0 := by
    have : (0 : Int32) = iN 0 := rfl
    rw [this, iN_lt (by omega) (by omega)]; omega
  have h2 : ¬ 9 ≤ iN d := by
    have : (9 : Int32) = iN 9 := rfl
    rw [this, iN_le (by omega) (by omega)]; omega
  unfold fX11_bitOf lt
  rw [if_neg h1, if_neg h2]
theorem bitOf_f {N : Nat} : fX11_bitOf N (-1) S = some (0, S) := by
  unfold fX11_bitOf lt
  rw [if_pos (by decide)]
/-- how many of the drops go into the first one -/
theorem C_dif {N c : Nat} {t : Int32} (ho : isCu o) (hc : c < 9) (h : CU o X.1 S) (h6 : X.1 6 c = 0 ∨ X.1 6 c = 1) :
    fX2_dropsIntoFirst N o (iN c) t S = some (if X.1 3 c = -1 then t else hfS c t X.1, S) := by
  have hi : inr (iN c) 9 := inr_iN hc (by omega)
  have hx : ix (iN c) = c := ix_iN (by omega)
  unfold fX2_dropsIntoFirst
  rw [gd_t ho.ob, gd_t (ho.ar (by omega)), gd_t hi, gd_t ho.ob, hx, h.1 3 (by omega) c hc]
  by_cases e : X.1 3 c = -1
  · rw [if_pos e, if_pos e]
  · rw [if_neg e, if_neg e]
    unfold lt
    rw [bt_has h.2.2.2 hc]
    unfold hfS
    rcases h6 with e6 | e6
    · rw [e6, if_pos rfl]; rfl
    · rw [e6, if_neg (by decide)]
      show some ((t + 0) / 2, S) = some (t / 2, S)
      rw [Int32.add_zero]
theorem C_letGo {N c : Nat} {t : Int32} (ho : isCu o) (hc : c < n) (hw : WF n X.1) (ht : 0 ≤ t.toInt ∧ t.toInt ≤ 40000) (h5 : S.2.2 5 4 = o) (h : HC o T L X S) :
    rn (fX3_letGo N (iN c) t S) (fun S' => HC o T L (fallS c t X) S' ∧ FC (hcC o) S S') := by
  have hn := hw.1
  have hc9 : c < 9 := by omega
  have hi : inr (iN c) 9 := inr_iN hc9 (by omega)
  have hx : ix (iN c) = c := ix_iN (by omega)
  obtain ⟨h0, h1, hf, hs, h4, hp, h6, h7⟩ := hw.2 c hc9
  have ho5 : ¬ cuC o 5 := cuC_no ho (by omega)
  have ho27 : ¬ cuC o 27 := cuC_no ho (by omega)
  have n2 : (sr o 2) ≠ 5 ∧ sr o 2 ≠ 27 := by rw [ho.sr (by omega)]; omega
  have n3 : (sr o 3) ≠ 5 ∧ sr o 3 ≠ 27 := by rw [ho.sr (by omega)]; omega
  by_cases e1 : X.1 2 c = -1
  · have e2 : X.1 3 c = -1 := by
      rcases hs with e | ⟨d, -, -, -, -, hh⟩
      · exact e
      · exact absurd e1 hh
    have q2 : ∀ v, u2 S.1 5 6 v (sr o 3) c = -1 := fun v => by rw [u2_o n3.1, h.1.1 3 (by omega) c hc9, e2]
    have q3 : ∀ v w, u2 (u2 S.1 5 6 v) 5 6 w (sr o 3) c = -1 := fun v w => by rw [u2_o n3.1, u2_o n3.1, h.1.1 3 (by omega) c hc9, e2]
    simp only [fX3_letGo, fX2_passTurns, rn_lt, rn_bI, rn_bV, h5, gd_t ho.ob, gd_t (ho.ar (k := 2) (by omega)), gd_t (ho.ar (k := 3) (by omega)), gd_t hi, hx, C_dif ho hc9 h.1 h6, rn_some, h.1.1 2 (by omega) c hc9, e1, e2, give_f, q2, q3, if_true]
    have hA := h.ls (y := X.2.2.2.2 + t) ho
    have e3 : u2 (u2 S.1 5 6 (S.1 5 6 + t)) 5 6 (u2 S.1 5 6 (S.1 5 6 + t) 5 6 + (t - t)) = u2 S.1 5 6 (L + (X.2.2.2.2 + t)) := by
      have q : u2 S.1 5 6 (S.1 5 6 + t) 5 6 + (t - t) = L + (X.2.2.2.2 + t) := by
        rw [u2_at, upd_at, h.2.2.2, Int32.sub_self, Int32.add_zero, Int32.add_assoc]
      rw [q]
      funext a k
      rw [u2_a2, u2_a2, u2_a2]
      split
      · rfl
      · rfl
    rw [e3]
    have e4 : fallS c t X = (X.1, X.2.1, X.2.2.1, X.2.2.2.1, X.2.2.2.2 + t) := by unfold fallS; rw [if_pos e1]
    rw [e4]
    exact ⟨hA, FC.rfl.u (Or.inl rfl)⟩
  · obtain ⟨d1, hd1, hk1, hn1⟩ := hf.resolve_left e1
    have hx1 : ix (X.1 2 c) = d1 := by rw [hd1]; exact ix_iN (by omega)
    by_cases e2 : X.1 3 c = -1
    · have q2 : ∀ v, u2 S.1 27 d1 v (sr o 3) c = -1 := fun v => by rw [u2_o n3.2, h.1.1 3 (by omega) c hc9, e2]
      have q3 : ∀ v w, u2 (u2 S.1 27 d1 v) 5 6 w (sr o 3) c = -1 := fun v w => by rw [u2_o n3.1, u2_o n3.2, h.1.1 3 (by omega) c hc9, e2]
      simp only [fX3_letGo, fX2_passTurns, rn_lt, rn_bI, rn_bV, h5, gd_t ho.ob, gd_t (ho.ar (k := 2) (by omega)), gd_t (ho.ar (k := 3) (by omega)), gd_t hi, hx, C_dif ho hc9 h.1 h6, rn_some, h.1.1 2 (by omega) c hc9, hd1, e2, give_f, give_c (show d1 < 9 by omega), q2, q3, if_true]
      have e4 : fallS c t X = (X.1, upd X.2.1 d1 (X.2.1 d1 + t), X.2.2) := by unfold fallS; rw [if_neg e1, if_pos e2, hx1]
      rw [e4]
      have hA := h.com (d := d1) (y := X.2.1 d1 + t) ho
      have hB := hA.ls (y := X.2.2.2.2) ho
      have e5 : u2 S.1 27 d1 (S.1 27 d1 + t) 5 6 + (t - t) = L + X.2.2.2.2 := by rw [u2_o (by decide), h.2.2.2, Int32.sub_self, Int32.add_zero]
      have e6 : S.1 27 d1 = X.2.1 d1 := (h.2.1 d1 (by omega)).1
      rw [e5, e6]
      exact ⟨hB, (FC.rfl.u (Or.inr (Or.inl rfl))).u (Or.inl rfl)⟩
    · obtain ⟨d2, hd2, hk2, hn2, hne, -⟩ := hs.resolve_left e2
      have hx2 : ix (X.1 3 c) = d2 := by rw [hd2]; exact ix_iN (by omega)
      have hm1 : ¬ iN d2 = -1 := iN_n1 (by omega)
      have q2 : ∀ v, u2 S.1 27 d1 v (sr o 3) c = iN d2 := fun v => by rw [u2_o n3.2, h.1.1 3 (by omega) c hc9, hd2]
      have q3 : ∀ v w, u2 (u2 S.1 27 d1 v) 27 d2 w (sr o 3) c = iN d2 := fun v w => by rw [u2_o n3.2, u2_o n3.2, h.1.1 3 (by omega) c hc9, hd2]
      have q8 : ∀ v w, u2 (u2 S.1 27 d1 v) 27 d2 w o 8 = S.1 o 8 := fun v w => by
        have := ho.rg
        rw [u2_o (by omega), u2_o (by omega)]
      have e4 : fallS c t X = (u2 X.1 6 c ((X.1 6 c + t) - (X.1 6 c + t) / 2 * 2), upd (upd X.2.1 d1 (X.2.1 d1 + hfS c t X.1)) d2 (upd X.2.1 d1 (X.2.1 d1 + hfS c t X.1) d2 + (t - hfS c t X.1)), X.2.2) := by unfold fallS; rw [if_neg e1, if_neg e2, hx1, hx2]
      rw [e4]
      have hA := h.com (d := d1) (y := X.2.1 d1 + hfS c t X.1) ho
      have hB := hA.com (d := d2) (y := upd X.2.1 d1 (X.2.1 d1 + hfS c t X.1) d2 + (t - hfS c t X.1)) ho
      have e5 : S.1 27 d1 = X.2.1 d1 := (h.2.1 d1 (by omega)).1
      have e6 : u2 S.1 27 d1 (X.2.1 d1 + hfS c t X.1) 27 d2 = upd X.2.1 d1 (X.2.1 d1 + hfS c t X.1) d2 := (hA.2.1 d2 (by omega)).1
      have hF : FC (hcC o) S (u2 (u2 S.1 27 d1 (X.2.1 d1 + hfS c t X.1)) 27 d2 (upd X.2.1 d1 (X.2.1 d1 + hfS c t X.1) d2 + (t - hfS c t X.1)), S.2) := (FC.rfl.u (Or.inr (Or.inl rfl))).u (Or.inr (Or.inl rfl))
      have h6t : 0 ≤ (X.1 6 c).toInt ∧ (X.1 6 c).toInt ≤ 1 := by rcases h6 with e | e <;> rw [e] <;> decide
      have ha : (X.1 6 c + t).toInt = (X.1 6 c).toInt + t.toInt := ti_add (by omega) (by omega)
      have hm := md_ti (v := X.1 6 c + t) (h := 2) (by omega) (by decide)
      rw [t_ti] at hm
      simp only [fX3_letGo, fX2_passTurns, rn_lt, rn_bI, rn_bV, h5, gd_t ho.ob, gd_t (ho.ar (k := 2) (by omega)), gd_t (ho.ar (k := 3) (by omega)), gd_t hi, hx, C_dif ho hc9 h.1 h6, rn_some, h.1.1 2 (by omega) c hc9, hd1, give_c (show d1 < 9 by omega), q2, hd2, hm1, if_false, give_c (show d2 < 9 by omega), q3, e5, e6, q8]
      by_cases od : (t &&& 1) = 1
      · rw [if_pos od]
        simp only [rn_lt, rn_some]
        have hv : (X.1 6 c + t) - (X.1 6 c + t) / 2 * 2 = 1 - X.1 6 c := by
          have o2 := (odd_ti ht.1).mp od
          rw [eq_ti, hm, ti_sub (by rw [o_ti]; omega) (by rw [o_ti]; omega), o_ti]
          omega
        rw [hv]
        have hbt := bt_xor h.1.2.2.2 hc9
        have hU := hB.1.u8 ho hbt
        have hrw : urow X.1 6 (upd (X.1 6) c (1 - X.1 6 c)) = u2 X.1 6 c (1 - X.1 6 c) := u2_urow
        have hU2 : CU o (u2 X.1 6 c (1 - X.1 6 c)) _ := hrw ▸ hU
        exact ⟨hB.row ho (Or.inl rfl) hU2, hF.u (Or.inr (Or.inr (Or.inr (Or.inr (Or.inl rfl)))))⟩
      · rw [if_neg od, rn_some]
        have hv : (X.1 6 c + t) - (X.1 6 c + t) / 2 * 2 = X.1 6 c := by
          have o2 : ¬ t.toInt % 2 = 1 := fun hh => od ((odd_ti ht.1).mpr hh)
          rw [eq_ti, hm]
          omega
        rw [hv, u2_self]
        exact ⟨hB, hF⟩
end CH
