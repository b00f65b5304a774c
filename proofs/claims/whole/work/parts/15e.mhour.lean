/-! ===== phase 2: the model's hour ===== -/
def HM (b n : Nat) (X : Hs) (S : PS) : Prop := MR b n X.1 S ∧ (∀ c, c < n → S.1 95 c = X.2.1 c ∧ S.1 96 c = X.2.2.1 c) ∧ S.1 80 38 = X.2.2.2.1 ∧ S.1 80 39 = X.2.2.2.2
def hcM (a : Nat) : Prop := a = 91 ∨ a = 93 ∨ a = 94 ∨ a = 95 ∨ a = 96
def hfM (k : Nat) : Prop := k = 38 ∨ k = 39
def FH (b : Nat) (S T : PS) : Prop := FM hcM hfM S T ∧ ∀ k, (k < b ∨ b + 64 ≤ k) → T.1 91 k = S.1 91 k
theorem FH.rfl {b : Nat} {S : PS} : FH b S S := ⟨FM.rfl, fun _ _ => Eq.refl _⟩
theorem FH.tr {b : Nat} {S T U : PS} (h : FH b S T) (h' : FH b T U) : FH b S U := ⟨h.1.tr h'.1, fun k hk => (h'.2 k hk).trans (h.2 k hk)⟩
theorem FH.r {b k : Nat} {S T : PS} {x : Int32} (h : FH b S T) (h1 : b ≤ k) (h2 : k < b + 64) : FH b S (u2 T.1 91 k x, T.2) :=
  ⟨h.1.u (by decide) (Or.inl (Eq.refl 91)), fun j hj => by show u2 T.1 91 k x 91 j = _; rw [u2_at, upd_o (by omega)]; exact h.2 j hj⟩
theorem FH.c {b a k : Nat} {S T : PS} {x : Int32} (h : FH b S T) (h8 : a ≠ 80) (h1 : a ≠ 91) (ha : hcM a) : FH b S (u2 T.1 a k x, T.2) :=
  ⟨h.1.u h8 ha, fun j hj => by show u2 T.1 a k x 91 j = _; rw [u2_o (Ne.symm h1)]; exact h.2 j hj⟩
theorem FH.f {b k : Nat} {S T : PS} {x : Int32} (h : FH b S T) (hk : hfM k) : FH b S (u2 T.1 80 k x, T.2) :=
  ⟨h.1.f hk, fun j hj => by show u2 T.1 80 k x 91 j = _; rw [u2_o (by decide)]; exact h.2 j hj⟩
theorem HM.ls {b n : Nat} {X : Hs} {S : PS} {y : Int32} (h : HM b n X S) : HM b n (X.1, X.2.1, X.2.2.1, X.2.2.2.1, y) (u2 S.1 80 39 y, S.2) :=
  ⟨h.1.cg (by show u2 S.1 80 39 y 91 = _; rw [u2_o (by decide)]), fun c hc => ⟨by show u2 S.1 80 39 y 95 c = _; rw [u2_o (by decide)]; exact (h.2.1 c hc).1, by show u2 S.1 80 39 y 96 c = _; rw [u2_o (by decide)]; exact (h.2.1 c hc).2⟩, by show u2 S.1 80 39 y 80 38 = _; rw [u2_at, upd_o (by decide)]; exact h.2.2.1, by show u2 S.1 80 39 y 80 39 = _; rw [u2_at, upd_at]⟩
theorem HM.tp {b n : Nat} {X : Hs} {S : PS} {y : Int32} (h : HM b n X S) : HM b n (X.1, X.2.1, X.2.2.1, y, X.2.2.2.2) (u2 S.1 80 38 y, S.2) :=
  ⟨h.1.cg (by show u2 S.1 80 38 y 91 = _; rw [u2_o (by decide)]), fun c hc => ⟨by show u2 S.1 80 38 y 95 c = _; rw [u2_o (by decide)]; exact (h.2.1 c hc).1, by show u2 S.1 80 38 y 96 c = _; rw [u2_o (by decide)]; exact (h.2.1 c hc).2⟩, by show u2 S.1 80 38 y 80 38 = _; rw [u2_at, upd_at], by show u2 S.1 80 38 y 80 39 = _; rw [u2_at, upd_o (by decide)]; exact h.2.2.2⟩
theorem HM.com {b n d : Nat} {X : Hs} {S : PS} {y : Int32} (h : HM b n X S) : HM b n (X.1, upd X.2.1 d y, X.2.2) (u2 S.1 95 d y, S.2) :=
  ⟨h.1.cg (by show u2 S.1 95 d y 91 = _; rw [u2_o (by decide)]), fun c hc => ⟨by show u2 S.1 95 d y 95 c = upd X.2.1 d y c; rw [u2_at]; unfold upd; rw [(h.2.1 c hc).1], by show u2 S.1 95 d y 96 c = _; rw [u2_o (by decide)]; exact (h.2.1 c hc).2⟩, by show u2 S.1 95 d y 80 38 = _; rw [u2_o (by decide)]; exact h.2.2.1, by show u2 S.1 95 d y 80 39 = _; rw [u2_o (by decide)]; exact h.2.2.2⟩
theorem HM.tm {b n d : Nat} {X : Hs} {S : PS} {y : Int32} (h : HM b n X S) : HM b n (X.1, X.2.1, upd X.2.2.1 d y, X.2.2.2) (u2 S.1 96 d y, S.2) :=
  ⟨h.1.cg (by show u2 S.1 96 d y 91 = _; rw [u2_o (by decide)]), fun c hc => ⟨by show u2 S.1 96 d y 95 c = _; rw [u2_o (by decide)]; exact (h.2.1 c hc).1, by show u2 S.1 96 d y 96 c = upd X.2.2.1 d y c; rw [u2_at]; unfold upd; rw [(h.2.1 c hc).2]⟩, by show u2 S.1 96 d y 80 38 = _; rw [u2_o (by decide)]; exact h.2.2.1, by show u2 S.1 96 d y 80 39 = _; rw [u2_o (by decide)]; exact h.2.2.2⟩
theorem HM.row {b n k : Nat} {X : Hs} {A' : Nat → Nat → Int32} {S : PS} {y : Int32} (h : HM b n X S) (hr : MR b n A' (u2 S.1 91 k y, S.2)) : HM b n (A', X.2) (u2 S.1 91 k y, S.2) :=
  ⟨hr, fun c hc => ⟨by show u2 S.1 91 k y 95 c = _; rw [u2_o (by decide)]; exact (h.2.1 c hc).1, by show u2 S.1 91 k y 96 c = _; rw [u2_o (by decide)]; exact (h.2.1 c hc).2⟩, by show u2 S.1 91 k y 80 38 = _; rw [u2_o (by decide)]; exact h.2.2.1, by show u2 S.1 91 k y 80 39 = _; rw [u2_o (by decide)]; exact h.2.2.2⟩
theorem HM.fm {b n : Nat} {X : Hs} {S T : PS} (h : HM b n X S) (hf : FM (fun a => a = 93 ∨ a = 94) (fun _ => False) S T) : HM b n X T :=
  ⟨h.1.cg (hf.1 91 (by decide) (by decide)), fun c hc => ⟨by rw [hf.1 95 (by decide) (by decide)]; exact (h.2.1 c hc).1, by rw [hf.1 96 (by decide) (by decide)]; exact (h.2.1 c hc).2⟩, by rw [hf.2.1 38 id]; exact h.2.2.1, by rw [hf.2.1 39 id]; exact h.2.2.2⟩
theorem FH.fm {b : Nat} {S T : PS} (hf : FM (fun a => a = 93 ∨ a = 94) (fun _ => False) S T) : FH b S T :=
  ⟨hf.mono (fun a h => by rcases h with h | h <;> simp [hcM, h]) (fun _ h => h.elim), fun k _ => by rw [hf.1 91 (by decide) (by decide)]⟩
theorem M_falls {N b n c : Nat} {X : Hs} {S : PS} {t : Int32} (hb : b ≤ 64) (hc : c < n) (hw : WF n X.1) (h : HM b n X S) :
    rn (fX12_falls N (iN b) (iN c) t S) (fun T => HM b n (fallS c t X) T ∧ FH b S T) := by
  have hn := hw.1
  have o19 : iN b + 19 + iN c = iN (b + 19 + c) := of_add b 19 c
  have o28 : iN b + 28 + iN c = iN (b + 28 + c) := of_add b 28 c
  have o37 : iN b + 37 + iN c = iN (b + 37 + c) := of_add b 37 c
  have i19 : inr (iN (b + 19 + c)) 128 := inr_iN (by omega) (by omega)
  have i28 : inr (iN (b + 28 + c)) 128 := inr_iN (by omega) (by omega)
  have i37 : inr (iN (b + 37 + c)) 128 := inr_iN (by omega) (by omega)
  have x19 : ix (iN (b + 19 + c)) = b + 19 + c := ix_iN (by omega)
  have x28 : ix (iN (b + 28 + c)) = b + 28 + c := ix_iN (by omega)
  have x37 : ix (iN (b + 37 + c)) = b + 37 + c := ix_iN (by omega)
  obtain ⟨r0, r1, r2, r3, r4, r5, r6⟩ := h.1.2 c hc
  obtain ⟨h0, h1, hf, hs, h4, h5, h6, h7⟩ := hw.2 c (by omega)
  by_cases e1 : X.1 2 c = -1
  · simp only [fX12_falls, fallS, rn_gd, rn_lt, rn_some, o19, o28, gd_t i19, gd_t i28, x19, x28, r2, r3, e1, if_true, true_and, h.2.2.2]
    exact ⟨h.ls, FH.rfl.f (Or.inr rfl)⟩
  · obtain ⟨d1, hd1, hk1, hn1⟩ := hf.resolve_left e1
    have hx1 : ix (X.1 2 c) = d1 := by rw [hd1]; exact ix_iN (by omega)
    have hi1 : inr (X.1 2 c) 9 := by rw [hd1]; exact inr_iN (by omega) (by omega)
    by_cases e2 : X.1 3 c = -1
    · simp only [fX12_falls, fallS, rn_gd, rn_lt, rn_some, o19, o28, gd_t i19, gd_t i28, x19, x28, r2, r3, e1, e2, if_true, if_false, true_and, gd_t hi1, hx1, (h.2.1 d1 hn1).1]
      exact ⟨h.com, FH.rfl.c (by decide) (by decide) (by simp [hcM])⟩
    · obtain ⟨d2, hd2, hk2, hn2, hne, -⟩ := hs.resolve_left e2
      have hx2 : ix (X.1 3 c) = d2 := by rw [hd2]; exact ix_iN (by omega)
      have hi2 : inr (X.1 3 c) 9 := by rw [hd2]; exact inr_iN (by omega) (by omega)
      have hA := h.com (d := d1) (y := X.2.1 d1 + hfS c t X.1)
      have hv2 : u2 S.1 95 d1 (X.2.1 d1 + hfS c t X.1) 95 d2 = upd X.2.1 d1 (X.2.1 d1 + hfS c t X.1) d2 := (hA.2.1 d2 hn2).1
      have hB := hA.com (d := d2) (y := upd X.2.1 d1 (X.2.1 d1 + hfS c t X.1) d2 + (t - hfS c t X.1))
      have hC := hB.row (hB.1.u6 (c := c) (x := (X.1 6 c + t) - (X.1 6 c + t) / 2 * 2) hn hc)
      have hF : FH b S _ := ((FH.rfl (b := b) (S := S)).c (a := 95) (k := d1) (x := X.2.1 d1 + hfS c t X.1) (by decide) (by decide) (by simp [hcM])).c (a := 95) (k := d2) (x := upd X.2.1 d1 (X.2.1 d1 + hfS c t X.1) d2 + (t - hfS c t X.1)) (by decide) (by decide) (by simp [hcM])
      have hG := hF.r (k := b + 37 + c) (x := (X.1 6 c + t) - (X.1 6 c + t) / 2 * 2) (by omega) (by omega)
      have hv3 : ∀ v w, u2 (u2 S.1 95 d1 v) 95 d2 w 91 (b + 37 + c) = X.1 6 c := fun v w => by rw [u2_o (by decide), u2_o (by decide)]; exact r6
      by_cases e3 : X.1 6 c = 0
      · have hh : hfS c t X.1 = (t + 1) / 2 := by unfold hfS; rw [if_pos e3]
        rw [hh] at hv2 hC hG
        simp only [fX12_falls, fallS, rn_gd, rn_lt, rn_some, o19, o28, o37, gd_t i19, gd_t i28, gd_t i37, x19, x28, x37, r2, r3, r6, e1, e2, if_false, true_and, gd_t hi1, hx1, gd_t hi2, hx2, (h.2.1 d1 hn1).1, hh, hv2, hv3]
        rw [if_pos e3]
        simp only [rn_gd, rn_lt, rn_some, gd_t hi1, gd_t hi2, hv2, hv3, gd_t i37, true_and]
        exact ⟨hC, hG⟩
      · have hh : hfS c t X.1 = t / 2 := by unfold hfS; rw [if_neg e3]
        rw [hh] at hv2 hC hG
        simp only [fX12_falls, fallS, rn_gd, rn_lt, rn_some, o19, o28, o37, gd_t i19, gd_t i28, gd_t i37, x19, x28, x37, r2, r3, r6, e1, e2, if_false, true_and, gd_t hi1, hx1, gd_t hi2, hx2, (h.2.1 d1 hn1).1, hh, hv2, hv3]
        rw [if_neg e3]
        simp only [rn_gd, rn_lt, rn_some, gd_t hi1, gd_t hi2, hv2, hv3, gd_t i37, true_and]
        exact ⟨hC, hG⟩
theorem M_gets {N b n c : Nat} {X : Hs} {S : PS} {d : Int32} (hb : b ≤ 64) (hc : c < n) (hw : WF n X.1) (hd : 0 ≤ d.toInt ∧ d.toInt ≤ 40000) (h : HM b n X S) :
    rn (fX12_gets N (iN b) (iN c) d S) (fun T => HM b n (getS c d X) T ∧ FH b S T) := by
  have hn := hw.1
  have o1 : iN b + 1 + iN c = iN (b + 1 + c) := of_add b 1 c
  have o10 : iN b + 10 + iN c = iN (b + 10 + c) := of_add b 10 c
  have o46 : iN b + 46 + iN c = iN (b + 46 + c) := of_add b 46 c
  have i1 : inr (iN (b + 1 + c)) 128 := inr_iN (by omega) (by omega)
  have i10 : inr (iN (b + 10 + c)) 128 := inr_iN (by omega) (by omega)
  have i46 : inr (iN (b + 46 + c)) 128 := inr_iN (by omega) (by omega)
  have i9 : inr (iN c) 9 := inr_iN (by omega) (by omega)
  have x1 : ix (iN (b + 1 + c)) = b + 1 + c := ix_iN (by omega)
  have x10 : ix (iN (b + 10 + c)) = b + 10 + c := ix_iN (by omega)
  have x46 : ix (iN (b + 46 + c)) = b + 46 + c := ix_iN (by omega)
  have x9 : ix (iN c) = c := ix_iN (by omega)
  obtain ⟨r0, r1, r2, r3, r4, r5, r6⟩ := h.1.2 c hc
  have hwc := hw.2 c (by omega)
  have hz : ¬ X.1 0 c = 0 := by
    intro e
    have := hwc.1.1
    rw [e, z_ti] at this
    omega
  have hv : ∀ v, u2 S.1 91 (b + 10 + c) v 91 (b + 46 + c) = X.1 4 c := fun v => by rw [u2_at, upd_o (by omega)]; exact r4
  have hA := h.row (h.1.u1 (c := c) (x := (X.1 1 c + d) - (X.1 1 c + d) / X.1 0 c * X.1 0 c) hn hc)
  have hB := hA.row (hA.1.u4 (c := c) (x := lesS (X.1 4 c + tipT c d X.1)) hn hc)
  have hC := hB.tm (d := c) (y := tipT c d X.1)
  have hF : FH b S _ := (((FH.rfl (b := b) (S := S)).r (k := b + 10 + c) (x := (X.1 1 c + d) - (X.1 1 c + d) / X.1 0 c * X.1 0 c) (by omega) (by omega)).r (k := b + 46 + c) (x := lesS (X.1 4 c + tipT c d X.1)) (by omega) (by omega)).c (a := 96) (k := c) (x := tipT c d X.1) (by decide) (by decide) (by simp [hcM])
  by_cases e : tipT c d X.1 = 0
  · have e' : (X.1 1 c + d) / X.1 0 c = 0 := e
    have hg : getS c d X = (tipA c d X.1, X.2.1, upd X.2.2.1 c (tipT c d X.1), X.2.2.2) := by unfold getS; rw [if_pos e]
    rw [hg]
    simp only [fX12_gets, fX12_lesser, rn_gd, rn_lt, rn_bI, rn_some, o1, o10, o46, gd_t i1, gd_t i10, gd_t i46, gd_t i9, x1, x10, x46, x9, r0, r1, hv, hz, not_false_eq_true, true_and]
    rw [if_pos e', rn_some]
    exact ⟨hC, hF⟩
  · have e' : ¬ (X.1 1 c + d) / X.1 0 c = 0 := e
    have hg : getS c d X = fallS c (tipT c d X.1) (tipA c d X.1, X.2.1, upd X.2.2.1 c (tipT c d X.1), X.2.2.2.1 ||| (1 <<< (iN c &&& 31)), X.2.2.2.2) := by unfold getS; rw [if_neg e]
    rw [hg]
    simp only [fX12_gets, fX12_lesser, rn_gd, rn_lt, rn_bI, rn_some, o1, o10, o46, gd_t i1, gd_t i10, gd_t i46, gd_t i9, x1, x10, x46, x9, r0, r1, hv, hz, not_false_eq_true, true_and]
    rw [if_neg e']
    simp only [rn_lt, rn_bV, rn_some]
    have hD := hC.tp (y := X.2.2.2.1 ||| (1 <<< (iN c &&& 31)))
    have hF2 := hF.f (k := 38) (x := X.2.2.2.1 ||| (1 <<< (iN c &&& 31))) (Or.inl rfl)
    have h38 : ∀ v w z, u2 (u2 (u2 S.1 91 (b + 10 + c) v) 91 (b + 46 + c) w) 96 c z 80 38 = X.2.2.2.1 := fun v w z => by rw [u2_o (by decide), u2_o (by decide), u2_o (by decide)]; exact h.2.2.1
    rw [h38]
    exact rn_mono (M_falls hb hc (tipA_WF hw hc hd) hD) (fun T hT => ⟨hT.1, hF2.tr hT.2⟩)
def SPR (sp : Nat → Int32) : Prop := ∀ c, c < 9 → 0 ≤ (sp c).toInt ∧ (sp c).toInt ≤ 20
theorem HI_0 {n : Nat} {A : Nat → Nat → Int32} (h : WF n A) : HI n 0 (begS A) :=
  ⟨h, fun j _ => by show 0 ≤ (0 : Int32).toInt ∧ (0 : Int32).toInt ≤ _; rw [z_ti]; omega, fun j _ => by show 0 ≤ (0 : Int32).toInt ∧ (0 : Int32).toInt ≤ _; rw [z_ti]; omega, fun _ _ => rfl, bt_congr bt_0 (fun c _ => rfl)⟩
theorem drop_r {n k w : Nat} {fr : Option (List Int32)} {sp : Nat → Int32} {X : Hs} (hs : SPR sp) (h : HI n k X) (hk : k < n) :
    0 ≤ (X.2.1 k + (if runS w fr sp X.1 k = 0 then 0 else sp k)).toInt ∧ (X.2.1 k + (if runS w fr sp X.1 k = 0 then 0 else sp k)).toInt ≤ 128 * 2 ^ k - 44 := by
  have hn := h.1.1
  have hp := p2k (show k < 9 by omega)
  have hpz : ((2 ^ k : Nat) : Int) = (2 : Int) ^ k := by norm_cast
  have h1 := h.2.1 k (by omega)
  have h2 := hs k (by omega)
  have h3 : 0 ≤ (if runS w fr sp X.1 k = 0 then 0 else sp k).toInt ∧ (if runS w fr sp X.1 k = 0 then 0 else sp k).toInt ≤ 20 := by
    split
    · rw [z_ti]; omega
    · exact h2
  rw [ti_add (by omega) (by omega)]
  omega
theorem HI_up {n w : Nat} {fr : Option (List Int32)} {sp : Nat → Int32} {X : Hs} (hs : SPR sp) (h : HI n 0 X) : ∀ k, k ≤ n → HI n k (upS w fr sp k X)
  | 0, _ => h
  | k + 1, hk => by
    have ih := HI_up (w := w) (fr := fr) hs h k (by omega)
    exact HI_get ih (by omega) (drop_r hs ih (by omega))
theorem bnd_r {v f : Int32} (h : 0 ≤ f.toInt) : 0 ≤ (bndS v f).toInt ∧ (bndS v f).toInt ≤ f.toInt := by
  unfold bndS
  split
  · rename_i h0
    rw [le_ti, z_ti] at h0
    split
    · rename_i h1
      rw [le_ti] at h1
      exact ⟨h0, h1⟩
    · omega
  · rw [z_ti]; omega
theorem WF_fill {n k : Nat} {A : Nat → Nat → Int32} {v : Int32} (h : WF n A) (hk : k < n) (hv : 0 ≤ v.toInt ∧ v.toInt < (A 0 k).toInt) : WF n (u2 A 1 k v) := by
  refine ⟨h.1, fun j hj => ?_⟩
  by_cases e : j = k
  · subst e
    obtain ⟨h0, h1, h2, h3, h4, h5, h6, h7⟩ := h.2 j hj
    unfold WR
    rw [u2_at, upd_at, u2_o (by omega), u2_o (by omega), u2_o (by omega), u2_o (by omega), u2_o (by omega), u2_o (by omega)]
    exact ⟨h0, hv, h2, h3, h4, h5, h6, fun hh => by omega⟩
  · exact (h.2 j hj).cg (fun q _ => by rw [u2_a2, if_neg (by omega)])
theorem lk1_WF {n k : Nat} {L : List Int32} {sp : Nat → Int32} {Y : Hs} (h : WF n Y.1) (hk : k < n) : WF n (lk1 L sp k Y).1 := by
  have hn := h.1
  have hw := h.2 k (by omega)
  have hb := bnd_r (v := valS L Y.1 sp k) hw.2.1.1
  apply WF_fill h hk
  have h0 := hw.1
  have h1 := hw.2.1
  rw [ti_sub (by omega) (by omega)]
  omega
theorem lkL_WF {n : Nat} {L : List Int32} {sp : Nat → Int32} {X : Hs} (h : WF n X.1) : ∀ k, k ≤ n → WF n (lkL L sp k X).1
  | 0, _ => h
  | k + 1, hk => lk1_WF (lkL_WF h k (by omega)) (by omega)
theorem lkL_s {L : List Int32} {sp : Nat → Int32} {X : Hs} : ∀ k, (lkL L sp k X).2.2.1 = X.2.2.1 ∧ (lkL L sp k X).2.2.2.1 = X.2.2.2.1
  | 0 => ⟨rfl, rfl⟩
  | k + 1 => lkL_s k
theorem WF_7 {n : Nat} {A : Nat → Nat → Int32} {v : Int32} (h : WF n A) : WF n (u2 A 7 0 v) :=
  ⟨h.1, fun j hj => (h.2 j hj).cg (fun q hq => by rw [u2_o (by omega)])⟩
/-- what an hour leaves -/
def HO (n : Nat) (X : Hs) : Prop := WF n X.1 ∧ (∀ j, j < 9 → 0 ≤ (X.2.2.1 j).toInt ∧ (X.2.2.1 j).toInt ≤ 65536) ∧ (∀ j, n ≤ j → X.2.2.1 j = 0) ∧ bt X.2.2.2.1 (fun c => if X.2.2.1 c = 0 then 0 else 1)
theorem hour_HO {n w : Nat} {lk fr : Option (List Int32)} {sp : Nat → Int32} {A : Nat → Nat → Int32} (hs : SPR sp) (h : WF n A) : HO n (hourS n w lk fr sp A) := by
  obtain ⟨h1, h2, h3, h4, h5⟩ := HI_up (w := w) (fr := fr) hs (HI_0 h) n (Nat.le_refl _)
  unfold hourS endS lkS HO
  cases lk with
  | none => exact ⟨WF_7 h1, h3, h4, h5⟩
  | some L =>
    have hs := lkL_s (L := L) (sp := sp) (X := upS w fr sp n (begS A)) n
    refine ⟨WF_7 (lkL_WF h1 n (Nat.le_refl _)), ?_, ?_, ?_⟩
    · show ∀ j, j < 9 → 0 ≤ ((lkL L sp n (upS w fr sp n (begS A))).2.2.1 j).toInt ∧ ((lkL L sp n (upS w fr sp n (begS A))).2.2.1 j).toInt ≤ 65536
      rw [hs.1]; exact h3
    · show ∀ j, n ≤ j → (lkL L sp n (upS w fr sp n (begS A))).2.2.1 j = 0
      rw [hs.1]; exact h4
    · show bt (lkL L sp n (upS w fr sp n (begS A))).2.2.2.1 (fun c => if (lkL L sp n (upS w fr sp n (begS A))).2.2.1 c = 0 then 0 else 1)
      rw [hs.1, hs.2]; exact h5
def RM (r : Option (List Int32)) (x : Int32) (f : Nat → Int32) : Prop := match r with
  | none => x = -1
  | some L => ∃ a, a < 1400 ∧ x = iN a ∧ MC f a L ∧ okc L 0 ∧ L.length ≤ 700
def wM (w : Nat) : Int32 := if w = 0 then -1 else if w = 1 then 1 else 0
/-- what the model's hour reads and leaves -/
def ME (n w : Nat) (lk fr : Option (List Int32)) (sp : Nat → Int32) (S : PS) : Prop := S.1 80 1 = iN n ∧ (∀ c, c < n → S.1 81 c = sp c) ∧ RM lk (S.1 80 2) (S.1 82) ∧ RM fr (S.1 80 3) (S.1 82) ∧ S.1 80 40 = wM w
theorem ME.fh {n w b : Nat} {lk fr : Option (List Int32)} {sp : Nat → Int32} {S T : PS} (h : ME n w lk fr sp S) (hf : FH b S T) : ME n w lk fr sp T := by
  obtain ⟨h1, h2, -⟩ := hf.1
  unfold ME
  rw [h2 1 (by simp [hfM]), h2 2 (by simp [hfM]), h2 3 (by simp [hfM]), h2 40 (by simp [hfM]), h1 81 (by decide) (by simp [hcM]), h1 82 (by decide) (by simp [hcM])]
  exact h
section MH
variable {N n w b : Nat} {lk fr : Option (List Int32)} {sp : Nat → Int32}
theorem M_runs {c : Nat} {X : Hs} {S : PS} (hN : 30000 ≤ N) (hw3 : w < 3) (hb : b ≤ 64) (hn : n ≤ 9) (hc : c < n) (hm : ME n w lk fr sp S) (h : MR b n X.1 S) :
    rn (fX12_runs N (iN b) (iN c) S) (fun q => q.1 = runS w fr sp X.1 c ∧ FM (fun a => a = 93 ∨ a = 94) (fun _ => False) S q.2) := by
  have o55 : iN b + 55 + iN c = iN (b + 55 + c) := of_add b 55 c
  have i55 : inr (iN (b + 55 + c)) 128 := inr_iN (by omega) (by omega)
  have x55 : ix (iN (b + 55 + c)) = b + 55 + c := ix_iN (by omega)
  obtain ⟨r0, r1, r2, r3, r4, r5, r6⟩ := h.2 c hc
  obtain ⟨m1, m2, m3, m4, m5⟩ := hm
  have b1 : b01 (1 : Int32) := Or.inr rfl
  have b0 : b01 (0 : Int32) := Or.inl rfl
  unfold runS
  by_cases e5 : X.1 5 c = 1
  · simp only [fX12_runs, rn_gd, o55, gd_t i55, x55, r5, e5, if_true, rn_some, true_and]
    exact FM.rfl
  · have hcase : w = 0 ∨ w = 1 ∨ w = 2 := by omega
    rcases hcase with rfl | rfl | rfl
    · simp only [show wM 0 = -1 from rfl] at m5
      cases fr with
      | none =>
        simp only [RM] at m4
        simp only [fX12_runs, rn_gd, o55, gd_t i55, x55, r5, e5, m5, m4, if_false, if_true, rn_some, true_and]
        exact ⟨rfl, FM.rfl⟩
      | some L =>
        obtain ⟨a, ha, hx, hmc, hok, hl⟩ := m4
        have hne : ¬ S.1 80 3 = -1 := by rw [hx]; exact iN_n1 (by omega)
        simp only [fX12_runs, rn_gd, o55, gd_t i55, x55, r5, e5, m5, if_false, if_true, true_and]
        rw [if_neg hne]
        simp only [rn_bI, rn_lt, rn_gd, rn_some]
        rw [hx]
        refine rn_mono (M_asks hN hn hb hc h (m2 c hc) hmc hok hl) (fun q hq => ?_)
        rw [hq.1]
        refine ⟨?_, ?_, hq.2⟩
        · split
          · exact b0
          · exact b1
        · rfl
    · simp only [show wM 1 = 1 from rfl] at m5
      simp only [fX12_runs, rn_gd, o55, gd_t i55, x55, r5, e5, m5, if_false, if_true, rn_lt, rn_some, true_and, show ¬ ((1 : Int32) = -1) from by decide, show ¬ ((1 : Int32) = 0) from by decide]
      first | exact ⟨b0, rfl, FM.rfl⟩ | exact ⟨b0, FM.rfl⟩
    · simp only [show wM 2 = 0 from rfl] at m5
      simp only [fX12_runs, rn_gd, o55, gd_t i55, x55, r5, e5, m5, if_false, if_true, rn_lt, rn_some, true_and, show ¬ ((0 : Int32) = -1) from by decide]
      first | exact ⟨b1, rfl, FM.rfl⟩ | exact ⟨b1, FM.rfl⟩
theorem M_up {X : Hs} {S : PS} (hN : 30000 ≤ N) (hw3 : w < 3) (hb : b ≤ 64) (hs : SPR sp) (hI : HI n 0 X) (hm : ME n w lk fr sp S) (h : HM b n X S) :
    rn (fX12_hourGoes_11 N (iN b) N 0 S) (fun q => HM b n (upS w fr sp n X) q.2 ∧ FH b S q.2) := by
  have hn := hI.1.1
  refine forG (f := fun n k s => fX12_hourGoes_11 N (iN b) n (iN k) s) n (J := fun k T => HM b n (upS w fr sp k X) T ∧ ME n w lk fr sp T ∧ FH b S T) ?_ ?_ N 0 S (Nat.zero_le _) ⟨h, hm, FH.rfl⟩ (by omega)
  · rintro m T ⟨h1, h2, h3⟩
    simp only [fX12_hourGoes_11, h2.1]
    rw [if_pos (Int32.le_refl _), rn_some]
    exact ⟨h1, h3⟩
  · rintro m k T hk ⟨h1, h2, h3⟩ ih
    have hi := HI_up (w := w) (fr := fr) hs hI k (by omega)
    have hii : ¬ iN n ≤ iN k := by rw [iN_le (by omega) (by omega)]; omega
    have i9 : inr (iN k) 9 := inr_iN (by omega) (by omega)
    have x9 : ix (iN k) = k := ix_iN (by omega)
    have hdr := drop_r (w := w) (fr := fr) hs hi hk
    have hp := p2k (show k < 9 by omega)
    have hpz : ((2 ^ k : Nat) : Int) = (2 : Int) ^ k := by norm_cast
    have hco := (h1.2.1 k hk).1
    simp only [fX12_hourGoes_11, h2.1, if_neg hii, rn_gd, rn_bI, gd_t i9, x9, true_and]
    refine rn_mono (M_runs (X := upS w fr sp k X) hN hw3 hb hn hk h2 h1.1) (fun q hq => ?_)
    have h1' := h1.fm hq.2
    have hF : FH b T q.2 := FH.fm hq.2
    have h81 : q.2.1 81 k = sp k := by rw [hq.2.1 81 (by decide) (by decide)]; exact h2.2.1 k hk
    rw [hco, hq.1, h81]
    have key : rn (fX12_gets N (iN b) (iN k) ((upS w fr sp k X).2.1 k + (if runS w fr sp (upS w fr sp k X).1 k = 0 then 0 else sp k)) q.2) (fun U => rn (fX12_hourGoes_11 N (iN b) m (iN (k + 1)) U) (fun q => HM b n (upS w fr sp n X) q.2 ∧ FH b S q.2)) := by
      refine rn_mono (M_gets hb hk hi.1 (by omega) h1') (fun U hU => ih U ⟨hU.1, (h2.fh hF).fh hU.2, (h3.tr hF).tr hU.2⟩)
    by_cases e : runS w fr sp (upS w fr sp k X).1 k = 0
    · rw [if_pos e] at key
      rw [if_pos e]
      simp only [rn_bV, rn_lt, iN_1]
      exact key
    · rw [if_neg e] at key
      rw [if_neg e]
      simp only [rn_gd, rn_bV, rn_lt, iN_1, gd_t i9, true_and]
      exact key
theorem M_lk {X : Hs} {S : PS} (hN : 30000 ≤ N) (hb : b ≤ 64) (hw : WF n X.1) (hm : ME n w lk fr sp S) (h : HM b n X S) :
    rn (fX12_hourGoes_59 N (iN b) N 0 S) (fun q => HM b n (lkS lk sp n X) q.2 ∧ FH b S q.2) := by
  have hn := hw.1
  cases lk with
  | none =>
    obtain ⟨k, rfl⟩ : ∃ k, N = k + 1 := ⟨N - 1, by omega⟩
    have h2 : S.1 80 2 = -1 := hm.2.2.1
    simp only [fX12_hourGoes_59, h2, if_true, rn_ite, rn_some, lkS]
    exact ⟨fun _ => ⟨h, FH.rfl⟩, fun _ => ⟨h, FH.rfl⟩⟩
  | some L =>
    simp only [lkS]
    refine forG (f := fun n k s => fX12_hourGoes_59 N (iN b) n (iN k) s) n (J := fun k T => HM b n (lkL L sp k X) T ∧ ME n w (some L) fr sp T ∧ FH b S T) ?_ ?_ N 0 S (Nat.zero_le _) ⟨h, hm, FH.rfl⟩ (by omega)
    · rintro m T ⟨h1, h2, h3⟩
      simp only [fX12_hourGoes_59, h2.1]
      rw [if_pos (Int32.le_refl _), rn_some]
      exact ⟨h1, h3⟩
    · rintro m k T hk ⟨h1, h2, h3⟩ ih
      have hii : ¬ iN n ≤ iN k := by rw [iN_le (by omega) (by omega)]; omega
      obtain ⟨a, ha, hx, hmc, hok, hl⟩ := h2.2.2.1
      have hne : ¬ T.1 80 2 = -1 := by rw [hx]; exact iN_n1 (by omega)
      have o10 : iN b + 10 + iN k = iN (b + 10 + k) := of_add b 10 k
      have i10 : inr (iN (b + 10 + k)) 128 := inr_iN (by omega) (by omega)
      have x10 : ix (iN (b + 10 + k)) = b + 10 + k := ix_iN (by omega)
      simp only [fX12_hourGoes_59, h2.1, if_neg hii, if_neg hne, rn_gd, rn_bI, rn_lt, o10, gd_t i10, x10, true_and, fX12_bounded, rn_some, iN_1]
      rw [hx]
      refine rn_mono (M_asks hN hn hb hk h1.1 (h2.2.1 k hk) hmc hok hl) (fun q hq => ?_)
      have h1' := h1.fm hq.2
      have hF : FH b T q.2 := FH.fm hq.2
      have hr := (h1'.1.2 k hk).2.1
      rw [hq.1, hr]
      have hA := h1'.row (h1'.1.u1 (c := k) (x := (lkL L sp k X).1 1 k - bndS (valS L (lkL L sp k X).1 sp k) ((lkL L sp k X).1 1 k)) hn hk)
      have hF2 := hF.r (k := b + 10 + k) (x := (lkL L sp k X).1 1 k - bndS (valS L (lkL L sp k X).1 sp k) ((lkL L sp k X).1 1 k)) (by omega) (by omega)
      have hB := hA.ls (y := (lkL L sp k X).2.2.2.2 + bndS (valS L (lkL L sp k X).1 sp k) ((lkL L sp k X).1 1 k))
      have hF3 := hF2.f (k := 39) (x := (lkL L sp k X).2.2.2.2 + bndS (valS L (lkL L sp k X).1 sp k) ((lkL L sp k X).1 1 k)) (Or.inr rfl)
      have h39 : ∀ v, u2 q.2.1 91 (b + 10 + k) v 80 39 = (lkL L sp k X).2.2.2.2 := fun v => by rw [u2_o (by decide)]; exact h1'.2.2.2
      rw [h39]
      exact ih _ ⟨hB, h2.fh hF3, h3.tr hF3⟩
theorem M_begin {A : Nat → Nat → Int32} {S : PS} (hN : 30000 ≤ N) (hn : n ≤ 9) (hm : ME n w lk fr sp S) (h : MR b n A S) :
    rn (fX12_begins0 N S) (fun T => MR b n A T ∧ (∀ c, c < n → T.1 95 c = 0 ∧ T.1 96 c = 0) ∧ T.1 80 38 = 0 ∧ FH b S T ∧ T.1 80 39 = S.1 80 39) := by
  simp only [fX12_begins0, rn_lt, rn_bT, rn_some]
  refine forG (f := fun n k s => fX12_begins0_7 N n (iN k) s) n (J := fun k T => MR b n A T ∧ (∀ c, c < k → T.1 95 c = 0 ∧ T.1 96 c = 0) ∧ T.1 80 38 = 0 ∧ FH b S T ∧ T.1 80 39 = S.1 80 39 ∧ T.1 80 1 = iN n) ?_ ?_ N 0 _ (Nat.zero_le _) ⟨h.cg (by show u2 S.1 80 38 0 91 = _; rw [u2_o (by decide)]), fun c hc => by omega, by show u2 S.1 80 38 0 80 38 = 0; rw [u2_at, upd_at], FH.rfl.f (Or.inl rfl), by show u2 S.1 80 38 0 80 39 = _; rw [u2_at, upd_o (by decide)], by show u2 S.1 80 38 0 80 1 = _; rw [u2_at, upd_o (by decide)]; exact hm.1⟩ (by omega)
  · rintro m T ⟨h1, h2, h3, h4, h5, h6⟩
    simp only [fX12_begins0_7, h6]
    rw [if_pos (Int32.le_refl _), rn_some]
    exact ⟨h1, h2, h3, h4, h5⟩
  · rintro m k T hk ⟨h1, h2, h3, h4, h5, h6⟩ ih
    have hii : ¬ iN n ≤ iN k := by rw [iN_le (by omega) (by omega)]; omega
    have i9 : inr (iN k) 9 := inr_iN (by omega) (by omega)
    have x9 : ix (iN k) = k := ix_iN (by omega)
    simp only [fX12_begins0_7, h6, if_neg hii, rn_gd, rn_lt, gd_t i9, x9, true_and, iN_1]
    refine ih _ ⟨h1.cg (by show u2 (u2 T.1 95 k 0) 96 k 0 91 = _; rw [u2_o (by decide), u2_o (by decide)]), fun c hc => ?_, ?_, (h4.c (by decide) (by decide) (by simp [hcM])).c (by decide) (by decide) (by simp [hcM]), ?_, ?_⟩
    · show u2 (u2 T.1 95 k 0) 96 k 0 95 c = 0 ∧ u2 (u2 T.1 95 k 0) 96 k 0 96 c = 0
      rw [u2_o (by decide), u2_at, u2_at, u2_o (by decide)]
      by_cases e : c = k
      · subst e; exact ⟨upd_at, upd_at⟩
      · rw [upd_o e, upd_o e]; exact h2 c (by omega)
    · show u2 (u2 T.1 95 k 0) 96 k 0 80 38 = 0
      rw [u2_o (by decide), u2_o (by decide)]; exact h3
    · show u2 (u2 T.1 95 k 0) 96 k 0 80 39 = _
      rw [u2_o (by decide), u2_o (by decide)]; exact h5
    · show u2 (u2 T.1 95 k 0) 96 k 0 80 1 = _
      rw [u2_o (by decide), u2_o (by decide)]; exact h6
/-- the model's hour -/
theorem M_hour {A : Nat → Nat → Int32} {S : PS} (hN : 30000 ≤ N) (hw3 : w < 3) (hb : b ≤ 64) (hs : SPR sp) (hw : WF n A) (hm : ME n w lk fr sp S) (h : MR b n A S) :
    rn (fX12_hourGoes N (iN b) S) (fun T => HM b n (hourS n w lk fr sp A) T ∧ FH b S T) := by
  have hn := hw.1
  have i0 : inr (iN b) 128 := inr_iN (by omega) (by omega)
  have x0 : ix (iN b) = b := ix_iN (by omega)
  simp only [fX12_hourGoes, rn_lt, rn_bV, rn_bT, rn_gd, rn_some, Int32.add_zero, gd_t i0, x0, true_and]
  refine rn_mono (M_begin hN hn hm h) (fun T hT => ?_)
  obtain ⟨t1, t2, t3, t4, -⟩ := hT
  have hX : HM b n (begS A) (u2 T.1 80 39 0, T.2) := by
    have h0 : HM b n (A, fun _ => 0, fun _ => 0, 0, T.1 80 39) T := ⟨t1, t2, t3, rfl⟩
    exact h0.ls
  have hF := t4.f (k := 39) (x := 0) (Or.inr rfl)
  refine rn_mono (M_up hN hw3 hb hs (HI_0 hw) (hm.fh hF) hX) (fun q hq => ?_)
  have hi := HI_up (w := w) (fr := fr) hs (HI_0 hw) n (Nat.le_refl _)
  have hF2 := hF.tr hq.2
  refine rn_mono (M_lk hN hb hi.1 (hm.fh hF2) hq.1) (fun r hr => ?_)
  have hF3 := hF2.tr hr.2
  have h7 : r.2.1 91 b = (lkS lk sp n (upS w fr sp n (begS A))).1 7 0 := hr.1.1.1
  rw [h7]
  exact ⟨hr.1.row (hr.1.1.u7 hn), hF3.r (Nat.le_refl _) (by omega)⟩
end MH
