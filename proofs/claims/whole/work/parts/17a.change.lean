/-! ===== phase 2: rows changed: cracked, led, plugged, poured ===== -/
def crkS (A : Rw) (c : Nat) (h : Int32) : Rw := u2 (u2 A 0 c h) 1 c (if (h - 1) < A 1 c then h - 1 else A 1 c)
def ledS (A : Rw) (c : Nat) (x : Int32) : Rw := u2 (u2 (u2 A 2 c x) 3 c (-1)) 6 c 0
theorem WR_o {n c : Nat} {A B : Rw} (h : WF n A) (e : ∀ j, j ≠ c → ∀ k, k < 7 → B k j = A k j) (hc : c < 9 → WR n B c) : WF n B :=
  ⟨h.1, fun j hj => by
    by_cases ej : j = c
    · subst ej; exact hc hj
    · exact (h.2 j hj).cg (fun k hk => e j ej k hk)⟩
theorem crk_WF {n c : Nat} {A : Rw} {h : Int32} (hw : WF n A) (hc : c < n) (hh : 1 ≤ h.toInt ∧ h.toInt ≤ 30) : WF n (crkS A c h) := by
  have hn := hw.1
  refine WR_o hw (c := c) (fun j hj k _ => ?_) (fun hc9 => ?_)
  · unfold crkS
    rw [u2_a2, if_neg (by omega), u2_a2, if_neg (by omega)]
  · obtain ⟨h0, h1, h2, h3, h4, h5, h6, h7⟩ := hw.2 c hc9
    have e0 : crkS A c h 0 c = h := by unfold crkS; rw [u2_o (by omega), u2_at, upd_at]
    have e1 : crkS A c h 1 c = if (h - 1) < A 1 c then h - 1 else A 1 c := by unfold crkS; rw [u2_at, upd_at]
    have e : ∀ k, 2 ≤ k → crkS A c h k c = A k c := fun k hk => by unfold crkS; rw [u2_o (by omega), u2_o (by omega)]
    unfold WR
    rw [e0, e1, e 2 (by omega), e 3 (by omega), e 4 (by omega), e 5 (by omega), e 6 (by omega)]
    have hs : (h - 1).toInt = h.toInt - 1 := by rw [ti_sub] <;> rw [o_ti] <;> omega
    refine ⟨hh, ?_, h2, h3, h4, h5, h6, fun q => by omega⟩
    split
    · rename_i hl
      rw [lt_ti] at hl
      omega
    · rename_i hl
      rw [lt_ti] at hl
      omega
theorem led_WF {n c : Nat} {A : Rw} {x : Int32} (hw : WF n A) (hc : c < n) (hx : x = -1 ∨ ∃ d, x = iN d ∧ c < d ∧ d < n) : WF n (ledS A c x) := by
  have hn := hw.1
  refine WR_o hw (c := c) (fun j hj k _ => ?_) (fun hc9 => ?_)
  · unfold ledS
    rw [u2_a2, if_neg (by omega), u2_a2, if_neg (by omega), u2_a2, if_neg (by omega)]
  · obtain ⟨h0, h1, h2, h3, h4, h5, h6, h7⟩ := hw.2 c hc9
    have e2 : ledS A c x 2 c = x := by unfold ledS; rw [u2_o (by omega), u2_o (by omega), u2_at, upd_at]
    have e3 : ledS A c x 3 c = -1 := by unfold ledS; rw [u2_o (by omega), u2_at, upd_at]
    have e6 : ledS A c x 6 c = 0 := by unfold ledS; rw [u2_at, upd_at]
    have e : ∀ k, k ≠ 2 → k ≠ 3 → k ≠ 6 → ledS A c x k c = A k c := fun k a b d => by unfold ledS; rw [u2_o d, u2_o b, u2_o a]
    unfold WR
    rw [e2, e3, e6, e 0 (by omega) (by omega) (by omega), e 1 (by omega) (by omega) (by omega), e 4 (by omega) (by omega) (by omega), e 5 (by omega) (by omega) (by omega)]
    exact ⟨h0, h1, hx, Or.inl rfl, h4, h5, Or.inl rfl, fun q => by omega⟩
theorem plg_WF {n c : Nat} {A : Rw} {v : Int32} (hw : WF n A) (hc : c < n) (hv : v = 0 ∨ v = 1) : WF n (u2 A 5 c v) := by
  have hn := hw.1
  refine WR_o hw (c := c) (fun j hj k _ => ?_) (fun hc9 => ?_)
  · rw [u2_a2, if_neg (by omega)]
  · obtain ⟨h0, h1, h2, h3, h4, h5, h6, h7⟩ := hw.2 c hc9
    unfold WR
    rw [u2_o (by omega), u2_o (by omega), u2_o (by omega), u2_o (by omega), u2_o (by omega), u2_at, upd_at, u2_o (by omega)]
    exact ⟨h0, h1, h2, h3, h4, hv, h6, fun q => by omega⟩
section CHG
variable {N n o c : Nat} {A : Rw} {S : PS}
theorem C_holds {h : Int32} (ho : isCu o) (hc : c < 9) (hA : CU o A S) : rn (fX2_setHolds N o (iN c) h S) (fun U => CU o (crkS A c h) U ∧ FC (cuC o) S U) := by
  have i9 : inr (iN c) 9 := inr_iN hc (by omega)
  have x9 : ix (iN c) = c := ix_iN (by omega)
  have e1 : ∀ v, u2 S.1 (sr o 0) c v (sr o 1) c = A 1 c := fun v => by rw [u2_o (by rw [ho.sr (by omega), ho.sr (by omega)]; omega)]; exact hA.1 1 (by omega) c hc
  simp only [fX2_setHolds, gd_t ho.ob, gd_t (ho.ar (k := 0) (by omega)), gd_t (ho.ar (k := 1) (by omega)), gd_t i9, x9, rn_lt, rn_some, e1]
  refine ⟨(hA.u (k := 0) ho (by omega)).u (k := 1) ho (by omega), (FC.rfl.u ?_).u ?_⟩
  · exact Or.inr (by rw [ho.sr (by omega)]; omega)
  · exact Or.inr (by rw [ho.sr (by omega)]; omega)
theorem C_into {x : Int32} (ho : isCu o) (hc : c < 9) (hA : CU o A S) : rn (fX2_setInto N o (iN c) x S) (fun U => CU o (ledS A c x) U ∧ FC (cuC o) S U) := by
  have i9 : inr (iN c) 9 := inr_iN hc (by omega)
  have x9 : ix (iN c) = c := ix_iN (by omega)
  have r := ho.rg
  have e8 : ∀ v w, u2 (u2 S.1 (sr o 2) c v) (sr o 3) c w o 8 = S.1 o 8 := fun v w => by rw [u2_o (by rw [ho.sr (by omega)]; omega), u2_o (by rw [ho.sr (by omega)]; omega)]
  simp only [fX2_setInto, gd_t ho.ob, gd_t (ho.ar (k := 2) (by omega)), gd_t (ho.ar (k := 3) (by omega)), gd_t i9, x9, rn_lt, rn_bI, bitOf_c hc, rn_some, e8]
  have hB := (hA.u (k := 2) (c := c) (x := x) ho (by omega)).u (k := 3) (c := c) (x := -1) ho (by omega)
  have hb := bt_clr hA.2.2.2 hc
  have hU := hB.u8 ho (bt_congr (g := upd (u2 (u2 A 2 c x) 3 c (-1) 6) c 0) hb (fun j _ => by rw [u2_o (by omega), u2_o (by omega)]))
  have hrw : urow (u2 (u2 A 2 c x) 3 c (-1)) 6 (upd (u2 (u2 A 2 c x) 3 c (-1) 6) c 0) = ledS A c x := u2_urow
  rw [hrw] at hU
  refine ⟨hU, ((FC.rfl.u ?_).u ?_).u (Or.inl rfl)⟩
  · exact Or.inr (by rw [ho.sr (by omega)]; omega)
  · exact Or.inr (by rw [ho.sr (by omega)]; omega)
theorem C_plug {v : Int32} (ho : isCu o) (hc : c < 9) (hA : CU o A S) : rn (fX2_setPlugged N o (iN c) v S) (fun U => CU o (u2 A 5 c (if v = 0 then 0 else 1)) U ∧ FC (cuC o) S U) := by
  unfold fX2_setPlugged
  by_cases e : v = 0
  · simp only [if_pos e, gd_t ho.ob, rn_lt, rn_bI, bitOf_c hc, rn_some]
    have hU := hA.u7 ho (bt_clr hA.2.2.1 hc)
    have hrw : urow A 5 (upd (A 5) c 0) = u2 A 5 c 0 := u2_urow
    rw [hrw] at hU
    exact ⟨hU, FC.rfl.u (Or.inl rfl)⟩
  · simp only [if_neg e, gd_t ho.ob, rn_lt, rn_bI, bitOf_c hc, rn_some]
    have hU := hA.u7 ho (bt_or hA.2.2.1 hc)
    have hrw : urow A 5 (upd (A 5) c 1) = u2 A 5 c 1 := u2_urow
    rw [hrw] at hU
    exact ⟨hU, FC.rfl.u (Or.inl rfl)⟩
theorem M_cracks {b : Nat} {h : Int32} (hn : n ≤ 9) (hb : b ≤ 64) (hc : c < n) (hA : MR b n A S) : rn (fX12_cracks N (iN b) (iN c) h S) (fun U => MR b n (crkS A c h) U ∧ FH b S U) := by
  have o1 : iN b + 1 + iN c = iN (b + 1 + c) := of_add b 1 c
  have o10 : iN b + 10 + iN c = iN (b + 10 + c) := of_add b 10 c
  have i1 : inr (iN (b + 1 + c)) 128 := inr_iN (by omega) (by omega)
  have i10 : inr (iN (b + 10 + c)) 128 := inr_iN (by omega) (by omega)
  have x1 : ix (iN (b + 1 + c)) = b + 1 + c := ix_iN (by omega)
  have x10 : ix (iN (b + 10 + c)) = b + 10 + c := ix_iN (by omega)
  have e1 : ∀ v, u2 S.1 91 (b + 1 + c) v 91 (b + 10 + c) = A 1 c := fun v => by rw [u2_at, upd_o (by omega)]; exact (hA.2 c hc).2.1
  simp only [fX12_cracks, o1, o10, gd_t i1, gd_t i10, x1, x10, rn_lt, rn_bI, fX12_lesser, rn_some, e1]
  have e2 : (if (h - 1) ≤ A 1 c then h - 1 else A 1 c) = (if (h - 1) < A 1 c then h - 1 else A 1 c) := by
    by_cases e : (h - 1) < A 1 c
    · rw [if_pos e, if_pos (Int32.le_of_lt e)]
    · rw [if_neg e]
      split
      · rename_i h2
        exact Int32.le_antisymm h2 (Int32.not_lt.mp e)
      · rfl
  rw [e2]
  exact ⟨(hA.u0 hn hc).u1 hn hc, (FH.rfl.r (by omega) (by omega)).r (by omega) (by omega)⟩
theorem M_leads {b : Nat} {x : Int32} (hn : n ≤ 9) (hb : b ≤ 64) (hc : c < n) (hA : MR b n A S) : rn (fX12_leads N (iN b) (iN c) x S) (fun U => MR b n (ledS A c x) U ∧ FH b S U) := by
  have o1 : iN b + 19 + iN c = iN (b + 19 + c) := of_add b 19 c
  have o2 : iN b + 28 + iN c = iN (b + 28 + c) := of_add b 28 c
  have o3 : iN b + 37 + iN c = iN (b + 37 + c) := of_add b 37 c
  have i1 : inr (iN (b + 19 + c)) 128 := inr_iN (by omega) (by omega)
  have i2 : inr (iN (b + 28 + c)) 128 := inr_iN (by omega) (by omega)
  have i3 : inr (iN (b + 37 + c)) 128 := inr_iN (by omega) (by omega)
  have x1 : ix (iN (b + 19 + c)) = b + 19 + c := ix_iN (by omega)
  have x2 : ix (iN (b + 28 + c)) = b + 28 + c := ix_iN (by omega)
  have x3 : ix (iN (b + 37 + c)) = b + 37 + c := ix_iN (by omega)
  simp only [fX12_leads, o1, o2, o3, gd_t i1, gd_t i2, gd_t i3, x1, x2, x3, rn_lt, rn_some]
  exact ⟨((hA.u2' hn hc).u3 hn hc).u6 hn hc, ((FH.rfl.r (by omega) (by omega)).r (by omega) (by omega)).r (by omega) (by omega)⟩
end CHG
/-! pouring -/
def upP : Nat → Hs → Hs
  | 0, X => X
  | k + 1, X => getS k ((upP k X).2.1 k) (upP k X)
def X0 (A : Rw) (c : Nat) (d l : Int32) : Hs := (A, upd (fun _ => 0) c d, fun _ => 0, 0, l)
theorem upP_s {k : Nat} {X : Hs} : upP (k + 1) X = getS k ((upP k X).2.1 k) (upP k X) := by rw [upP]
theorem HI_upP {n : Nat} {X : Hs} (h : HI n 0 X) : ∀ k, k ≤ n → HI n k (upP k X)
  | 0, _ => by rw [upP]; exact h
  | k + 1, hk => by
    have ih := HI_upP h k (by omega)
    rw [upP_s]
    have hn := h.1.1
    have := ih.2.1 k (by omega)
    have hp := p2k (show k < 9 by omega)
    have hpz : ((2 ^ k : Nat) : Int) = (2 : Int) ^ k := by norm_cast
    exact HI_get ih (by omega) ⟨by omega, by omega⟩
theorem HI_X0 {n c : Nat} {A : Rw} {d l : Int32} (h : WF n A) (hd : 0 ≤ d.toInt ∧ d.toInt ≤ 50) : HI n 0 (X0 A c d l) := by
  refine ⟨h, fun j _ => ?_, fun j _ => ?_, fun _ _ => rfl, bt_congr bt_0 (fun c _ => rfl)⟩
  · show 0 ≤ (upd (fun _ => 0) c d j).toInt ∧ (upd (fun _ => 0) c d j).toInt ≤ _
    by_cases e : j = c
    · subst e; rw [upd_at]; omega
    · rw [upd_o e, z_ti]; omega
  · show 0 ≤ (0 : Int32).toInt ∧ (0 : Int32).toInt ≤ _
    rw [z_ti]; omega
/-- a cup into which nothing comes stays -/
theorem get_0 {n k : Nat} {X : Hs} (hw : WR n X.1 k) (ht : X.2.2.1 k = 0) : getS k 0 X = X := by
  obtain ⟨h0, h1, h2, h3, h4, -⟩ := hw
  have e0 : tipT k 0 X.1 = 0 := by
    unfold tipT
    rw [Int32.add_zero, eq_ti, ti_div (by omega) (by omega), z_ti]
    exact Int.ediv_eq_zero_of_lt h1.1 h1.2
  have eA : tipA k 0 X.1 = X.1 := by
    unfold tipA
    have q1 : (X.1 1 k + 0) - (X.1 1 k + 0) / X.1 0 k * X.1 0 k = X.1 1 k := by
      have : (X.1 1 k + 0) / X.1 0 k = 0 := e0
      rw [this, Int32.zero_mul, Int32.sub_zero, Int32.add_zero]
    have q2 : lesS (X.1 4 k + tipT k 0 X.1) = X.1 4 k := by
      rw [e0, Int32.add_zero]
      unfold lesS
      rw [if_pos (by rw [le_ti, b_ti]; omega)]
    rw [q1, q2, u2_self, u2_self]
  have eT : upd X.2.2.1 k 0 = X.2.2.1 := by
    funext j
    unfold upd
    split
    · rename_i hj; rw [hj, ht]
    · rfl
  unfold getS
  rw [if_pos e0, eA, e0, eT]
theorem upP_c {n c : Nat} {A : Rw} {d l : Int32} (h : WF n A) (hc : c ≤ n) : ∀ k, k ≤ c → upP k (X0 A c d l) = X0 A c d l
  | 0, _ => by rw [upP]
  | k + 1, hk => by
    have hn := h.1
    rw [upP_s, upP_c h hc k (by omega)]
    have e : (X0 A c d l).2.1 k = 0 := by
      show upd (fun _ => 0) c d k = 0
      rw [upd_o (by omega)]
    rw [e]
    exact get_0 (n := n) (h.2 k (by omega)) rfl
theorem upP_z {n c : Nat} {A : Rw} {l : Int32} (h : WF n A) : ∀ k, k ≤ n → upP k (X0 A c 0 l) = X0 A c 0 l
  | 0, _ => by rw [upP]
  | k + 1, hk => by
    have hn := h.1
    rw [upP_s, upP_z h k (by omega)]
    have e : (X0 A c 0 l).2.1 k = 0 := by
      show upd (fun _ => 0) c 0 k = 0
      unfold upd
      split <;> rfl
    rw [e]
    exact get_0 (n := n) (h.2 k (by omega)) rfl
/-- what is lost doesn't matter to the rest -/
def eqL (X Y : Hs) : Prop := X.1 = Y.1 ∧ X.2.1 = Y.2.1 ∧ X.2.2.1 = Y.2.2.1 ∧ X.2.2.2.1 = Y.2.2.2.1
theorem eqL_fall {X Y : Hs} {c : Nat} {t : Int32} (h : eqL X Y) : eqL (fallS c t X) (fallS c t Y) := by
  obtain ⟨a, b, d, e, f⟩ := X
  obtain ⟨a', b', d', e', f'⟩ := Y
  obtain ⟨h1, h2, h3, h4⟩ := h
  simp only at h1 h2 h3 h4
  subst h1 h2 h3 h4
  unfold fallS
  simp only
  split
  · exact ⟨rfl, rfl, rfl, rfl⟩
  · split
    · exact ⟨rfl, rfl, rfl, rfl⟩
    · exact ⟨rfl, rfl, rfl, rfl⟩
theorem eqL_get {X Y : Hs} {c : Nat} {t : Int32} (h : eqL X Y) : eqL (getS c t X) (getS c t Y) := by
  obtain ⟨a, b, d, e, f⟩ := X
  obtain ⟨a', b', d', e', f'⟩ := Y
  obtain ⟨h1, h2, h3, h4⟩ := h
  simp only at h1 h2 h3 h4
  subst h1 h2 h3 h4
  unfold getS
  simp only
  split
  · exact ⟨rfl, rfl, rfl, rfl⟩
  · exact eqL_fall ⟨rfl, rfl, rfl, rfl⟩
theorem eqL_upP {X Y : Hs} (h : eqL X Y) : ∀ k, eqL (upP k X) (upP k Y)
  | 0 => by rw [upP, upP]; exact h
  | k + 1 => by
    have ih := eqL_upP h k
    rw [upP_s, upP_s, ih.2.1]
    exact eqL_get ih
section POUR
variable {N n o c : Nat} {A : Rw} {S : PS} {d : Int32}
theorem C_pourl {p : Nat} {lk fr : Option (List Int32)} {sp T : Nat → Int32} {L : Int32} {X : Hs} {v1 v2 : Int32} (hN : 30000 ≤ N) (ho : isCu o) (hI : HI n 0 X) (h5 : S.2.2 5 4 = o) (hm : CE p n lk fr sp S) (h : HC o T L X S) :
    rn (fX3_fillUp_32 N v1 v2 N 0 S) (fun q => HC o T L (upP n X) q.2 ∧ FC (hcC o) S q.2) := by
  have hn := hI.1.1
  refine forG (f := fun m k s => fX3_fillUp_32 N v1 v2 m (iN k) s) n (J := fun k U => HC o T L (upP k X) U ∧ CE p n lk fr sp U ∧ U.2.2 5 4 = o ∧ FC (hcC o) S U) ?_ ?_ N 0 S (Nat.zero_le _) ⟨by rw [upP]; exact h, hm, h5, FC.rfl⟩ (by omega)
  · rintro m U ⟨h1, h2, h3, h4⟩
    have q := p_ob h2.1
    simp only [fX3_fillUp_32, rn_lt, h2.2.1, gd_t q.1, h2.2.2.1]
    rw [if_pos (Int32.le_refl _), rn_some]
    exact ⟨h1, h4⟩
  · rintro m k U hk ⟨h1, h2, h3, h4⟩ ih
    have q := p_ob h2.1
    have hi := HI_upP hI k (by omega)
    have hii : ¬ iN n ≤ iN k := by rw [iN_le (by omega) (by omega)]; omega
    have i9 : inr (iN k) 9 := inr_iN (by omega) (by omega)
    have x9 : ix (iN k) = k := ix_iN (by omega)
    have hp := p2k (show k < 9 by omega)
    have hpz : ((2 ^ k : Nat) : Int) = (2 : Int) ^ k := by norm_cast
    have hr := hi.2.1 k (by omega)
    simp only [fX3_fillUp_32, rn_lt, h2.2.1, gd_t q.1, h2.2.2.1, if_neg hii, gd_t i9, rn_bV, x9, (h1.2.1 k (by omega)).1, iN_1]
    refine rn_mono (C_tip ho hk hi.1 (by omega) (hi.2.2.2.1 k (Nat.le_refl _)) h3 h1) (fun V hV => ih V ⟨?_, h2.fc ho hV.2, by rw [hV.2.2]; exact h3, h4.tr hV.2⟩)
    rw [upP_s]
    exact hV.1
theorem C_fillUp {p : Nat} {lk fr : Option (List Int32)} {sp T : Nat → Int32} {L : Int32} (hN : 30000 ≤ N) (ho : isCu o) (hw : WF n A) (hc : c < n) (hd : 0 ≤ d.toInt ∧ d.toInt ≤ 50) (h5 : S.2.2 5 4 = o) (hm : CE p n lk fr sp S) (h : CU o A S) (hT : ∀ c, c < 9 → S.1 28 c = T c) (hL : S.1 5 6 = L) :
    rn (fX3_fillUp N (iN c) d S) (fun U => HC o T L (upP n (X0 A c d 0)) U ∧ FC (hcC o) S U) := by
  have hn := hw.1
  have i9 : inr (iN c) 9 := inr_iN (by omega) (by omega)
  have x9 : ix (iN c) = c := ix_iN (by omega)
  have e9 : ¬ 9 ≤ iN c := by
    have : (9 : Int32) = iN 9 := rfl
    rw [this, iN_le (by omega) (by omega)]; omega
  simp only [fX3_fillUp, rn_lt, rn_bV, rn_bT, rn_some, if_neg (iN_pos (show c < 2147483648 by omega)), if_neg e9, gd_t i9, x9]
  refine rn_mono (C_fill hN ar27 (by omega)) (fun U hU => ?_)
  obtain ⟨u1, -, u3⟩ := hU
  have hFa : FC (hcC o) S U := u3.mono (fun a ha => Or.inr (Or.inl ha))
  have hcu : CU o A U := h.fr ho u3.1 (fun a ha e => cuC_ne ho ha (b := 27) (by omega) e)
  have h0 : HC o T L (A, fun _ => 0, fun _ => 0, U.1 5 5, 0) U := by
    refine ⟨hcu, fun c hc => ⟨u1 c hc, ?_⟩, rfl, ?_⟩
    · show U.1 28 c = T c + 0
      rw [u3.1 28 (by decide), hT c hc, Int32.add_zero]
    · show U.1 5 6 = L + 0
      rw [u3.1 5 (by decide), hL, Int32.add_zero]
  have h1 := (h0.tp (y := 0) ho).com (d := c) (y := d) ho
  have hFb : FC (hcC o) S (u2 (u2 U.1 5 5 0) 27 c d, U.2) := (hFa.u (Or.inl rfl)).u (Or.inr (Or.inl rfl))
  have h5b : U.2.2 5 4 = o := by rw [u3.2]; exact h5
  refine rn_mono (C_pourl hN ho (HI_X0 (c := c) (l := 0) hw hd) h5b (hm.fc ho hFb) h1) (fun q hq => ⟨hq.1, hFb.tr hq.2⟩)
theorem M_pours {b w : Nat} {lk fr : Option (List Int32)} {sp : Nat → Int32} (hN : 30000 ≤ N) (hb : b ≤ 64) (hw : WF n A) (hc : c < n) (hd : 0 ≤ d.toInt ∧ d.toInt ≤ 50) (hm : ME n w lk fr sp S) (h : MR b n A S) :
    rn (fX12_pours N (iN b) (iN c) d S) (fun q => q.1 = (upP n (X0 A c d 0)).2.2.1 c ∧ MR b n (upP n (X0 A c d 0)).1 q.2 ∧ FH b S q.2) := by
  have hn := hw.1
  have i9 : inr (iN c) 9 := inr_iN (by omega) (by omega)
  have x9 : ix (iN c) = c := ix_iN (by omega)
  simp only [fX12_pours, rn_lt, rn_bV, rn_bT, gd_t i9, x9, rn_some]
  refine rn_mono (M_begin hN hn hm h) (fun U hU => ?_)
  obtain ⟨t1, t2, t3, t4, t5⟩ := hU
  have hX : HM b n (X0 A c d (U.1 80 39)) (u2 U.1 95 c d, U.2) := by
    have h0 : HM b n (A, fun _ => 0, fun _ => 0, 0, U.1 80 39) U := ⟨t1, t2, t3, rfl⟩
    exact h0.com
  have hF : FH b S (u2 U.1 95 c d, U.2) := t4.c (by decide) (by decide) (by simp [hcM])
  have hI := HI_X0 (c := c) (l := U.1 80 39) hw hd
  have hq0 := eqL_upP (X := X0 A c d (U.1 80 39)) (Y := X0 A c d 0) ⟨rfl, rfl, rfl, rfl⟩ n
  refine forG (f := fun m k s => fX12_pours_14 N (iN b) (iN c) d m (iN k) s) n (J := fun k W => HM b n (upP k (X0 A c d (U.1 80 39))) W ∧ ME n w lk fr sp W ∧ FH b S W) ?_ ?_ N c _ (by omega) ⟨?_, hm.fh hF, hF⟩ (by omega)
  · rintro m W ⟨h1, h2, h3⟩
    simp only [fX12_pours_14, h2.1]
    rw [if_pos (Int32.le_refl _), rn_some]
    rw [← hq0.1, ← hq0.2.2.1]
    exact ⟨(h1.2.1 c hc).2, h1.1, h3⟩
  · rintro m k W hk ⟨h1, h2, h3⟩ ih
    have hi := HI_upP hI k (by omega)
    have hii : ¬ iN n ≤ iN k := by rw [iN_le (by omega) (by omega)]; omega
    have j9 : inr (iN k) 9 := inr_iN (by omega) (by omega)
    have y9 : ix (iN k) = k := ix_iN (by omega)
    have hp := p2k (show k < 9 by omega)
    have hpz : ((2 ^ k : Nat) : Int) = (2 : Int) ^ k := by norm_cast
    have hr := hi.2.1 k (by omega)
    simp only [fX12_pours_14, h2.1, if_neg hii, gd_t j9, rn_bV, rn_lt, y9, (h1.2.1 k hk).1, iN_1]
    refine rn_mono (M_gets hb hk hi.1 (by omega) h1) (fun V hV => ih V ⟨?_, h2.fh hV.2, h3.tr hV.2⟩)
    rw [upP_s]
    exact hV.1
  · rw [upP_c hw (by omega) c (Nat.le_refl _)]
    exact hX
end POUR
