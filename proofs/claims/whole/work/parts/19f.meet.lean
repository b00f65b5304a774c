/-! ===== phase 2: meeting ===== -/
theorem k_pw : ∀ n : Fin 10, (1 <<< (iN n.val &&& 31)) = iN (2 ^ n.val) := by decide +kernel
theorem bcu_bt {n : Nat} {x : Int32} (hn : n ≤ 9) (h : bcu n x) : ∃ f, bt x f ∧ ∀ c, n ≤ c → c < 9 → f c = 0 := by
  have h1 : 0 ≤ x.toInt := by have := h.1; rw [le_ti, z_ti] at this; exact this
  have h2 := h.2
  have kp : (1 <<< (iN n &&& 31)) = iN (2 ^ n) := k_pw ⟨n, by omega⟩
  have k9 : 2 ^ n ≤ 2 ^ 9 := Nat.pow_le_pow_right (by omega) hn
  rw [kp, lt_ti, iN_ti (by omega)] at h2
  have e : ((ix x : Nat) : Int) = x.toInt := Int.toNat_of_nonneg h1
  have h3 : ix x < 2 ^ n := by omega
  have h4 : 2 ^ n ≤ 2 ^ 9 := Nat.pow_le_pow_right (by omega) hn
  refine ⟨fun c => cond ((ix x).testBit c) 1 0, ⟨ix x, by omega, iN_of h1, fun c _ => rfl⟩, fun c h5 h6 => ?_⟩
  have : 2 ^ n ≤ 2 ^ c := Nat.pow_le_pow_right (by omega) h5
  show cond ((ix x).testBit c) (1 : Int32) 0 = 0
  rw [Nat.testBit_lt_two_pow (by omega)]
  rfl
def meP (V : Cv) (A : Rw) (x : Int32) (h : Nat) : Bool := decide (∀ c, c < V.1 → (x >>> (iN c &&& 31)) &&& 1 = 1 → tnS V.2.1 A (h - 1) c < tnS V.2.1 A h c)
def aMeet (V : Cv) (A : Rw) (x : Int32) : Int32 ⊕ String := if bcu V.1 x then .inl (rfn (fnd (meP V A x) 5000 1)) else .inr nIAE
theorem fnd_st {P : Nat → Bool} {h : Nat} (h1 : h ≤ 5000) (e : fnd P (5001 - h) h = fnd P 5000 1) (hf : ¬ P h = true) : fnd P (5001 - (h + 1)) (h + 1) = fnd P 5000 1 := by
  rw [← e, show 5001 - h = (5001 - (h + 1)) + 1 from by omega, fnd_f hf]
theorem fnd_en {P : Nat → Bool} (e : fnd P (5001 - 5001) 5001 = fnd P 5000 1) : fnd P 5000 1 = none := by
  rw [← e, Nat.sub_self, fnd]
theorem fnd_yes {P : Nat → Bool} {h : Nat} (h1 : h ≤ 5000) (e : fnd P (5001 - h) h = fnd P 5000 1) (hf : P h = true) : fnd P 5000 1 = some h := by
  rw [← e, show 5001 - h = (5001 - (h + 1)) + 1 from by omega, fnd_t hf]
theorem i5000 {k : Nat} (h : k < 2147483648) : 5000 < iN k ↔ 5000 < k := by
  rw [show (5000 : Int32) = iN 5000 from rfl, iN_lt (by omega) h]
section MEE
variable {N : Nat} {V : Cv} {A : Rw} {S : PS}
theorem C_allSince {x : Int32} {f a b : Nat → Int32} {n : Nat} (hN : 30000 ≤ N) (hx : bt x f) (hz : ∀ c, n ≤ c → c < 9 → f c = 0) (ha : ∀ c, c < n → S.1 30 c = a c) (hb : ∀ c, c < n → S.1 31 c = b c) :
    ∃ v, fX4_allTippedSince N x S = some (v, S) ∧ (v = 0 ∨ v = 1) ∧ (v = 1 ↔ ∀ c, c < n → c < 9 → f c = 1 → a c ≠ b c) := by
  have key : ∀ k j m, j + k = 9 → (∀ c, c < n → c < j → f c = 1 → a c ≠ b c) → k < m → ∃ t y, fX4_allTippedSince_2 N x m (iN j) S = some (t, y, S) ∧ (t = 0 ∨ t = 1) ∧ (t = 0 ↔ ∀ c, c < n → c < 9 → f c = 1 → a c ≠ b c) := by
    intro k
    induction k with
    | zero =>
      intro j m hj hi hm
      obtain ⟨m', rfl⟩ : ∃ m', m = m' + 1 := ⟨m - 1, by omega⟩
      have e : j = 9 := by omega
      subst e
      refine ⟨0, iN 9, ?_, Or.inl rfl, ⟨fun _ => hi, fun _ => rfl⟩⟩
      rw [fX4_allTippedSince_2, if_pos (show (9 : Int32) ≤ iN 9 from Int32.le_refl _)]
    | succ k ih =>
      intro j m hj hi hm
      obtain ⟨m', rfl⟩ : ∃ m', m = m' + 1 := ⟨m - 1, by omega⟩
      have j9 : j < 9 := by omega
      have ij : inr (iN j) 9 := inr_iN j9 (by omega)
      have xj : ix (iN j) = j := ix_iN (by omega)
      rw [fX4_allTippedSince_2, if_neg (by rw [i9l (by omega)]; omega), has_bt hx j9, bI_s]
      rcases bt_01 hx j9 with e | e
      · rw [if_pos e, lt_b, iN_1]
        refine ih (j + 1) m' (by omega) (fun c h1 h2 h3 => ?_) (by omega)
        by_cases ec : c = j
        · rw [ec, e] at h3; exact absurd h3 (by decide)
        · exact hi c h1 (by omega) h3
      · have hjn : j < n := by
          rcases Nat.lt_or_ge j n with q | q
          · exact q
          · rw [hz j q j9] at e; exact absurd e (by decide)
        rw [if_neg (by rw [e]; decide), gd_t ij, gd_t ij, xj, ha j hjn, hb j hjn]
        by_cases e2 : a j = b j
        · rw [if_pos e2]
          exact ⟨1, iN j, rfl, Or.inr rfl, ⟨fun q => absurd q (by decide), fun q => absurd e2 (q j hjn j9 e)⟩⟩
        · rw [if_neg e2, lt_b, iN_1]
          refine ih (j + 1) m' (by omega) (fun c h1 h2 h3 => ?_) (by omega)
          by_cases ec : c = j
          · rw [ec]; exact e2
          · exact hi c h1 (by omega) h3
  obtain ⟨t, y, e, h01, hi⟩ := key 9 0 N (by omega) (fun c _ h => by omega) (by omega)
  unfold fX4_allTippedSince
  rw [show fX4_allTippedSince_2 N x N 0 S = fX4_allTippedSince_2 N x N (iN 0) S from rfl, e]
  show ∃ v, (if t = 0 then some ((1 : Int32), S) else some (0, S)) = some (v, S) ∧ _
  by_cases e0 : t = 0
  · rw [if_pos e0]
    exact ⟨1, rfl, Or.inr rfl, ⟨fun _ => hi.mp e0, fun _ => rfl⟩⟩
  · rw [if_neg e0]
    exact ⟨0, rfl, Or.inl rfl, ⟨fun q => absurd q (by decide), fun q => absurd (hi.mpr q) e0⟩⟩
theorem C_keepT : rn (fX4_keepTimes N S) (fun U => (∀ y, y < 9 → U.1 31 y = S.1 30 y) ∧ FC (fun a => a = 31) S U) := by
  unfold fX4_keepTimes
  rw [gd_t (by decide), rn_lt, rn_some]
  refine ⟨fun y hy => ?_, ⟨fun a ha => urow_o ha, rfl⟩⟩
  show urow S.1 31 _ 31 y = _
  rw [urow_at]
  unfold va_cpy
  have e0 : ix (0 : Int32) = 0 := by decide
  have e9 : ix (9 : Int32) = 9 := by decide
  rw [e0, e9]
  simp
  rw [urow_at]
  exact if_pos hy
theorem C_meeting {x : Int32} (q : QC N V A S) : rn (fX11_meeting N x S) (fun r => r.1 = aMeet V A x ∧ FQ S r.2) := by
  have q' := q
  obtain ⟨hN, hs, hw, hcu, p, hp⟩ := q'
  have hn := hw.1
  unfold aMeet fX11_meeting
  by_cases h1 : bcu V.1 x
  · obtain ⟨f, hf, hfz⟩ := bcu_bt hn h1
    rw [ns_t hp h1, bU_l, if_pos h1, lt_b, rn_bV]
    refine rn_mono q.reck (fun U hU => ?_)
    rw [rn_bT]
    refine forG (f := fun m j s => fX11_meeting_29 N x m (iN j) s) 5001 (J := fun j W => 1 ≤ j ∧ (∀ c, c < V.1 → W.1 30 c = tiS V.2.1 A (iN (j - 1)) c) ∧ FQ S W ∧ fnd (meP V A x) (5001 - j) j = fnd (meP V A x) 5000 1) ?_ ?_ N 1 U (by omega) ⟨Nat.le_refl _, fun c hc => (hU.1 c hc).2, hU.2.2, rfl⟩ (by omega)
    · rintro m W ⟨-, -, g2, g3⟩
      simp only [fX11_meeting_29]
      rw [if_pos (by rw [i5000 (by omega)]; omega), rn_some, rn_lt, rn_lt, rn_lt, if_pos rfl, rn_some, fnd_en g3]
      exact ⟨rfl, g2⟩
    · rintro m j W hj ⟨g0, g1, g2, g3⟩ ih
      have qW := q.fq g2
      simp only [fX11_meeting_29]
      rw [if_neg (by rw [i5000 (by omega)]; omega), rn_bV]
      refine rn_mono C_keepT (fun W1 k1 => ?_)
      have F1 : FQ W W1 := FQ.fc k1.2 (fun a ha => by unfold pc ceC; omega)
      have qW1 := qW.fq F1
      rw [rn_lt, rn_bV]
      refine rn_mono qW1.reck (fun W2 k2 => ?_)
      obtain ⟨k2a, k2b, k2c⟩ := k2
      have o31 : ∀ c, c < V.1 → W2.1 31 c = tiS V.2.1 A (iN (j - 1)) c := fun c hc => by
        rw [k2b.1 31 (by decide), k1.1 c (by omega)]; exact g1 c hc
      obtain ⟨v, ev, v01, hv⟩ := C_allSince (S := W2) (n := V.1) hN hf hfz (fun c hc => (k2a c hc).2) o31
      have hP : v = 1 ↔ meP V A x j = true := by
        rw [hv]
        unfold meP
        rw [decide_eq_true_iff]
        constructor
        · intro a c hc b
          have c9 : c < 9 := by omega
          rw [bt_has hf c9] at b
          have := a c hc c9 b
          rw [ti_N hw hs (by omega) c9, ti_N hw hs (by omega) c9] at this
          have m1 := tnS_mo (sp := V.2.1) (A := A) (y := c) (show j - 1 ≤ j by omega)
          have : tnS V.2.1 A j c ≠ tnS V.2.1 A (j - 1) c := fun e => this (by rw [e])
          omega
        · intro a c hc c9 b e
          have := a c hc (by rw [bt_has hf c9]; exact b)
          have t1 := tn_max (h := j) hw hs (by omega) c9
          have t2 := tn_max (h := j - 1) hw hs (by omega) c9
          rw [ti_N hw hs (by omega) c9, ti_N hw hs (by omega) c9, iN_eq (by omega) (by omega)] at e
          omega
      have F3 := (g2.tr F1).tr k2c
      rw [ev, bI_s]
      rcases v01 with e | e
      · rw [if_pos e, lt_b, iN_1]
        refine ih W2 ⟨by omega, fun c hc => ?_, F3, fnd_st (by omega) g3 (fun t => by rw [hP.mpr t] at e; exact absurd e (by decide))⟩
        rw [Nat.add_sub_cancel]
        exact (k2a c hc).2
      · rw [if_neg (show ¬ v = 0 by rw [e]; decide), rn_some, rn_lt, rn_lt, rn_lt, if_neg (show ¬ (1 : Nat) = 0 by decide), rn_some, fnd_yes (by omega) g3 (hP.mp e)]
        exact ⟨rfl, F3⟩
  · rw [ns_f hp h1, bU_r, if_neg h1, rn_some]
    exact ⟨rfl, FQ.rfl⟩
theorem M_me51 {x v2 : Int32} {f a b : Nat → Int32} {n : Nat} (hn : n ≤ 9) (hx : bt x f) (hm : S.1 80 1 = iN n) (ha : ∀ c, c < n → S.1 100 c = a c) (hb : ∀ c, c < n → S.1 103 c = b c) :
    ∀ k j m v, j + k = n → (v = 0 ∨ v = 1) → (v = 1 ↔ ∀ c, c < j → f c = 1 → ¬ a c ≤ b c) → k < m → ∃ u, fX12_meeting_51 N x v2 m v (iN j) S = some (u, iN n, S) ∧ (u = 0 ∨ u = 1) ∧ (u = 1 ↔ ∀ c, c < n → f c = 1 → ¬ a c ≤ b c)
  | 0, j, m, v, hj, h01, hv, hm' => by
    obtain ⟨m', rfl⟩ : ∃ m', m = m' + 1 := ⟨m - 1, by omega⟩
    have e : j = n := by omega
    subst e
    refine ⟨v, ?_, h01, hv⟩
    rw [fX12_meeting_51, hm, if_pos (Int32.le_refl _)]
  | k + 1, j, m, v, hj, h01, hv, hm' => by
    obtain ⟨m', rfl⟩ : ∃ m', m = m' + 1 := ⟨m - 1, by omega⟩
    have j9 : j < 9 := by omega
    have ij : inr (iN j) 9 := inr_iN j9 (by omega)
    have xj : ix (iN j) = j := ix_iN (by omega)
    rw [fX12_meeting_51, hm, if_neg (by rw [iN_le (by omega) (by omega)]; omega)]
    rcases h01 with e | e
    · rw [if_pos e, lt_b, iN_1]
      refine M_me51 hn hx hm ha hb k (j + 1) m' 0 (by omega) (Or.inl rfl) ⟨fun q => absurd q (by decide), fun q => ?_⟩ (by omega)
      have := hv.mpr (fun c hc => q c (by omega))
      rw [e] at this
      exact absurd this (by decide)
    · rw [if_neg (by rw [e]; decide), bt_has hx j9]
      have hv1 := hv.mp e
      rcases bt_01 hx j9 with e2 | e2
      · rw [if_pos e2, lt_b, iN_1]
        refine M_me51 hn hx hm ha hb k (j + 1) m' 1 (by omega) (Or.inr rfl) ⟨fun _ c hc h3 => ?_, fun _ => rfl⟩ (by omega)
        by_cases ec : c = j
        · rw [ec, e2] at h3; exact absurd h3 (by decide)
        · exact hv1 c (by omega) h3
      · rw [if_neg (by rw [e2]; decide), gd_t ij, gd_t ij, xj, ha j (by omega), hb j (by omega), lt_b, lt_b, iN_1]
        by_cases e3 : a j ≤ b j
        · rw [if_pos e3]
          exact M_me51 hn hx hm ha hb k (j + 1) m' 0 (by omega) (Or.inl rfl) ⟨fun q => absurd q (by decide), fun q => absurd e3 (q j (by omega) e2)⟩ (by omega)
        · rw [if_neg e3]
          refine M_me51 hn hx hm ha hb k (j + 1) m' 1 (by omega) (Or.inr rfl) ⟨fun _ c hc h3 => ?_, fun _ => rfl⟩ (by omega)
          by_cases ec : c = j
          · rw [ec]; exact e3
          · exact hv1 c (by omega) h3
theorem M_meeting {x : Int32} (q : QM N V A S) : rn (fX12_meeting N x S) (fun r => MA k1 (aMeet V A x) r.1 (r.2.1 80 0) ∧ FP S r.2) := by
  have hF : FP S (u2 S.1 80 0 0, S.2) := zFP
  have q0 := q.fp hF
  have hz := z0 (S := S)
  unfold aMeet fX12_meeting
  refine rn_l (fun T eT => ?_)
  rw [← eT] at q0 hF hz
  clear eT
  have q1 := q0
  obtain ⟨hN, hs, hw, hmr, hme⟩ := q0
  have hn := hw.1
  have h80 : T.1 80 1 = iN V.1 := hme.1
  by_cases h1 : bcu V.1 x
  · obtain ⟨f, hf, hfz⟩ := bcu_bt hn h1
    rw [so_t hz h80 h1, bI_s, if_neg (by decide), if_pos h1, rn_bV]
    refine rn_mono q1.flo (fun U hU => ?_)
    rw [rn_bT]
    refine forG (f := fun m j s => fX12_meeting_22 N x m (iN j) s) 5001 (J := fun j W => 1 ≤ j ∧ (∀ c, c < V.1 → W.1 100 c = tiS V.2.1 A (iN (j - 1)) c) ∧ W.1 80 0 = 0 ∧ FP T W ∧ fnd (meP V A x) (5001 - j) j = fnd (meP V A x) 5000 1) ?_ ?_ N 1 U (by omega) ⟨Nat.le_refl _, fun c hc => (hU.1 c hc).2.1, (hU.2.1.2.1 0 id).trans hz, hU.2.2, rfl⟩ (by omega)
    · rintro m W ⟨-, -, gz, g2, g3⟩
      simp only [fX12_meeting_22]
      rw [if_pos (by rw [i5000 (by omega)]; omega), rn_some, rn_lt, rn_lt, rn_lt, if_pos rfl, rn_some, fnd_en g3]
      exact ⟨⟨gz, rfl⟩, hF.tr g2⟩
    · rintro m j W hj ⟨g0, g1, gz, g2, g3⟩ ih
      have qW := q1.fp g2
      simp only [fX12_meeting_22]
      rw [if_neg (by rw [i5000 (by omega)]; omega), rn_bV]
      refine rn_mono (M_copies (L := 9) hN rfl rfl ⟨rfl, by decide⟩ ⟨rfl, by decide⟩ (by omega) (by decide) (by decide) (by decide)) (fun W1 k1 => ?_)
      have F1 : FP W W1 := FP.fm k1.2 (fun a ha => by unfold pm; omega) (fun _ e => e.elim)
      have qW1 := qW.fp F1
      rw [rn_bV]
      refine rn_mono qW1.flo (fun W2 k2 => ?_)
      obtain ⟨k2a, k2b, k2c⟩ := k2
      have o31 : ∀ c, c < V.1 → W2.1 103 c = tiS V.2.1 A (iN (j - 1)) c := fun c hc => by
        rw [k2b.1 103 (by decide) (by decide), k1.1 c (by omega)]; exact g1 c hc
      have F3 := (g2.tr F1).tr k2c
      have z2 : W2.1 80 0 = 0 := by rw [k2b.2.1 0 id, k1.2.2.1 0 id]; exact gz
      have m2 : W2.1 80 1 = iN V.1 := (q1.fp F3).2.2.2.2.1
      obtain ⟨u, eu, u01, hu⟩ := M_me51 (N := N) (v2 := iN j) (S := W2) hn hf m2 (fun c hc => (k2a c hc).2.1) o31 V.1 0 N 1 (by omega) (Or.inr rfl) ⟨fun _ c hc => by omega, fun _ => rfl⟩ (by omega)
      have hP : u = 1 ↔ meP V A x j = true := by
        rw [hu]
        unfold meP
        rw [decide_eq_true_iff]
        constructor
        · intro a c hc b
          have c9 : c < 9 := by omega
          rw [bt_has hf c9] at b
          have := a c hc b
          have t1 := tn_max (h := j) hw hs (by omega) c9
          have t2 := tn_max (h := j - 1) hw hs (by omega) c9
          rw [ti_N hw hs (by omega) c9, ti_N hw hs (by omega) c9, iN_le (by omega) (by omega)] at this
          omega
        · intro a c hc b e
          have c9 : c < 9 := by omega
          have := a c hc (by rw [bt_has hf c9]; exact b)
          have t1 := tn_max (h := j) hw hs (by omega) c9
          have t2 := tn_max (h := j - 1) hw hs (by omega) c9
          rw [ti_N hw hs (by omega) c9, ti_N hw hs (by omega) c9, iN_le (by omega) (by omega)] at e
          omega
      rw [show fX12_meeting_51 N x (iN j) N 1 0 W2 = fX12_meeting_51 N x (iN j) N 1 (iN 0) W2 from rfl, eu]
      rw [rn_bT, rn_some, rn_lt, rn_lt, rn_lt]
      rcases u01 with e | e
      · rw [if_pos e, lt_b, iN_1]
        refine ih W2 ⟨by omega, fun c hc => ?_, z2, F3, fnd_st (by omega) g3 (fun t => by rw [hP.mpr t] at e; exact absurd e (by decide))⟩
        rw [Nat.add_sub_cancel]
        exact (k2a c hc).2.1
      · rw [if_neg (show ¬ u = 0 by rw [e]; decide), rn_some, rn_lt, rn_lt, rn_lt, if_neg (show ¬ (1 : Nat) = 0 by decide), rn_some, fnd_yes (by omega) g3 (hP.mp e)]
        exact ⟨⟨z2, rfl⟩, hF.tr F3⟩
  · rw [so_f hz h80 h1, bI_s, if_pos rfl, if_neg h1, rn_some]
    exact ⟨MAx (T := T) (x := 1) (by decide), hF.tr zFP⟩
end MEE
