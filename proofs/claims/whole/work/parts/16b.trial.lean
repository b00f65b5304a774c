/-! ===== phase 2: hours on trial ===== -/
def hS (V : Cv) (A : Rw) : Hs := hourS V.1 0 V.2.2.1 V.2.2.2 V.2.1 A
def rowK (V : Cv) (A : Rw) : Nat → Rw
  | 0 => A
  | k + 1 => (hS V (rowK V A k)).1
def hrK (V : Cv) (A : Rw) (k : Nat) : Hs := hS V (rowK V A k)
def smT (V : Cv) (A : Rw) (T : Nat → Int32) : Nat → Nat → Int32
  | 0, c => T c
  | k + 1, c => smT V A T k c + (hrK V A k).2.2.1 c
def smL (V : Cv) (A : Rw) (L : Int32) : Nat → Int32
  | 0 => L
  | k + 1 => smL V A L k + (hrK V A k).2.2.2.2
def tpK (V : Cv) (A : Rw) : Nat → Int32
  | 0 => 0
  | k + 1 => (hrK V A k).2.2.2.1
theorem rowK_s {V : Cv} {A : Rw} {k : Nat} : rowK V A (k + 1) = (hS V (rowK V A k)).1 := by rw [rowK]
theorem smT_s {V : Cv} {A : Rw} {T : Nat → Int32} {k c : Nat} : smT V A T (k + 1) c = smT V A T k c + (hrK V A k).2.2.1 c := by rw [smT]
theorem smL_s {V : Cv} {A : Rw} {L : Int32} {k : Nat} : smL V A L (k + 1) = smL V A L k + (hrK V A k).2.2.2.2 := by rw [smL]
theorem tpK_s {V : Cv} {A : Rw} {k : Nat} : tpK V A (k + 1) = (hrK V A k).2.2.2.1 := by rw [tpK]
theorem hS_HO {V : Cv} {A : Rw} (hs : SPR V.2.1) (h : WF V.1 A) : HO V.1 (hS V A) := by
  unfold hS
  exact hour_HO hs h
theorem rowK_WF {V : Cv} {A : Rw} (hs : SPR V.2.1) (h : WF V.1 A) : ∀ k, WF V.1 (rowK V A k)
  | 0 => h
  | k + 1 => by
    rw [rowK_s]
    exact (hS_HO hs (rowK_WF hs h k)).1
theorem hrK_HO {V : Cv} {A : Rw} (hs : SPR V.2.1) (h : WF V.1 A) (k : Nat) : HO V.1 (hrK V A k) := by
  unfold hrK
  exact hS_HO hs (rowK_WF hs h k)
/-- tipped, as bits of cups -/
theorem tpK_bt {V : Cv} {A : Rw} (hs : SPR V.2.1) (h : WF V.1 A) (k : Nat) : bt (tpK V A (k + 1)) (fun c => if (hrK V A k).2.2.1 c = 0 then 0 else 1) := by
  rw [tpK_s]
  exact (hrK_HO hs h k).2.2.2
theorem rowK_add {V : Cv} {A : Rw} (k : Nat) : ∀ j, rowK V A (k + j) = rowK V (rowK V A k) j
  | 0 => by rw [Nat.add_zero, rowK]
  | j + 1 => by
    rw [← Nat.add_assoc, rowK_s, rowK_s, rowK_add k j]
theorem rn_l {α β : Type} {x : α} {f : α → Option β} {Q : β → Prop} (h : ∀ y, y = x → rn (f y) Q) : rn (lt x f) Q := h x rfl
/-- the first j arrays are copied -/
def CPj (o o' j : Nat) (A : Rw) (S T : PS) : Prop := (∀ k, k < j → ∀ c, c < 9 → T.1 (sr o k) c = A k c) ∧ CU o' A T ∧ FC (fun a => a = o ∨ (50 + 6 * (o - 18) ≤ a ∧ a < 55 + 6 * (o - 18))) S T
theorem CPj.s {o o' j : Nat} {A : Rw} {S T : PS} (ho : isCu o) (ho' : isCu o') (hne : o ≠ o') (hj : j < 5) (h : CPj o o' j A S T) : CPj o o' (j + 1) A S (urow T.1 (sr o j) (va_cpy (T.1 (sr o' j)) (T.1 (sr o j)) (ix 0) (ix 0) (ix 9)), T.2) := by
  have x0 : ix (0 : Int32) = 0 := by decide
  have x9 : ix (9 : Int32) = 9 := by decide
  have r := ho.rg
  have r' := ho'.rg
  have ej : sr o j = 50 + 6 * (o - 18) + j := ho.sr (by omega)
  refine ⟨fun k hk c hc => ?_, h.2.1.fr ho' (cs := fun a => a = sr o j) (fun a ha => urow_o ha) (fun a ha => ?_), h.2.2.row (Or.inr (by rw [ej]; omega))⟩
  · show urow T.1 (sr o j) _ (sr o k) c = A k c
    by_cases e : k = j
    · subst e
      rw [urow_at]
      unfold va_cpy
      rw [x0, x9, if_pos (by omega), Nat.zero_add, Nat.sub_zero]
      exact h.2.1.1 k hj c hc
    · rw [urow_o (by rw [ej, ho.sr (by omega)]; omega)]
      exact h.1 k (by omega) c hc
  · rw [ej]
    unfold cuC at ha
    omega
/-- one row of cups copied to another -/
theorem C_copy {N o o' : Nat} {A : Rw} {S : PS} (ho : isCu o) (ho' : isCu o') (hne : o ≠ o') (hA : CU o' A S) :
    rn (fX2_copy N o o' S) (fun T => CU o A T ∧ FC (fun a => a = o ∨ (50 + 6 * (o - 18) ≤ a ∧ a < 55 + 6 * (o - 18))) S T) := by
  have hg : ((0 ≤ (0 : Int32) ∧ 0 ≤ (0 : Int32) ∧ 0 ≤ (9 : Int32)) ∧ ix 0 + ix 9 ≤ 9 ∧ ix 0 + ix 9 ≤ 9) := by decide
  simp only [fX2_copy, gd_t hg, gd_t ho.ob, gd_t ho'.ob, gd_t (ho.ar (k := 0) (by omega)), gd_t (ho.ar (k := 1) (by omega)), gd_t (ho.ar (k := 2) (by omega)), gd_t (ho.ar (k := 3) (by omega)), gd_t (ho.ar (k := 4) (by omega)), gd_t (ho'.ar (k := 0) (by omega)), gd_t (ho'.ar (k := 1) (by omega)), gd_t (ho'.ar (k := 2) (by omega)), gd_t (ho'.ar (k := 3) (by omega)), gd_t (ho'.ar (k := 4) (by omega))]
  have p0 : CPj o o' 0 A S S := ⟨fun k hk => by omega, hA, FC.rfl⟩
  refine rn_l (fun T1 e1 => ?_)
  have p1 : CPj o o' 1 A S T1 := by rw [e1]; exact p0.s ho ho' hne (by omega)
  refine rn_l (fun T2 e2 => ?_)
  have p2 : CPj o o' 2 A S T2 := by rw [e2]; exact p1.s ho ho' hne (by omega)
  refine rn_l (fun T3 e3 => ?_)
  have p3 : CPj o o' 3 A S T3 := by rw [e3]; exact p2.s ho ho' hne (by omega)
  refine rn_l (fun T4 e4 => ?_)
  have p4 : CPj o o' 4 A S T4 := by rw [e4]; exact p3.s ho ho' hne (by omega)
  refine rn_l (fun T5 e5 => ?_)
  have p5 : CPj o o' 5 A S T5 := by rw [e5]; exact p4.s ho ho' hne (by omega)
  have r := ho.rg
  have r' := ho'.rg
  simp only [rn_lt, rn_some]
  have q6 : T5.1 o' 6 = A 7 0 := p5.2.1.2.1
  have q7 : ∀ v, u2 T5.1 o 6 v o' 7 = T5.1 o' 7 := fun v => by rw [u2_o (Ne.symm hne)]
  have q8 : ∀ v w, u2 (u2 T5.1 o 6 v) o 7 w o' 8 = T5.1 o' 8 := fun v w => by rw [u2_o (Ne.symm hne), u2_o (Ne.symm hne)]
  rw [q8, q7, q6]
  refine ⟨⟨fun k hk c hc => ?_, ?_, ?_, ?_⟩, ((p5.2.2.u (Or.inl rfl)).u (Or.inl rfl)).u (Or.inl rfl)⟩
  · show u2 (u2 (u2 T5.1 o 6 _) o 7 _) o 8 _ (sr o k) c = A k c
    have : sr o k ≠ o := by rw [ho.sr (by omega)]; omega
    rw [u2_o this, u2_o this, u2_o this]
    exact p5.1 k hk c hc
  · show u2 (u2 (u2 T5.1 o 6 _) o 7 _) o 8 _ o 6 = A 7 0
    rw [u2_at, upd_o (by decide), u2_at, upd_o (by decide), u2_at, upd_at]
  · show bt (u2 (u2 (u2 T5.1 o 6 _) o 7 _) o 8 _ o 7) (A 5)
    rw [u2_at, upd_o (by decide), u2_at, upd_at]
    exact p5.2.1.2.2.1
  · show bt (u2 (u2 (u2 T5.1 o 6 _) o 7 _) o 8 _ o 8) (A 6)
    rw [u2_at, upd_at]
    exact p5.2.1.2.2.2
/-- the class's state on trial, k hours behind the row A -/
def TR (V : Cv) (A : Rw) (T : Nat → Int32) (L : Int32) (k : Nat) (S : PS) : Prop :=
  CU 20 (rowK V A k) S ∧ (∀ c, c < 9 → S.1 28 c = smT V A T k c) ∧ S.1 5 6 = smL V A L k ∧ (0 < k → S.1 5 5 = tpK V A k) ∧ S.2.2 5 4 = 20 ∧ ∃ p, CE p V.1 V.2.2.1 V.2.2.2 V.2.1 S
theorem is20 : isCu 20 := Or.inr (Or.inr (Or.inl rfl))
theorem is18 : isCu 18 := Or.inl rfl
theorem hcC_q {a : Nat} (h : hcC 20 a) : ¬ pc a ∧ a ≠ 0 ∧ a ≠ 2 ∧ a < 80 := by
  unfold hcC stC cuC at h
  unfold pc ceC
  omega
section TRI
variable {N : Nat} {V : Cv} {A : Rw} {T : Nat → Int32} {L : Int32}
theorem C_step {k : Nat} {S : PS} (hN : 30000 ≤ N) (hs : SPR V.2.1) (hw : WF V.1 A) (h : TR V A T L k S) : rn (fX3_passHour N 0 S) (fun U => TR V A T L (k + 1) U ∧ FQ S U) := by
  obtain ⟨h1, h2, h3, h4, h5, p, h6⟩ := h
  refine rn_mono (C_hour (w := 0) hN (by omega) is20 hs (rowK_WF hs hw k) h5 h6 h1 h2 h3) (fun U hU => ?_)
  have hF : FQ S U := FQ.fc hU.2 (fun a ha => hcC_q ha)
  exact ⟨⟨hU.1.1, fun c hc => (hU.1.2.1 c hc).2, hU.1.2.2.2, fun _ => hU.1.2.2.1, by rw [hU.2.2]; exact h5, p, h6.fc is20 hU.2⟩, hF⟩
theorem C_goOn {k m : Nat} {S : PS} (hN : 30000 ≤ N) (hs : SPR V.2.1) (hw : WF V.1 A) (hm : m ≤ 20000) (h : TR V A T L k S) : rn (fX3_goOn N (iN m) S) (fun U => TR V A T L (k + m) U ∧ FQ S U) := by
  simp only [fX3_goOn, rn_bT, rn_lt, rn_some]
  refine forG (f := fun n j s => fX3_goOn_2 N (iN m) n (iN j) s) m (J := fun j U => TR V A T L (k + j) U ∧ FQ S U) ?_ ?_ N 0 S (Nat.zero_le _) ⟨h, FQ.rfl⟩ (by omega)
  · rintro q U ⟨h1, h2⟩
    simp only [fX3_goOn_2]
    rw [if_pos (Int32.le_refl _), rn_some]
    exact ⟨h1, h2⟩
  · rintro q j U hj ⟨h1, h2⟩ ih
    have hii : ¬ iN m ≤ iN j := by rw [iN_le (by omega) (by omega)]; omega
    simp only [fX3_goOn_2, if_neg hii, rn_bV, rn_lt, iN_1]
    exact rn_mono (C_step hN hs hw h1) (fun W hW => ih W ⟨hW.1, h2.tr hW.2⟩)
theorem C_go1 {k : Nat} {S : PS} (hN : 30000 ≤ N) (hs : SPR V.2.1) (hw : WF V.1 A) (h : TR V A T L k S) : rn (fX3_goOn N 1 S) (fun U => TR V A T L (k + 1) U ∧ FQ S U) := C_goOn (m := 1) hN hs hw (by omega) h
end TRI
/-- the class begins to work on the cups at o -/
theorem C_workOn {N o : Nat} {S : PS} (hN : 30000 ≤ N) : rn (fX3_workOn N o S) (fun U => (∀ c, c < 9 → U.1 28 c = 0) ∧ U.1 5 6 = 0 ∧ U.1 5 5 = 0 ∧ U.2.2 5 4 = o ∧ (∀ a, a ≠ 5 → a ≠ 28 → U.1 a = S.1 a) ∧ U.2 = (S.2.1, u2R S.2.2 5 4 o)) := by
  simp only [fX3_workOn, rn_bV, rn_lt, rn_some]
  refine rn_mono (C_fill hN ar28 (by omega)) (fun U hU => ?_)
  obtain ⟨h1, -, h3⟩ := hU
  refine ⟨fun c hc => ?_, ?_, ?_, ?_, fun a h5 h28 => ?_, h3.2⟩
  · show u2 (u2 U.1 5 5 0) 5 6 0 28 c = 0
    rw [u2_o (by decide), u2_o (by decide)]; exact h1 c hc
  · show u2 (u2 U.1 5 5 0) 5 6 0 5 6 = 0
    rw [u2_at, upd_at]
  · show u2 (u2 U.1 5 5 0) 5 6 0 5 5 = 0
    rw [u2_at, upd_o (by decide), u2_at, upd_at]
  · show U.2.2 5 4 = o
    rw [h3.2]
    simp [u2R]
  · show u2 (u2 U.1 5 5 0) 5 6 0 a = S.1 a
    rw [u2_o h5, u2_o h5]; exact h3.1 a h28
theorem C_woc {N : Nat} {V : Cv} {A : Rw} {S : PS} (hN : 30000 ≤ N) (h : CU 18 A S) (hc : ∃ p, CE p V.1 V.2.2.1 V.2.2.2 V.2.1 S) : rn (fX3_workOnCopy N 18 S) (fun U => TR V A (fun _ => 0) 0 0 U ∧ U.1 5 5 = 0 ∧ FQ S U) := by
  obtain ⟨p, hc⟩ := hc
  simp only [fX3_workOnCopy, rn_bV, rn_some]
  refine rn_mono (C_copy is20 is18 (by decide) h) (fun U hU => ?_)
  obtain ⟨h1, h2⟩ := hU
  have hF : FQ S U := FQ.fc h2 (fun a ha => by unfold pc ceC; omega)
  refine rn_mono (C_workOn hN) (fun W hW => ?_)
  obtain ⟨w1, w2, w3, w4, w5, w6⟩ := hW
  have hF2 : FQ U W := by
    refine ⟨⟨fun a ha => w5 a (by unfold pc ceC at ha; omega) (by unfold pc ceC at ha; omega), ⟨?_, ?_, ?_⟩, ?_, ?_⟩, fun a ha => ⟨w5 a (by omega) (by omega), ?_, ?_⟩⟩
    · rw [w5 0 (by decide) (by decide)]
    · rw [w5 0 (by decide) (by decide)]
    · rw [w5 2 (by decide) (by decide)]
    · rw [w6]; show u2R U.2.2 5 4 20 5 3 = _; simp [u2R]
    · rw [w6]; show u2R U.2.2 5 4 20 1 1 = _; simp [u2R]
    · rw [w6]
    · rw [w6]; show u2R U.2.2 5 4 20 a = _; unfold u2R; rw [if_neg (by omega)]
  have hcu : CU 20 A W := h1.fr is20 (cs := fun a => a = 5 ∨ a = 28) (fun a ha => w5 a (by omega) (by omega)) (fun a ha => by unfold cuC at ha; omega)
  exact ⟨⟨hcu, w1, w2, fun hh => by omega, w4, p, CE_pc hc ((hF.tr hF2).1)⟩, w3, hF.tr hF2⟩
theorem C_look {N m : Nat} {V : Cv} {A : Rw} {S : PS} (hN : 30000 ≤ N) (hs : SPR V.2.1) (hw : WF V.1 A) (hm : m ≤ 20000) (h : CU 18 A S) (hc : ∃ p, CE p V.1 V.2.2.1 V.2.2.2 V.2.1 S) : rn (fX11_lookAhead N (iN m) S) (fun U => TR V A (fun _ => 0) 0 m U ∧ (m = 0 → U.1 5 5 = 0) ∧ FQ S U) := by
  simp only [fX11_lookAhead, rn_bV, rn_some]
  refine rn_mono (C_woc (V := V) hN h hc) (fun U hU => ?_)
  by_cases e : m = 0
  · subst e
    obtain ⟨k, rfl⟩ : ∃ k, N = k + 1 := ⟨N - 1, by omega⟩
    simp only [fX3_goOn, fX3_goOn_2, rn_bT, rn_lt]
    rw [if_pos (show iN 0 ≤ 0 from Int32.le_refl _)]
    simp only [rn_some]
    exact ⟨hU.1, fun _ => hU.2.1, hU.2.2⟩
  · refine rn_mono (C_goOn hN hs hw hm hU.1) (fun W hW => ⟨?_, fun hh => absurd hh e, hU.2.2.tr hW.2⟩)
    rw [Nat.zero_add] at hW
    exact hW.1
/-- the model's copy for a trial -/
theorem M_tries {N n : Nat} {A : Rw} {S : PS} (hN : 30000 ≤ N) (hn : n ≤ 9) (h : MR 0 n A S) : rn (fX12_tries N S) (fun U => MR 64 n A U ∧ FH 64 S U) := by
  simp only [fX12_tries, rn_bT, rn_lt, rn_some]
  refine forG (f := fun n j s => fX12_tries_2 N n (iN j) s) 64 (J := fun j U => (∀ k, k < j → U.1 91 (64 + k) = S.1 91 k) ∧ FH 64 S U) ?_ ?_ N 0 S (Nat.zero_le _) ⟨fun k hk => by omega, FH.rfl⟩ (by omega)
  · rintro q U ⟨h1, h2⟩
    simp only [fX12_tries_2]
    rw [if_pos (show (64 : Int32) ≤ iN 64 from Int32.le_refl _), rn_some]
    refine ⟨?_, h2⟩
    rw [MF_MR] at h ⊢
    exact h.cg hn (fun k hk => by rw [Nat.zero_add]; exact h1 k hk)
  · rintro q j U hj ⟨h1, h2⟩ ih
    have hii : ¬ (64 : Int32) ≤ iN j := by
      have : (64 : Int32) = iN 64 := rfl
      rw [this, iN_le (by omega) (by omega)]; omega
    have i1 : inr (iN j) 128 := inr_iN (by omega) (by omega)
    have x1 : ix (iN j) = j := ix_iN (by omega)
    have o2 : (64 : Int32) + iN j = iN (64 + j) := iN_add 64 j
    have i2 : inr (iN (64 + j)) 128 := inr_iN (by omega) (by omega)
    have x2 : ix (iN (64 + j)) = 64 + j := ix_iN (by omega)
    simp only [fX12_tries_2, if_neg hii, o2, gd_t i1, gd_t i2, x1, x2, rn_lt, iN_1]
    refine ih _ ⟨fun k hk => ?_, h2.r (by omega) (by omega)⟩
    show u2 U.1 91 (64 + j) (U.1 91 j) 91 (64 + k) = S.1 91 k
    rw [u2_at]
    by_cases e : k = j
    · subst e; rw [upd_at]; exact h2.2 k (Or.inl (by omega))
    · rw [upd_o (by omega)]; exact h1 k (by omega)
/-- the model's state on trial -/
def TM (V : Cv) (A : Rw) (k : Nat) (S : PS) : Prop := MR 64 V.1 (rowK V A k) S ∧ ME V.1 0 V.2.2.1 V.2.2.2 V.2.1 S
theorem M_step {N k : Nat} {V : Cv} {A : Rw} {S : PS} (hN : 30000 ≤ N) (hs : SPR V.2.1) (hw : WF V.1 A) (h : TM V A k S) : rn (fX12_hourGoes N 64 S) (fun U => TM V A (k + 1) U ∧ HM 64 V.1 (hrK V A k) U ∧ FH 64 S U) :=
  rn_mono (M_hour (b := 64) (w := 0) hN (by omega) (by omega) hs (rowK_WF hs hw k) h.2 h.1) (fun U hU => ⟨⟨hU.1.1, h.2.fh hU.2⟩, hU.1, hU.2⟩)
