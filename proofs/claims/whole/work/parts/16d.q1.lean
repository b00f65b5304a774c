/-! ===== phase 2: questions about the hours ahead, first part ===== -/
theorem bU_r {β : Type} {E : String} {S : PS} {f : PS → Option ((β ⊕ String) × PS)} : bU (some (.inr E, S)) f = some (.inr E, S) := rfl
theorem bU_l {β : Type} {S : PS} {f : PS → Option ((β ⊕ String) × PS)} : bU (some (.inl (), S)) f = f S := rfl
theorem MAe {S : PS} {k : String → Int32} {E : String} {c r : Int32} (h : c = k E) : MA k (.inr E) r ((u2 S.1 80 0 c, S.2).1 80 0) := by
  show u2 S.1 80 0 c 80 0 = k E
  rw [u2_at, upd_at, h]
/-- the first of m numbers from k on -/
def fnd (P : Nat → Bool) : Nat → Nat → Option Nat
  | 0, _ => none
  | m + 1, k => if P k then some k else fnd P m (k + 1)
def rfn (o : Option Nat) : Int32 := match o with
  | none => -1
  | some k => iN k
def allP (V : Cv) (A : Rw) (x : Int32) (k : Nat) : Bool := decide ((tpK V A k &&& x) = x)
theorem fnd_t {P : Nat → Bool} {m k : Nat} (h : P k = true) : fnd P (m + 1) k = some k := by rw [fnd, if_pos h]
theorem fnd_f {P : Nat → Bool} {m k : Nat} (h : ¬ P k = true) : fnd P (m + 1) k = fnd P m (k + 1) := by rw [fnd, if_neg h]
theorem fnd_r {P : Nat → Bool} : ∀ {m k j : Nat}, fnd P m k = some j → k ≤ j ∧ j < k + m
  | 0, k, j, h => by rw [fnd] at h; cases h
  | m + 1, k, j, h => by
    by_cases e : P k = true
    · rw [fnd_t e] at h
      cases h
      omega
    · rw [fnd_f e] at h
      have := fnd_r h
      omega
theorem i200 {k : Nat} (h : k < 2147483648) : 200 < iN k ↔ 200 < k := by
  have : (200 : Int32) = iN 200 := rfl
  rw [this, iN_lt (by omega) h]
section Q1
variable {N : Nat} {V : Cv} {A : Rw} {S : PS}
/-- what a question of the class may take as given -/
def QC (N : Nat) (V : Cv) (A : Rw) (S : PS) : Prop := 30000 ≤ N ∧ SPR V.2.1 ∧ WF V.1 A ∧ CU 18 A S ∧ ∃ p, CE p V.1 V.2.2.1 V.2.2.2 V.2.1 S
/-- what a question of the model may take as given -/
def QM (N : Nat) (V : Cv) (A : Rw) (S : PS) : Prop := 30000 ≤ N ∧ SPR V.2.1 ∧ WF V.1 A ∧ MR 0 V.1 A S ∧ ME V.1 0 V.2.2.1 V.2.2.2 V.2.1 S
theorem QC.fq {T : PS} (h : QC N V A S) (hf : FQ S T) : QC N V A T := by
  obtain ⟨h1, h2, h3, h4, p, h5⟩ := h
  exact ⟨h1, h2, h3, CU_pc (Or.inl rfl) h4 hf.1.1, p, CE_pc h5 hf.1⟩
theorem QM.fp {T : PS} (h : QM N V A S) (hf : FP S T) : QM N V A T := by
  obtain ⟨h1, h2, h3, h4, h5⟩ := h
  refine ⟨h1, h2, h3, ?_, ME_pm h5 hf.1⟩
  rw [MF_MR] at h4 ⊢
  exact h4.cg h3.1 (fun k hk => by rw [Nat.zero_add]; exact hf.1.2.1 k hk)
theorem QC.look {m : Nat} (h : QC N V A S) (hm : m ≤ 20000) : rn (fX11_lookAhead N (iN m) S) (fun U => TR V A (fun _ => 0) 0 m U ∧ (m = 0 → U.1 5 5 = 0) ∧ FQ S U) := C_look h.1 h.2.1 h.2.2.1 hm h.2.2.2.1 h.2.2.2.2
theorem QC.look0 (h : QC N V A S) : rn (fX11_lookAhead N 0 S) (fun U => TR V A (fun _ => 0) 0 0 U ∧ FQ S U) := rn_mono (h.look (m := 0) (by omega)) (fun U hU => ⟨hU.1, hU.2.2⟩)
theorem QM.tries (h : QM N V A S) : rn (fX12_tries N S) (fun U => TM V A 0 U ∧ FH 64 S U) := rn_mono (M_tries h.1 h.2.2.1.1 h.2.2.2.1) (fun U hU => ⟨⟨hU.1, h.2.2.2.2.fh hU.2⟩, hU.2⟩)
theorem QC.go {k : Nat} {U : PS} {T : Nat → Int32} {L : Int32} (h : QC N V A S) (hU : TR V A T L k U) : rn (fX3_goOn N 1 U) (fun W => TR V A T L (k + 1) W ∧ FQ U W) := C_go1 h.1 h.2.1 h.2.2.1 hU
theorem QM.hour {k : Nat} {U : PS} (h : QM N V A S) (hU : TM V A k U) : rn (fX12_hourGoes N 64 U) (fun W => TM V A (k + 1) W ∧ HM 64 V.1 (hrK V A k) W ∧ FH 64 U W) := M_step h.1 h.2.1 h.2.2.1 hU
theorem FH.t0 {b : Nat} {S T : PS} (h : FH b S T) : T.1 80 0 = S.1 80 0 := h.1.2.1 0 (by unfold hfM; omega)
/-- the first hour in which all of some cups tip -/
theorem C_first {x : Int32} (q : QC N V A S) : rn (fX11_firstHourOfAll N x S) (fun r => r.1 = rfn (fnd (allP V A x) 200 1) ∧ FQ S r.2) := by
  have hN := q.1
  simp only [fX11_firstHourOfAll, rn_bV, rn_bT, rn_lt]
  refine rn_mono q.look0 (fun U hU => ?_)
  refine forG (f := fun n k s => fX11_firstHourOfAll_7 N x n (iN k) s) 201 (J := fun k W => TR V A (fun _ => 0) 0 (k - 1) W ∧ FQ S W ∧ 1 ≤ k ∧ fnd (allP V A x) (201 - k) k = fnd (allP V A x) 200 1) ?_ ?_ N 1 U (by omega) ⟨hU.1, hU.2, by omega, rfl⟩ (by omega)
  · rintro j W ⟨g1, g2, g3, g4⟩
    simp only [fX11_firstHourOfAll_7]
    rw [if_pos (by rw [i200 (by omega)]; omega), rn_some]
    simp only [if_true, rn_some]
    rw [← g4]
    exact ⟨rfl, g2⟩
  · rintro j k W hk ⟨g1, g2, g3, g4⟩ ih
    have hii : ¬ 200 < iN k := by rw [i200 (by omega)]; omega
    simp only [fX11_firstHourOfAll_7, if_neg hii, rn_bV]
    refine rn_mono (q.go g1) (fun Y hY => ?_)
    have e1 : k - 1 + 1 = k := by omega
    rw [e1] at hY
    rw [hY.1.2.2.2.1 (by omega)]
    have e2 : 201 - k = (200 - k) + 1 := by omega
    rw [e2] at g4
    by_cases e : (tpK V A k &&& x) = x
    · rw [if_pos e, rn_some]
      simp only [show ¬ ((1 : Nat) = 0) from by decide, if_false, rn_some]
      rw [← g4, fnd_t (by unfold allP; exact decide_eq_true e)]
      exact ⟨rfl, g2.tr hY.2⟩
    · rw [if_neg e, rn_lt, iN_1]
      refine ih Y ⟨?_, g2.tr hY.2, by omega, ?_⟩
      · rw [Nat.add_sub_cancel]; exact hY.1
      · rw [← g4, fnd_f (by unfold allP; rw [decide_eq_true_iff]; exact e)]
        congr 1
        omega
theorem M_allTip {x : Int32} {f : Nat} {U : PS} (q : QM N V A S) (hf : f ≤ 200) (hU : TM V A f U) : rn (fX12_allTip N x (iN f) U) (fun r => r.1 = rfn (fnd (allP V A x) (200 - f) (f + 1)) ∧ FH 64 U r.2 ∧ ∀ k, fnd (allP V A x) (200 - f) (f + 1) = some k → TM V A k r.2) := by
  have hN := q.1
  simp only [fX12_allTip, rn_bT, rn_lt, iN_1]
  refine forG (f := fun n k s => fX12_allTip_4 N x (iN f) n (iN k) s) 201 (J := fun k W => TM V A (k - 1) W ∧ FH 64 U W ∧ f + 1 ≤ k ∧ fnd (allP V A x) (201 - k) k = fnd (allP V A x) (200 - f) (f + 1)) ?_ ?_ N (f + 1) U (by omega) ⟨hU, FH.rfl, by omega, by congr 1; omega⟩ (by omega)
  · rintro j W ⟨g1, g2, g3, g4⟩
    simp only [fX12_allTip_4]
    rw [if_pos (by rw [i200 (by omega)]; omega), rn_some]
    simp only [if_true, rn_some]
    rw [← g4]
    exact ⟨rfl, g2, fun k hk => by cases hk⟩
  · rintro j k W hk ⟨g1, g2, g3, g4⟩ ih
    have hii : ¬ 200 < iN k := by rw [i200 (by omega)]; omega
    simp only [fX12_allTip_4, if_neg hii, rn_bV]
    refine rn_mono (q.hour g1) (fun Y hY => ?_)
    have e1 : k - 1 + 1 = k := by omega
    have e3 : Y.1 80 38 = tpK V A k := by
      rw [hY.2.1.2.2.1]
      have := tpK_s (V := V) (A := A) (k := k - 1)
      rw [e1] at this
      exact this.symm
    rw [e1] at hY
    rw [e3]
    have e2 : 201 - k = (200 - k) + 1 := by omega
    rw [e2] at g4
    by_cases e : (tpK V A k &&& x) = x
    · rw [if_pos e, rn_some]
      simp only [show ¬ ((1 : Nat) = 0) from by decide, if_false, rn_some]
      rw [← g4, fnd_t (by unfold allP; exact decide_eq_true e)]
      exact ⟨rfl, g2.tr hY.2.2, fun k' hk' => by cases hk'; exact hY.1⟩
    · rw [if_neg e, rn_lt, iN_1]
      refine ih Y ⟨?_, g2.tr hY.2.2, by omega, ?_⟩
      · rw [Nat.add_sub_cancel]; exact hY.1
      · rw [← g4, fnd_f (by unfold allP; rw [decide_eq_true_iff]; exact e)]
        congr 1
        omega
def aThen (V : Cv) (A : Rw) (c h w : Int32) : Int32 ⊕ String :=
  if inr c V.1 then (if btw w 0 1 then (if btw h 0 200 then (.inl (if w = 0 then rowK V A (ix h) 1 (ix c) else smT V A (fun _ => 0) (ix h) (ix c))) else .inr nIAE) else .inr nNSE) else .inr nNSE
theorem C_then {c h w : Int32} (q : QC N V A S) : rn (fX11_then N c h w S) (fun r => r.1 = aThen V A c h w ∧ FQ S r.2) := by
  obtain ⟨p, hp⟩ := q.2.2.2.2
  have hn := q.2.2.1.1
  have hN := q.1
  unfold aThen
  by_cases h1 : inr c V.1
  · obtain ⟨d, hd, rfl⟩ := inr_c h1
    by_cases h2 : btw w 0 1
    · by_cases h3 : btw h 0 200
      · obtain ⟨m, rfl, hml, hm⟩ := btw_nat (l := 0) (h := 200) rfl rfl (by omega) (by omega) h3
        have i9 : inr (iN d) 9 := inr_iN (by omega) (by omega)
        have x9 : ix (iN d) = d := ix_iN (by omega)
        have xm : ix (iN m) = m := ix_iN (by omega)
        simp only [fX11_then, nc_t hp hn hd, nw_t h2, nr_t h3, bU_l, if_pos h1, if_pos h2, if_pos h3, rn_bV, x9, xm]
        refine rn_mono (q.look (by omega)) (fun U hU => ?_)
        obtain ⟨u1, -, u3⟩ := hU
        by_cases e : w = 0
        · simp only [if_pos e, rn_lt, u1.2.2.2.2.1, gd_t is20.ob, gd_t (is20.ar (k := 1) (by omega)), gd_t i9, rn_some]
          exact ⟨by rw [u1.1.1 1 (by omega) d (by omega)], u3⟩
        · simp only [if_neg e, gd_t i9, rn_some]
          exact ⟨by rw [u1.2.1 d (by omega)], u3⟩
      · simp only [fX11_then, nc_t hp hn hd, nw_t h2, nr_f h3, bU_l, bU_r, if_pos h1, if_pos h2, if_neg h3, rn_some]
        first | exact ⟨trivial, FQ.rfl⟩ | exact ⟨rfl, FQ.rfl⟩
    · simp only [fX11_then, nc_t hp hn hd, nw_f h2, bU_l, bU_r, if_pos h1, if_neg h2, rn_some]
      first | exact ⟨trivial, FQ.rfl⟩ | exact ⟨rfl, FQ.rfl⟩
  · simp only [fX11_then, nc_f hp hn h1, bU_l, bU_r, if_neg h1, rn_some]
    first | exact ⟨trivial, FQ.rfl⟩ | exact ⟨rfl, FQ.rfl⟩
theorem M_then {c h w : Int32} (q : QM N V A S) : rn (fX12_then N c h w S) (fun r => MA k2 (aThen V A c h w) r.1 (r.2.1 80 0) ∧ FP S r.2) := by
  have hn := q.2.2.1.1
  have hN := q.1
  have q0 := q.fp (zFP (k := 0))
  have hF := zFP (S := S) (k := 0)
  have h80 := q0.2.2.2.2.1
  have hz := z0 (S := S)
  unfold aThen
  by_cases h1 : inr c V.1
  · obtain ⟨d, hd, rfl⟩ := inr_c h1
    by_cases h2 : btw w 0 1
    · by_cases h3 : btw h 0 200
      · obtain ⟨m, rfl, hml, hm⟩ := btw_nat (l := 0) (h := 200) rfl rfl (by omega) (by omega) h3
        have i9 : inr (iN d) 9 := inr_iN (by omega) (by omega)
        have x9 : ix (iN d) = d := ix_iN (by omega)
        have xm : ix (iN m) = m := ix_iN (by omega)
        simp only [fX12_then, rn_lt, ic_t hz hn h80 hd, iw_t hz h2, is_t hz h3, bI_s, if_pos h1, if_pos h2, if_pos h3, show ¬ ((1 : Int32) = 0) from by decide, if_false, rn_bV, rn_bT, x9, xm]
        refine rn_mono q0.tries (fun U hU => ?_)
        obtain ⟨u1, uf⟩ := hU
        refine forG (f := fun n k s => fX12_then_44 N (iN d) (iN m) w n s.1 (iN k) s.2) m (J := fun k s => s.1 = smT V A (fun _ => 0) k d ∧ TM V A k s.2 ∧ FH 64 (u2 S.1 80 0 0, S.2) s.2) ?_ ?_ N 0 (0, U) (Nat.zero_le _) ⟨by rw [smT], u1, uf⟩ (by omega)
        · rintro j ⟨a, W⟩ ⟨g1, g2, g3⟩
          simp only [fX12_then_44]
          rw [if_pos (Int32.le_refl _), rn_some]
          simp only at g1 g2 g3
          have o74 : (74 : Int32) + iN d = iN (64 + 10 + d) := iN_add 74 d
          have i74 : inr (iN (64 + 10 + d)) 128 := inr_iN (by omega) (by omega)
          have x74 : ix (iN (64 + 10 + d)) = 64 + 10 + d := ix_iN (by omega)
          have t0 : W.1 80 0 = 0 := g3.t0.trans hz
          by_cases e : w = 0
          · simp only [if_pos e, o74, gd_t i74, x74, rn_some]
            exact ⟨⟨t0, (g2.1.2 d hd).2.1⟩, hF.tr (FP.fh g3)⟩
          · simp only [if_neg e, rn_some]
            exact ⟨⟨t0, g1⟩, hF.tr (FP.fh g3)⟩
        · rintro j k ⟨a, W⟩ hk ⟨g1, g2, g3⟩ ih
          have hii : ¬ iN m ≤ iN k := by rw [iN_le (by omega) (by omega)]; omega
          simp only [fX12_then_44, if_neg hii, rn_bV]
          simp only at g1 g2 g3
          refine rn_mono (q.hour g2) (fun Y hY => ?_)
          simp only [gd_t i9, rn_lt, x9, iN_1]
          refine ih (_, Y) ⟨?_, hY.1, g3.tr hY.2.2⟩
          simp only
          rw [smT_s, g1, (hY.2.1.2.1 d hd).2]
      · simp only [fX12_then, rn_lt, ic_t hz hn h80 hd, iw_t hz h2, is_f hz (show (2 : Int32) ≠ 0 by decide) h3, bI_s, if_pos h1, if_pos h2, if_neg h3, rn_some, show ¬ ((1 : Int32) = 0) from by decide, if_false, if_true]
        exact ⟨by show u2 _ 80 0 _ 80 0 = _; rw [u2_at, upd_at]; decide, hF.tr zFP⟩
    · simp only [fX12_then, rn_lt, ic_t hz hn h80 hd, iw_f hz h2, bI_s, if_pos h1, if_neg h2, rn_some, show ¬ ((1 : Int32) = 0) from by decide, if_false, if_true]
      exact ⟨by show u2 _ 80 0 _ 80 0 = _; rw [u2_at, upd_at]; decide, hF.tr zFP⟩
  · simp only [fX12_then, rn_lt, ic_f hz hn h80 h1, bI_s, if_neg h1, rn_some, show ¬ ((1 : Int32) = 0) from by decide, if_false, if_true]
    exact ⟨by show u2 _ 80 0 _ 80 0 = _; rw [u2_at, upd_at]; decide, hF.tr zFP⟩
def aTipping (V : Cv) (A : Rw) (k : Int32) : Int32 ⊕ String :=
  if btw k 1 200 then (.inl (tpK V A (ix k))) else .inr nIAE
theorem C_tipping {k : Int32} (q : QC N V A S) : rn (fX11_tipping N k S) (fun r => r.1 = aTipping V A k ∧ FQ S r.2) := by
  obtain ⟨p, hp⟩ := q.2.2.2.2
  have hn := q.2.2.1.1
  have hN := q.1
  unfold aTipping
  by_cases h1 : btw k 1 200
  · obtain ⟨m, rfl, hml, hm⟩ := btw_nat (l := 1) (h := 200) rfl rfl (by omega) (by omega) h1
    have xm : ix (iN m) = m := ix_iN (by omega)
    simp only [fX11_tipping, nr_t h1, bU_l, if_pos h1, rn_bV, xm]
    refine rn_mono (q.look (by omega)) (fun U hU => ?_)
    simp only [rn_some]
    exact ⟨by rw [hU.1.2.2.2.1 (by omega)], hU.2.2⟩
  · simp only [fX11_tipping, nr_f h1, bU_l, bU_r, if_neg h1, rn_some]
    first | exact ⟨trivial, FQ.rfl⟩ | exact ⟨rfl, FQ.rfl⟩
theorem M_tipping {k : Int32} (q : QM N V A S) : rn (fX12_tipping N k S) (fun r => MA k1 (aTipping V A k) r.1 (r.2.1 80 0) ∧ FP S r.2) := by
  have hn := q.2.2.1.1
  have hN := q.1
  have q0 := q.fp (zFP (k := 0))
  have hF := zFP (S := S) (k := 0)
  have h80 := q0.2.2.2.2.1
  have hz := z0 (S := S)
  unfold aTipping
  by_cases h1 : btw k 1 200
  · obtain ⟨m, rfl, hml, hm⟩ := btw_nat (l := 1) (h := 200) rfl rfl (by omega) (by omega) h1
    have xm : ix (iN m) = m := ix_iN (by omega)
    simp only [fX12_tipping, rn_lt, is_t hz h1, bI_s, if_pos h1, show ¬ ((1 : Int32) = 0) from by decide, if_false, rn_bV, fX12_hoursGo, rn_bT, xm]
    refine rn_mono q0.tries (fun U hU => ?_)
    obtain ⟨u1, uf⟩ := hU
    refine forG (f := fun n k s => fX12_hoursGo_2 N (iN m) n (iN k) s) m (J := fun k W => (0 < k → W.1 80 38 = tpK V A k) ∧ TM V A k W ∧ FH 64 (u2 S.1 80 0 0, S.2) W) ?_ ?_ N 0 U (Nat.zero_le _) ⟨fun hh => by omega, u1, uf⟩ (by omega)
    · rintro j W ⟨g1, g2, g3⟩
      simp only [fX12_hoursGo_2]
      rw [if_pos (Int32.le_refl _)]
      simp only [rn_some]
      exact ⟨⟨g3.t0.trans hz, g1 (by omega)⟩, hF.tr (FP.fh g3)⟩
    · rintro j k W hk ⟨g1, g2, g3⟩ ih
      have hii : ¬ iN m ≤ iN k := by rw [iN_le (by omega) (by omega)]; omega
      simp only [fX12_hoursGo_2, if_neg hii, rn_bV]
      refine rn_mono (q.hour g2) (fun Y hY => ?_)
      simp only [rn_lt, iN_1]
      exact ih Y ⟨fun _ => by rw [tpK_s]; exact hY.2.1.2.2.1, hY.1, g3.tr hY.2.2⟩
  · simp only [fX12_tipping, rn_lt, is_f hz (show (1 : Int32) ≠ 0 by decide) h1, bI_s, if_neg h1, rn_some, show ¬ ((1 : Int32) = 0) from by decide, if_false, if_true]
    exact ⟨by show u2 _ 80 0 _ 80 0 = _; rw [u2_at, upd_at]; decide, hF.tr zFP⟩
def aNext (V : Cv) (A : Rw) (c : Int32) : Int32 ⊕ String :=
  if inr c V.1 then (.inl (rfn (fnd (allP V A (1 <<< (c &&& 31))) 200 1))) else .inr nNSE
theorem C_next {c : Int32} (q : QC N V A S) : rn (fX11_next N c S) (fun r => r.1 = aNext V A c ∧ FQ S r.2) := by
  obtain ⟨p, hp⟩ := q.2.2.2.2
  have hn := q.2.2.1.1
  have hN := q.1
  unfold aNext
  by_cases h1 : inr c V.1
  · obtain ⟨d, hd, rfl⟩ := inr_c h1
    simp only [fX11_next, nc_t hp hn hd, bU_l, if_pos h1, rn_bI]
    refine rn_mono (C_first q) (fun r hr => ?_)
    rw [rn_some]
    exact ⟨by rw [hr.1], hr.2⟩
  · simp only [fX11_next, nc_f hp hn h1, bU_l, bU_r, if_neg h1, rn_some]
    first | exact ⟨trivial, FQ.rfl⟩ | exact ⟨rfl, FQ.rfl⟩
theorem M_next {c : Int32} (q : QM N V A S) : rn (fX12_next N c S) (fun r => MA k1 (aNext V A c) r.1 (r.2.1 80 0) ∧ FP S r.2) := by
  have hn := q.2.2.1.1
  have hN := q.1
  have q0 := q.fp (zFP (k := 0))
  have hF := zFP (S := S) (k := 0)
  have h80 := q0.2.2.2.2.1
  have hz := z0 (S := S)
  unfold aNext
  by_cases h1 : inr c V.1
  · obtain ⟨d, hd, rfl⟩ := inr_c h1
    simp only [fX12_next, rn_lt, ic_t hz hn h80 hd, bI_s, if_pos h1, show ¬ ((1 : Int32) = 0) from by decide, if_false, rn_bV, rn_bI]
    refine rn_mono q0.tries (fun U hU => ?_)
    refine rn_mono (M_allTip (f := 0) q (by omega) hU.1) (fun r hr => ?_)
    rw [rn_some]
    have g3 := hU.2.tr hr.2.1
    exact ⟨⟨g3.t0.trans hz, hr.1⟩, hF.tr (FP.fh g3)⟩
  · simp only [fX12_next, rn_lt, ic_f hz hn h80 h1, bI_s, if_neg h1, rn_some, show ¬ ((1 : Int32) = 0) from by decide, if_false, if_true]
    exact ⟨by show u2 _ 80 0 _ 80 0 = _; rw [u2_at, upd_at]; decide, hF.tr zFP⟩
def aTogether (V : Cv) (A : Rw) (x : Int32) : Int32 ⊕ String :=
  if bcu V.1 x then (.inl (rfn (fnd (allP V A x) 200 1))) else .inr nIAE
theorem C_together {x : Int32} (q : QC N V A S) : rn (fX11_together N x S) (fun r => r.1 = aTogether V A x ∧ FQ S r.2) := by
  obtain ⟨p, hp⟩ := q.2.2.2.2
  have hn := q.2.2.1.1
  have hN := q.1
  unfold aTogether
  by_cases h1 : bcu V.1 x
  · simp only [fX11_together, ns_t hp h1, bU_l, if_pos h1, rn_bI]
    refine rn_mono (C_first q) (fun r hr => ?_)
    rw [rn_some]
    exact ⟨by rw [hr.1], hr.2⟩
  · simp only [fX11_together, ns_f hp h1, bU_l, bU_r, if_neg h1, rn_some]
    first | exact ⟨trivial, FQ.rfl⟩ | exact ⟨rfl, FQ.rfl⟩
theorem M_together {x : Int32} (q : QM N V A S) : rn (fX12_together N x S) (fun r => MA k1 (aTogether V A x) r.1 (r.2.1 80 0) ∧ FP S r.2) := by
  have hn := q.2.2.1.1
  have hN := q.1
  have q0 := q.fp (zFP (k := 0))
  have hF := zFP (S := S) (k := 0)
  have h80 := q0.2.2.2.2.1
  have hz := z0 (S := S)
  unfold aTogether
  by_cases h1 : bcu V.1 x
  · simp only [fX12_together, rn_lt, so_t hz h80 h1, bI_s, if_pos h1, show ¬ ((1 : Int32) = 0) from by decide, if_false, rn_bV, rn_bI]
    refine rn_mono q0.tries (fun U hU => ?_)
    refine rn_mono (M_allTip (f := 0) q (by omega) hU.1) (fun r hr => ?_)
    rw [rn_some]
    have g3 := hU.2.tr hr.2.1
    exact ⟨⟨g3.t0.trans hz, hr.1⟩, hF.tr (FP.fh g3)⟩
  · simp only [fX12_together, rn_lt, so_f hz h80 h1, bI_s, if_neg h1, rn_some, show ¬ ((1 : Int32) = 0) from by decide, if_false, if_true]
    exact ⟨by show u2 _ 80 0 _ 80 0 = _; rw [u2_at, upd_at]; decide, hF.tr zFP⟩
end Q1
