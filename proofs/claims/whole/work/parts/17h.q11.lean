/-! ===== phase 2: years, the rest; sums ===== -/
theorem sumS_cg {f g : Nat → Int32} : ∀ n, (∀ c, c < n → f c = g c) → sumS f n = sumS g n
  | 0, _ => by rw [sumS, sumS]
  | n + 1, e => by rw [sumS, sumS, sumS_cg n (fun c hc => e c (by omega)), e n (by omega)]
theorem sumS_z {f : Nat → Int32} {n : Nat} : ∀ m, (∀ c, n ≤ c → c < n + m → f c = 0) → sumS f (n + m) = sumS f n
  | 0, _ => rfl
  | m + 1, e => by
    rw [← Nat.add_assoc, sumS_s, sumS_z m (fun c h1 h2 => e c h1 (by omega)), e (n + m) (by omega) (by omega), Int32.add_zero]
theorem sum9 {n : Nat} {A : Rw} (hw : WF n A) : sumS (A 1) 9 = sumS (A 1) n := by
  have hn := hw.1
  have := sumS_z (f := A 1) (n := n) (9 - n) (fun c h1 h2 => ((hw.2 c (by omega)).2.2.2.2.2.2.2 h1).2.1)
  have e : n + (9 - n) = 9 := by omega
  rw [e] at this
  exact this
theorem sum_r {n : Nat} {A : Rw} (hw : WF n A) : ∀ k, k ≤ 9 → 0 ≤ (sumS (A 1) k).toInt ∧ (sumS (A 1) k).toInt ≤ 30 * (k : Int)
  | 0, _ => by rw [sumS, z_ti]; omega
  | k + 1, h => by
    have ih := sum_r hw k (by omega)
    have h1 := (hw.2 k (by omega)).1
    have h2 := (hw.2 k (by omega)).2.1
    rw [sumS_s, ti_add (by omega) (by omega)]
    omega
theorem C_fillAll {N o n : Nat} {A : Rw} {S : PS} (hN : 30000 ≤ N) (ho : isCu o) (hw : WF n A) (h : CU o A S) : fX2_fillOfAll N o S = some (sumS (A 1) n, S) := by
  have key : ∀ c, c ≤ 9 → ∀ m, 9 < m + c → fX2_fillOfAll_4 N o m (sumS (A 1) c) (iN c) S = some (sumS (A 1) 9, iN 9, S) := by
    intro c hc m
    induction m generalizing c with
    | zero => intro h; omega
    | succ m ih =>
      intro hm
      rw [fX2_fillOfAll_4]
      by_cases e : c = 9
      · rw [e, if_pos (show (9 : Int32) ≤ iN 9 from Int32.le_refl _)]
      · have i9 : inr (iN c) 9 := inr_iN (by omega) (by omega)
        have x9 : ix (iN c) = c := ix_iN (by omega)
        rw [if_neg (by rw [i9l (by omega)]; omega), gd_t ho.ob, gd_t (ho.ar (k := 1) (by omega)), gd_t i9, lt_b, lt_b, x9, h.1 1 (by omega) c (by omega), ← sumS_s, iN_1]
        exact ih (c + 1) (by omega) (by omega)
  unfold fX2_fillOfAll
  have := key 0 (by omega) N (by omega)
  rw [sumS] at this
  rw [show fX2_fillOfAll_4 N o N 0 0 S = fX2_fillOfAll_4 N o N 0 (iN 0) S from rfl, this, ← sum9 hw]
  rfl
theorem M_fillAll {N b n : Nat} {A : Rw} {S : PS} (hN : 30000 ≤ N) (hb : b ≤ 64) (hw : WF n A) (hm : S.1 80 1 = iN n) (h : MR b n A S) : fX12_sumOf N (iN b) 10 S = some (sumS (A 1) n, S) := by
  have hn := hw.1
  have key : ∀ c, c ≤ n → ∀ m, n < m + c → fX12_sumOf_5 N (iN b) 10 m (sumS (A 1) c) (iN c) S = some (sumS (A 1) n, iN n, S) := by
    intro c hc m
    induction m generalizing c with
    | zero => intro h; omega
    | succ m ih =>
      intro hmm
      rw [fX12_sumOf_5, hm]
      by_cases e : c = n
      · rw [e, if_pos (Int32.le_refl _)]
      · have o10 : iN b + 10 + iN c = iN (b + 10 + c) := of_add b 10 c
        have i10 : inr (iN (b + 10 + c)) 128 := inr_iN (by omega) (by omega)
        have x10 : ix (iN (b + 10 + c)) = b + 10 + c := ix_iN (by omega)
        have r1 := sum_r hw (c + 1) (by omega)
        rw [if_neg (by rw [iN_le (by omega) (by omega)]; omega), o10, gd_t i10, x10, (h.2 c (by omega)).2.1, ← sumS_s]
        unfold fX12_lesser
        rw [lt_b, if_pos (by rw [le_ti, b_ti]; omega), bI_s, lt_b, iN_1]
        exact ih (c + 1) (by omega) (by omega)
  unfold fX12_sumOf
  have := key 0 (by omega) N (by omega)
  rw [sumS] at this
  rw [show fX12_sumOf_5 N (iN b) 10 N 0 0 S = fX12_sumOf_5 N (iN b) 10 N 0 (iN 0) S from rfl, this]
  rfl
section Q11
variable {N : Nat} {V : Cv} {A : Rw} {S : PS}
theorem C_timesAll {f : Nat → Int32} {p : Nat} (hN : 30000 ≤ N) (hn : V.1 ≤ 9) (hp : CE p V.1 V.2.2.1 V.2.2.2 V.2.1 S) (hf : ∀ c, c < 9 → S.1 28 c = f c) : fX3_timesOfAll N S = some (sumS f V.1, S) := by
  have key : ∀ c, c ≤ V.1 → ∀ n, V.1 < n + c → fX3_timesOfAll_4 N n (sumS f c) (iN c) S = some (sumS f V.1, iN V.1, S) := by
    intro c hc n
    induction n generalizing c with
    | zero => intro h; omega
    | succ n ih =>
      intro h
      have q := p_ob hp.1
      rw [fX3_timesOfAll_4, lt_b, hp.2.1, gd_t q.1, hp.2.2.1]
      by_cases e : c = V.1
      · rw [e, if_pos (Int32.le_refl _)]
      · have i9 : inr (iN c) 9 := inr_iN (by omega) (by omega)
        have x9 : ix (iN c) = c := ix_iN (by omega)
        rw [if_neg (by rw [iN_le (by omega) (by omega)]; omega), gd_t i9, lt_b, lt_b, x9, hf c (by omega), ← sumS_s, iN_1]
        exact ih (c + 1) (by omega) (by omega)
  unfold fX3_timesOfAll
  have := key 0 (Nat.zero_le _) N (by omega)
  rw [sumS] at this
  rw [show fX3_timesOfAll_4 N N 0 0 S = fX3_timesOfAll_4 N N 0 (iN 0) S from rfl, this]
  rfl
theorem yr_s {s : Int32} {k : Nat} : yrK V A s (k + 1) = ((yhK V A s k).1, (hapS V.1 (yrK V A s k).1 (yrK V A s k).2).2) := by rw [yrK]; rfl
theorem fst_mk {α β : Type} (a : α) (b : β) : (a, b).1 = a := rfl
theorem snd_mk {α β : Type} (a : α) (b : β) : (a, b).2 = b := rfl
theorem yr_1 {s : Int32} {k : Nat} : (yrK V A s (k + 1)).1 = (yhK V A s k).1 := (congrArg Prod.fst yr_s).trans (fst_mk _ _)
theorem yr_2 {s : Int32} {k : Nat} : (yrK V A s (k + 1)).2 = (hapS V.1 (yrK V A s k).1 (yrK V A s k).2).2 := (congrArg Prod.snd yr_s).trans (snd_mk _ _)
theorem M_y63 {s a b w v2 v6 : Int32} {f : Nat → Int32} {Y : PS} (hN : 30000 ≤ N) (hn : V.1 ≤ 9) (hm8 : Y.1 80 1 = iN V.1) (hf : ∀ c, c < V.1 → Y.1 96 c = f c) : fX12_years_63 N s v2 w b v6 N a 0 Y = some (a + sumS f V.1, iN V.1, Y) := by
  have key : ∀ c, c ≤ V.1 → ∀ n, V.1 < n + c → fX12_years_63 N s v2 w b v6 n (a + sumS f c) (iN c) Y = some (a + sumS f V.1, iN V.1, Y) := by
    intro c hc n
    induction n generalizing c with
    | zero => intro h; omega
    | succ n ih2 =>
      intro h
      rw [fX12_years_63, hm8]
      by_cases e : c = V.1
      · rw [e, if_pos (Int32.le_refl _)]
      · have i9 : inr (iN c) 9 := inr_iN (by omega) (by omega)
        have x9 : ix (iN c) = c := ix_iN (by omega)
        rw [if_neg (by rw [iN_le (by omega) (by omega)]; omega), gd_t i9, lt_b, lt_b, x9, hf c (by omega), Int32.add_assoc, ← sumS_s, iN_1]
        exact ih2 (c + 1) (by omega) (by omega)
  have k0 := key 0 (Nat.zero_le _) N (by omega)
  rw [sumS, Int32.add_zero] at k0
  exact k0
theorem M_yh {s : Int32} {k : Nat} {W : PS} (hN : 30000 ≤ N) (hn : V.1 ≤ 9) (hs : SPR V.2.1) (hw : WF V.1 A) (g3 : TM V (yrK V A s k).1 0 W) (g4 : W.1 80 53 = (yrK V A s k).2) : rn (bV (fX12_happens N W) fun S16 => fX12_hourGoes N 64 S16) (fun Y => TM V (yrK V A s (k + 1)).1 0 Y ∧ Y.1 80 53 = (yrK V A s (k + 1)).2 ∧ HM 64 V.1 (yhK V A s k) Y ∧ FD W Y) := by
  rw [rn_bV]
  refine rn_mono (M_hap hn (yr_WF (s := s) hs hw k) g3 g4) (fun U2 hU2 => ?_)
  have hwh : WF V.1 (hapS V.1 (yrK V A s k).1 (yrK V A s k).2).1 := hap_WF (yr_WF (s := s) hs hw k)
  refine rn_mono (M_step hN hs hwh hU2.1) (fun Y hY => ?_)
  obtain ⟨h1, h2, h3⟩ := hY
  have hrk : hrK V (hapS V.1 (yrK V A s k).1 (yrK V A s k).2).1 0 = yhK V A s k := by unfold hrK yhK; rw [rowK]
  rw [hrk] at h2
  refine ⟨⟨?_, h1.2⟩, ?_, h2, hU2.2.2.tr (FD.fh h3)⟩
  · rw [yr_1, rowK]; exact h2.1
  · rw [yr_2, h3.t53]; exact hU2.2.1
def aYears (V : Cv) (A : Rw) (s h w : Int32) : Int32 ⊕ String :=
  if btw w 0 2 then (if btw h 0 200 then (.inl (if w = 0 then sumS (ysT V A s (ix h)) V.1 else if w = 1 then sumS ((yrK V A s (ix h)).1 1) V.1 else cn9 (dryS (ysT V A s (ix h)) V.1))) else .inr nIAE) else .inr nNSE
theorem C_years {s h w : Int32} (q : QC N V A S) : rn (fX11_years N s h w S) (fun r => r.1 = aYears V A s h w ∧ FQ S r.2) := by
  obtain ⟨p, hp⟩ := q.2.2.2.2
  have hn := q.2.2.1.1
  have hN := q.1
  unfold aYears
  by_cases h1 : btw w 0 2
  · by_cases h2 : btw h 0 200
    · obtain ⟨m, rfl, hml, hm⟩ := btw_nat (l := 0) (h := 200) rfl rfl (by omega) (by omega) h2
      have xm : ix (iN m) = m := ix_iN (by omega)
      simp only [fX11_years, nw_t h1, nr_t h2, bU_l, if_pos h1, if_pos h2, rn_lt, rn_bV, rn_bT, xm]
      have q2 := q.fq (FQ.rfl.seed (x := s))
      refine rn_mono (C_lookT q2) (fun U hU => ?_)
      have hs0 : U.1 0 11 = s := by
        rw [hU.2.1 0 (by unfold hcC stC cuC; omega)]
        show u2 S.1 0 11 s 0 11 = s
        rw [u2_at, upd_at]
      refine forG (f := fun n k t => fX11_years_26 N s (iN m) w n (iN k) t) m (J := fun k W => (∃ L, TR V (yrK V A s k).1 (ysT V A s k) L 0 W) ∧ W.1 0 11 = (yrK V A s k).2 ∧ FQ S W) ?_ ?_ N 0 U (Nat.zero_le _) ⟨⟨0, by rw [yrK]; exact hU.1⟩, by rw [yrK]; exact hs0, FQ.rfl.seed.tr hU.2.fq⟩ (by omega)
      · rintro j W ⟨⟨L, g1⟩, g2, g3⟩
        simp only [fX11_years_26]
        rw [if_pos (Int32.le_refl _), rn_some]
        obtain ⟨p', hp'⟩ := g1.2.2.2.2.2
        have hwk := yr_WF (s := s) q.2.1 q.2.2.1 m
        have h28 : ∀ c, c < 9 → W.1 28 c = ysT V A s m c := fun c hc => by rw [g1.2.1 c hc, smT]
        by_cases e : w = 0
        · simp only [if_pos e, C_timesAll hN hn hp' h28, bI_s, rn_some]
          first | exact ⟨rfl, g3⟩ | exact ⟨trivial, g3⟩
        · by_cases e' : w = 1
          · have h20 : CU 20 (yrK V A s m).1 W := by have := g1.1; rw [rowK] at this; exact this
            simp only [if_neg e, if_pos e', lt_b, g1.2.2.2.2.1, gd_t is20.ob, C_fillAll hN is20 hwk h20, bI_s, rn_some]
            first | exact ⟨rfl, g3⟩ | exact ⟨trivial, g3⟩
          · simp only [if_neg e, if_neg e', C_nvr hN hn hp' h28, bI_s]
            have hcp := cn_cpl hn (dryS_bt (f := ysT V A s m) V.1 hn) (ysO_bt (s := s) q.2.1 q.2.2.1 m (by omega)) (fun c hc => ysT_hi q.2.1 q.2.2.1 hc m)
            obtain ⟨mm, hmm, hme⟩ := hcp.2
            rw [hme, bc_e hmm, bI_s, rn_some]
            exact ⟨rfl, g3⟩
      · rintro j k W hk ⟨⟨L, g1⟩, g2, g3⟩ ih
        have hii : ¬ iN m ≤ iN k := by rw [iN_le (by omega) (by omega)]; omega
        simp only [fX11_years_26, if_neg hii, rn_bV]
        refine rn_mono (C_hap hn (yr_WF (s := s) q.2.1 q.2.2.1 k) g1 g2) (fun U2 hU2 => ?_)
        have hwh : WF V.1 (hapS V.1 (yrK V A s k).1 (yrK V A s k).2).1 := hap_WF (yr_WF (s := s) q.2.1 q.2.2.1 k)
        refine rn_mono (C_goOnT (m := 1) hN q.2.1 hwh (by omega) hU2.1) (fun U3 hU3 => ?_)
        have t1 := TR_1 hU3.1
        simp only [rn_lt, iN_1]
        refine ih U3 ⟨⟨L + (hS V (hapS V.1 (yrK V A s k).1 (yrK V A s k).2).1).2.2.2.2, ?_⟩, ?_, (g3.tr hU2.2.2).tr (FT.fc hU3.2).fq⟩
        · have e1 : (fun c => ysT V A s k c + (hS V (hapS V.1 (yrK V A s k).1 (yrK V A s k).2).1).2.2.1 c) = ysT V A s (k + 1) := by
            funext c
            rw [ysT]
            rfl
          rw [yr_1, ← e1]
          exact t1
        · rw [yr_2, hU3.2.1 0 (by unfold hcC stC cuC; omega)]
          exact hU2.2.1
    · simp only [fX11_years, nw_t h1, nr_f h2, bU_l, bU_r, if_pos h1, if_neg h2, rn_some]
      first | exact ⟨trivial, FQ.rfl⟩ | exact ⟨rfl, FQ.rfl⟩
  · simp only [fX11_years, nw_f h1, bU_l, bU_r, if_neg h1, rn_some]
    first | exact ⟨trivial, FQ.rfl⟩ | exact ⟨rfl, FQ.rfl⟩
theorem M_years {s h w : Int32} (q : QM N V A S) : rn (fX12_years N s h w S) (fun r => MA k2 (aYears V A s h w) r.1 (r.2.1 80 0) ∧ FP S r.2) := by
  have hn := q.2.2.1.1
  have hN := q.1
  have q0 := q.fp (zFP (k := 0))
  have hF := zFP (S := S) (k := 0)
  have h80 := q0.2.2.2.2.1
  have hz := z0 (S := S)
  unfold aYears
  by_cases h1 : btw w 0 2
  · by_cases h2 : btw h 0 200
    · obtain ⟨m, rfl, hml, hm⟩ := btw_nat (l := 0) (h := 200) rfl rfl (by omega) (by omega) h2
      have xm : ix (iN m) = m := ix_iN (by omega)
      simp only [fX12_years, rn_lt, iw_t hz h1, is_t hz h2, bI_s, if_pos h1, if_pos h2, show ¬ ((1 : Int32) = 0) from by decide, if_false, rn_bV, rn_bT, xm]
      refine rn_mono q0.tries (fun U hU => ?_)
      refine for3 (f := fun n k a b t => fX12_years_44 N s (iN m) w n a b (iN k) t) m (J := fun k a b W => a = sumS (ysT V A s k) V.1 ∧ b = ysO V A s k ∧ TM V (yrK V A s k).1 0 W ∧ W.1 80 53 = (yrK V A s k).2 ∧ FD (u2 S.1 80 0 0, S.2) W) ?_ ?_ N 0 0 0 _ (Nat.zero_le _) ⟨?_, by rw [ysO], by rw [yrK]; exact TM_fd hU.1, by rw [yrK]; show u2 U.1 80 53 s 80 53 = s; rw [u2_at, upd_at], (FD.fh hU.2).s⟩ (by omega)
      · rintro j a b W ⟨g1, g2, g3, g4, g5⟩
        simp only [fX12_years_44]
        rw [if_pos (Int32.le_refl _), rn_some]
        have t0 : W.1 80 0 = 0 := g5.t0.trans hz
        have hwk := yr_WF (s := s) q.2.1 q.2.2.1 m
        have hcp := cn_cpl hn (dryS_bt (f := ysT V A s m) V.1 hn) (ysO_bt (s := s) q.2.1 q.2.2.1 m (by omega)) (fun c hc => ysT_hi q.2.1 q.2.2.1 hc m)
        by_cases e : w = 0
        · simp only [if_pos e, rn_some]
          exact ⟨⟨t0, g1⟩, hF.tr g5.fp⟩
        · by_cases e' : w = 1
          · have hmr : MR 64 V.1 (yrK V A s m).1 W := by have := g3.1; rw [rowK] at this; exact this
            simp only [if_neg e, if_pos e']
            rw [show fX12_sumOf N 64 10 W = fX12_sumOf N (iN 64) 10 W from rfl, M_fillAll hN (by omega) hwk g3.2.1 hmr, bI_s, rn_some]
            exact ⟨⟨t0, rfl⟩, hF.tr g5.fp⟩
          · simp only [if_neg e, if_neg e', mb_e hN, bI_s, rn_some]
            refine ⟨⟨t0, ?_⟩, hF.tr g5.fp⟩
            rw [g3.2.1, g2, hcp.1]
      · rintro j k a b W hk ⟨g1, g2, g3, g4, g5⟩ ih
        have hii : ¬ iN m ≤ iN k := by rw [iN_le (by omega) (by omega)]; omega
        simp only [fX12_years_44, if_neg hii, rn_bV, rn_bT, rn_lt, iN_1]
        have hst := M_yh (s := s) (k := k) hN hn q.2.1 q.2.2.1 g3 g4
        rw [rn_bV] at hst
        refine rn_mono hst (fun U2 hU2 => ?_)
        refine rn_mono hU2 (fun Y hY => ?_)
        obtain ⟨y1, y2, y3, y4⟩ := hY
        rw [M_y63 (f := (yhK V A s k).2.2.1) hN hn y1.2.1 (fun c hc => (y3.2.1 c hc).2), rn_some]
        refine ih _ _ Y ⟨?_, ?_, y1, y2, g5.tr y4⟩
        · have e1 := sumS_add (f := ysT V A s k) (g := (yhK V A s k).2.2.1) (h := ysT V A s (k + 1)) (fun c => by rw [ysT]) V.1
          rw [e1, g1]
        · rw [ysO, g2, y3.2.2.1]
      · have : ∀ n, sumS (ysT V A s 0) n = 0 := by
          intro n
          induction n with
          | zero => rw [sumS]
          | succ n ih => rw [sumS, ih, ysT]; rfl
        rw [this]
    · simp only [fX12_years, rn_lt, iw_t hz h1, is_f hz (show (2 : Int32) ≠ 0 by decide) h2, bI_s, if_pos h1, if_neg h2, rn_some, show ¬ ((1 : Int32) = 0) from by decide, if_false, if_true]
      exact ⟨by show u2 _ 80 0 _ 80 0 = _; rw [u2_at, upd_at]; decide, hF.tr zFP⟩
  · simp only [fX12_years, rn_lt, iw_f hz h1, bI_s, if_neg h1, rn_some, show ¬ ((1 : Int32) = 0) from by decide, if_false, if_true]
    exact ⟨by show u2 _ 80 0 _ 80 0 = _; rw [u2_at, upd_at]; decide, hF.tr zFP⟩
end Q11
