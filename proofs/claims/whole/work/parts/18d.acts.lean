/-! ===== phase 2: lead, plug, pour, crack ===== -/
section ACTS
variable {N : Nat} {G : Gs} {S : PS}
def kpG (G : Gs) (A : Rw) : Gs := nwG G (A, (kpM G.2.1).2)
theorem GW_kp {A : Rw} (h : GW G) (hw : WF G.1.1 A) : GW (kpG G A) := GW_now h ⟨hw, (kpM_WM h.2.1).2⟩
theorem actC {A' : Rw} {U W : PS} (hi : IC G S) (u1 : CMi 18 8 34 10 36 37 (kpM G.2.1) U) (u2 : FC (fun a => a = 8 ∨ a = 34) S U) (w1 : CU 18 A' W) (w2 : FC (cuC 18) U W) : IC (kpG G A') W ∧ MS S W := by
  have hF : FC (fun a => a = 8 ∨ a = 34 ∨ cuC 18 a) S W := (u2.mono (fun a ha => by omega)).tr (w2.mono (fun a ha => Or.inr (Or.inr ha)))
  refine ⟨IC_now hi (PN_fc hF (fun a ha => ?_)) (CMi_row u1 w1 (fun a ha => w2.1 a (by unfold cuC; omega))), MS_fc hF (fun a ha => by unfold cuC at ha; omega)⟩
  unfold cuC at ha
  unfold nowC pc ceC
  omega
theorem actM {A' : Rw} {T U W : PS} (hi : IM G T) (u1 : MMS G.1.1 (kpM G.2.1) U) (u2 : FM (fun a => a = 92) (fun k => k = 33) T U) (w1 : MR 0 G.1.1 A' W) (w2 : FH 0 U W) : IM (kpG G A') W ∧ CS T W ∧ W.1 80 0 = T.1 80 0 := by
  have pU : PMn T U := PMn.fm u2 (fun a ha => Or.inr (Or.inl ha)) (fun k hk => Or.inr (Or.inl hk))
  have f1 := PMn_fh w2
  refine ⟨IM_now hi (pU.tr f1.1) (MMS_row u1 w1 (w2.1.1 92 (by decide) (by unfold hcM; omega)) (w2.1.1 105 (by decide) (by unfold hcM; omega)) (w2.1.2.1 33 (by unfold hfM; omega)) (w2.1.2.1 49 (by unfold hfM; omega))), (CS_fm u2 (fun a ha => by omega)).tr f1.2, ?_⟩
  rw [w2.t0]
  exact u2.2.1 0 (by decide)
/-- what every such call begins with -/
theorem cup_C (hg : GW G) (hi : IC G S) : ∃ p, CE p G.1.1 G.1.2.2.1 G.1.2.2.2 G.1.2.1 S := by
  obtain ⟨p, hp, -⟩ := hi.1
  exact ⟨p, hp⟩
theorem refC (hi : IC G S) : rn (fX11_refuseAct N S) (fun q => q.1 = -1 ∧ IC (rfG G 1) q.2 ∧ MS S q.2) := by
  have := IC_rf (k := 1) hi (by omega)
  simp only [fX11_refuseAct, rn_lt, rn_some]
  exact ⟨trivial, this.1, this.2⟩
/-! crack -/
def aCrack (G : Gs) (c h : Int32) : Int32 ⊕ String := if inr c G.1.1 then (if btw h 1 30 then (if G.2.1.1 0 (ix c) = h then .inl (-1) else .inl (G.2.1.1 0 (ix c))) else .inl (-1)) else .inr nNSE
def nCrack (G : Gs) (c h : Int32) : Gs := if inr c G.1.1 then (if btw h 1 30 then (if G.2.1.1 0 (ix c) = h then rfG G 1 else kpG G (crkS G.2.1.1 (ix c) h)) else rfG G 1) else G
theorem GW_crack {c h : Int32} (hg : GW G) : GW (nCrack G c h) := by
  unfold nCrack
  split
  · rename_i h1
    obtain ⟨d, hd, rfl⟩ := inr_c h1
    have hn := hg.2.1.1.1
    have xd : ix (iN d) = d := ix_iN (by omega)
    split
    · rename_i h2
      split
      · exact hg
      · refine GW_kp hg (crk_WF hg.2.1.1 (by omega) ?_)
        have a := h2.1
        have b := h2.2
        rw [le_ti, o_ti] at a
        rw [le_ti, show (30 : Int32).toInt = 30 from by decide] at b
        exact ⟨a, b⟩
    · exact hg
  · exact hg
theorem C_crack {c h : Int32} (hg : GW G) (hi : IC G S) : rn (fX11_crack N c h S) (fun q => q.1 = aCrack G c h ∧ IC (nCrack G c h) q.2 ∧ MS S q.2) := by
  obtain ⟨p, hp⟩ := cup_C hg hi
  have hn := hg.2.1.1.1
  have hcu := hi.2.1.1
  unfold aCrack nCrack
  by_cases h1 : inr c G.1.1
  · obtain ⟨d, hd, rfl⟩ := inr_c h1
    have i9 : inr (iN d) 9 := inr_iN (by omega) (by omega)
    have xd : ix (iN d) = d := ix_iN (by omega)
    have h50 : S.1 50 d = G.2.1.1 0 d := hcu.1 0 (by omega) d (by omega)
    simp only [fX11_crack, nc_t hp hn hd, bU_l, gd_t i9, lt_b, xd, h50, if_pos h1]
    by_cases h2 : btw h 1 30
    · simp only [if_neg (Int32.not_lt.mpr h2.1), if_neg (Int32.not_lt.mpr h2.2), if_pos h2]
      by_cases h3 : G.2.1.1 0 d = h
      · rw [if_pos h3.symm, if_pos h3, if_pos h3, rn_bI]
        refine rn_mono (refC hi) (fun q hq => ?_)
        rw [rn_some]
        exact ⟨by rw [hq.1], hq.2⟩
      · rw [if_neg (Ne.symm h3), if_neg h3, if_neg h3, rn_bV]
        refine rn_mono (C_keep hg.2.1.2.1.1 hi.2.1) (fun U hU => ?_)
        rw [rn_bV]
        have cU : CU 18 G.2.1.1 U := hU.1.1
        refine rn_mono (C_holds is18 (by omega) cU) (fun W hW => ?_)
        rw [rn_some]
        have := actC hi hU.1 hU.2 hW.1 hW.2
        exact ⟨rfl, this.1, this.2⟩
    · rw [if_neg h2, if_neg h2]
      by_cases h3 : h < 1
      · rw [if_pos h3, rn_bI]
        refine rn_mono (refC hi) (fun q hq => ?_)
        rw [rn_some]
        exact ⟨by rw [hq.1], hq.2⟩
      · rw [if_neg h3, if_pos (Int32.not_le.mp (fun e => h2 ⟨Int32.not_lt.mp h3, e⟩)), rn_bI]
        refine rn_mono (refC hi) (fun q hq => ?_)
        rw [rn_some]
        exact ⟨by rw [hq.1], hq.2⟩
  · simp only [fX11_crack, nc_f hp hn h1, bU_r, if_neg h1, rn_some]
    exact ⟨trivial, hi, MS.rfl⟩
theorem M_crack {c h : Int32} (hN : 30000 ≤ N) (hg : GW G) (hi : IM G S) : rn (fX12_crack N c h S) (fun q => MA k1 (aCrack G c h) q.1 (q.2.1 80 0) ∧ IM (nCrack G c h) q.2 ∧ CS S q.2) := by
  have hn := hg.2.1.1.1
  have hi0 := IM_z (k := 0) hg hi
  have hC0 : CS S (u2 S.1 80 0 0, S.2) := zFP.2
  have hz := z0 (S := S)
  unfold aCrack nCrack fX12_crack
  refine rn_l (fun T eT => ?_)
  rw [← eT] at hi0 hC0 hz
  clear eT
  have h80 : T.1 80 1 = iN G.1.1 := hi0.1.1
  by_cases h1 : inr c G.1.1
  · obtain ⟨d, hd, rfl⟩ := inr_c h1
    have xd : ix (iN d) = d := ix_iN (by omega)
    have o1 : (1 : Int32) + iN d = iN (0 + 1 + d) := by rw [show (1 : Int32) = iN 1 from rfl, iN_add]
    have i1 : inr (iN (0 + 1 + d)) 128 := inr_iN (by omega) (by omega)
    have x1 : ix (iN (0 + 1 + d)) = 0 + 1 + d := ix_iN (by omega)
    have hr : T.1 91 (0 + 1 + d) = G.2.1.1 0 d := (hi0.2.1.1.2 d hd).1
    simp only [ic_t hz hn h80 hd, bI_s, show ¬ ((1 : Int32) = 0) from by decide, if_false, o1, gd_t i1, x1, lt_b, hr, if_pos h1, xd]
    by_cases h2 : btw h 1 30
    · simp only [wi_t h2, bI_s, show ¬ ((1 : Int32) = 0) from by decide, if_false, if_pos h2]
      by_cases h3 : G.2.1.1 0 d = h
      · rw [if_pos h3, if_pos h3, if_pos h3, rn_bI]
        refine rn_mono (M_ref (k := 1) (by omega) hi0) (fun q hq => ?_)
        rw [rn_some]
        exact ⟨⟨hq.2.2.2.trans hz, hq.1⟩, hq.2.1, hC0.tr hq.2.2.1⟩
      · rw [if_neg h3, if_neg h3, if_neg h3, rn_bV]
        refine rn_mono (M_keeps hN hn hg.2.1.2.1.1 hi0.2.1) (fun U hU => ?_)
        rw [rn_bV]
        refine rn_mono (M_cracks (b := 0) hn (by omega) hd hU.1.1) (fun W hW => ?_)
        rw [rn_some]
        have := actM hi0 hU.1 hU.2 hW.1 hW.2
        exact ⟨⟨this.2.2.trans hz, rfl⟩, this.1, hC0.tr this.2.1⟩
    · simp only [wi_f h2, bI_s, if_true, if_neg h2, rn_bI]
      refine rn_mono (M_ref (k := 1) (by omega) hi0) (fun q hq => ?_)
      rw [rn_some]
      exact ⟨⟨hq.2.2.2.trans hz, hq.1⟩, hq.2.1, hC0.tr hq.2.2.1⟩
  · simp only [ic_f hz hn h80 h1, bI_s, if_true, if_neg h1, rn_some]
    refine ⟨?_, IM_z hg hi0, hC0.tr zFP.2⟩
    show u2 T.1 80 0 1 80 0 = 1
    rw [u2_at, upd_at]
/-! plug -/
def aPlug (G : Gs) (c v : Int32) : Int32 ⊕ String := if inr c G.1.1 then (if G.2.1.1 5 (ix c) = v then .inl 0 else .inl 1) else .inr nNSE
def nPlug (G : Gs) (c v : Int32) : Gs := if inr c G.1.1 then (if G.2.1.1 5 (ix c) = v then rfG G 1 else kpG G (u2 G.2.1.1 5 (ix c) v)) else G
theorem GW_plug {c v : Int32} (hv : v = 0 ∨ v = 1) (hg : GW G) : GW (nPlug G c v) := by
  unfold nPlug
  split
  · rename_i h1
    obtain ⟨d, hd, rfl⟩ := inr_c h1
    have hn := hg.2.1.1.1
    have xd : ix (iN d) = d := ix_iN (by omega)
    split
    · exact hg
    · exact GW_kp hg (plg_WF hg.2.1.1 (by omega) hv)
  · exact hg
theorem C_plugG {c v : Int32} (hv : v = 0 ∨ v = 1) (hg : GW G) (hi : IC G S) : rn (fX11_plug N c v S) (fun q => q.1 = aPlug G c v ∧ IC (nPlug G c v) q.2 ∧ MS S q.2) := by
  obtain ⟨p, hp⟩ := cup_C hg hi
  have hn := hg.2.1.1.1
  have hcu := hi.2.1.1
  unfold aPlug nPlug
  by_cases h1 : inr c G.1.1
  · obtain ⟨d, hd, rfl⟩ := inr_c h1
    have xd : ix (iN d) = d := ix_iN (by omega)
    simp only [fX11_plug, nc_t hp hn hd, bU_l, plug_bt is18 hcu (show d < 9 by omega), bI_s, xd, if_pos h1]
    by_cases h3 : G.2.1.1 5 d = v
    · rw [if_pos h3, if_pos h3, if_pos h3, rn_bI]
      refine rn_mono (refC hi) (fun q hq => ?_)
      rw [rn_some]
      exact ⟨rfl, hq.2⟩
    · rw [if_neg h3, if_neg h3, if_neg h3, rn_bV]
      refine rn_mono (C_keep hg.2.1.2.1.1 hi.2.1) (fun U hU => ?_)
      rw [rn_bV]
      have cU : CU 18 G.2.1.1 U := hU.1.1
      refine rn_mono (C_plug (v := v) is18 (show d < 9 by omega) cU) (fun W hW => ?_)
      rw [rn_some]
      have ev : (if v = 0 then (0 : Int32) else 1) = v := by rcases hv with e | e <;> rw [e] <;> decide
      rw [ev] at hW
      have := actC hi hU.1 hU.2 hW.1 hW.2
      exact ⟨rfl, this.1, this.2⟩
  · simp only [fX11_plug, nc_f hp hn h1, bU_r, if_neg h1, rn_some]
    exact ⟨trivial, hi, MS.rfl⟩
theorem M_plug {c v : Int32} (hv : v = 0 ∨ v = 1) (hN : 30000 ≤ N) (hg : GW G) (hi : IM G S) : rn (fX12_plug N c v S) (fun q => MA k1 (aPlug G c v) q.1 (q.2.1 80 0) ∧ IM (nPlug G c v) q.2 ∧ CS S q.2) := by
  have hn := hg.2.1.1.1
  have hi0 := IM_z (k := 0) hg hi
  have hC0 : CS S (u2 S.1 80 0 0, S.2) := zFP.2
  have hz := z0 (S := S)
  unfold aPlug nPlug fX12_plug
  refine rn_l (fun T eT => ?_)
  rw [← eT] at hi0 hC0 hz
  clear eT
  have h80 : T.1 80 1 = iN G.1.1 := hi0.1.1
  by_cases h1 : inr c G.1.1
  · obtain ⟨d, hd, rfl⟩ := inr_c h1
    have xd : ix (iN d) = d := ix_iN (by omega)
    have o1 : (55 : Int32) + iN d = iN (0 + 55 + d) := by rw [show (55 : Int32) = iN 55 from rfl, iN_add]
    have i1 : inr (iN (0 + 55 + d)) 128 := inr_iN (by omega) (by omega)
    have x1 : ix (iN (0 + 55 + d)) = 0 + 55 + d := ix_iN (by omega)
    have hr : T.1 91 (0 + 55 + d) = G.2.1.1 5 d := (hi0.2.1.1.2 d hd).2.2.2.2.2.1
    have h01 := (hg.2.1.1.2 d (by omega)).2.2.2.2.2.1
    have ex : (if G.2.1.1 5 d = 1 then (1 : Int32) else 0) = G.2.1.1 5 d := by rcases h01 with e | e <;> rw [e] <;> decide
    have ev : (if v = 0 then (0 : Int32) else 1) = v := by rcases hv with e | e <;> rw [e] <;> decide
    simp only [ic_t hz hn h80 hd, bI_s, show ¬ ((1 : Int32) = 0) from by decide, if_false, o1, gd_t i1, x1, lt_b, hr, ex, ev, if_pos h1, xd]
    by_cases h3 : G.2.1.1 5 d = v
    · rw [if_pos h3, if_pos h3, if_pos h3, rn_bI]
      refine rn_mono (M_ref (k := 1) (by omega) hi0) (fun q hq => ?_)
      rw [hq.1, rn_gd, rn_some]
      exact ⟨Or.inl (by decide), ⟨hq.2.2.2.trans hz, (by show (if (-1 : Int32) ≤ 0 then (0 : Int32) else 1) = 0; decide)⟩, hq.2.1, hC0.tr hq.2.2.1⟩
    · rw [if_neg h3, if_neg h3, if_neg h3, rn_bV]
      refine rn_mono (M_keeps hN hn hg.2.1.2.1.1 hi0.2.1) (fun U hU => ?_)
      rw [rn_some]
      have mU : MR 0 G.1.1 G.2.1.1 U := hU.1.1
      have := actM (W := (u2 U.1 91 (0 + 55 + d) v, U.2)) hi0 hU.1 hU.2 (mU.u5 hn hd) (FH.rfl.r (by omega) (by omega))
      exact ⟨⟨this.2.2.trans hz, rfl⟩, this.1, hC0.tr this.2.1⟩
  · simp only [ic_f hz hn h80 h1, bI_s, if_true, if_neg h1, rn_some]
    refine ⟨?_, IM_z hg hi0, hC0.tr zFP.2⟩
    show u2 T.1 80 0 1 80 0 = 1
    rw [u2_at, upd_at]
/-! pour -/
def poR (G : Gs) (c : Nat) (d : Int32) : Hs := upP G.1.1 (X0 G.2.1.1 c d 0)
def aPour (G : Gs) (c d : Int32) : Int32 ⊕ String := if inr c G.1.1 then (if btw d 1 50 then .inl ((poR G (ix c) d).2.2.1 (ix c)) else .inl (-1)) else .inr nNSE
def nPour (G : Gs) (c d : Int32) : Gs := if inr c G.1.1 then (if btw d 1 50 then kpG G (poR G (ix c) d).1 else rfG G 1) else G
theorem d50 {d : Int32} (h : btw d 1 50) : 0 ≤ d.toInt ∧ d.toInt ≤ 50 := by
  have a := h.1
  have b := h.2
  rw [le_ti, o_ti] at a
  rw [le_ti, show (50 : Int32).toInt = 50 from by decide] at b
  omega
theorem GW_pour {c d : Int32} (hg : GW G) : GW (nPour G c d) := by
  unfold nPour
  split
  · split
    · rename_i h1 h2
      refine GW_kp hg ?_
      exact (HI_upP (HI_X0 (c := ix c) (l := 0) hg.2.1.1 (d50 h2)) G.1.1 (Nat.le_refl _)).1
    · exact hg
  · exact hg
theorem C_pour {c d : Int32} (hN : 30000 ≤ N) (hg : GW G) (hi : IC G S) : rn (fX11_pour N c d S) (fun q => q.1 = aPour G c d ∧ IC (nPour G c d) q.2 ∧ MS S q.2) := by
  obtain ⟨p, hp⟩ := cup_C hg hi
  have hn := hg.2.1.1.1
  have hcu := hi.2.1.1
  unfold aPour nPour
  by_cases h1 : inr c G.1.1
  · obtain ⟨e, he, rfl⟩ := inr_c h1
    have i9 : inr (iN e) 9 := inr_iN (by omega) (by omega)
    have xe : ix (iN e) = e := ix_iN (by omega)
    simp only [fX11_pour, nc_t hp hn he, bU_l, xe, if_pos h1]
    by_cases h2 : btw d 1 50
    · simp only [if_neg (Int32.not_lt.mpr h2.1), if_pos h2.2, if_pos h2, rn_bV]
      refine rn_mono (C_keep hg.2.1.2.1.1 hi.2.1) (fun U hU => ?_)
      obtain ⟨u1, u2⟩ := hU
      refine rn_mono (C_workOn hN) (fun W hW => ?_)
      obtain ⟨w1, w2, w3, w4, w5, w6⟩ := hW
      have cU : CU 18 G.2.1.1 U := u1.1
      have cW : CU 18 G.2.1.1 W := cU.fr is18 (cs := fun a => a = 5 ∨ a = 28) (fun a ha => w5 a (by omega) (by omega)) (fun a ha => by unfold cuC at ha; omega)
      have pW : CE p G.1.1 G.1.2.2.1 G.1.2.2.2 G.1.2.1 W := by
        refine hp.ce (fun a ha => ?_) ?_
        · rw [w5 a (by unfold ceC at ha; omega) (by unfold ceC at ha; omega)]
          exact u2.1 a (by unfold ceC at ha; omega)
        · rw [w6, ← u2.2]
          show u2R U.2.2 5 4 18 5 3 = _
          simp [u2R]
      refine rn_mono (C_fillUp (T := fun _ => 0) (L := 0) hN is18 hg.2.1.1 he (d50 h2) w4 pW cW w1 w2) (fun Y hY => ?_)
      obtain ⟨y1, y2⟩ := hY
      rw [gd_t i9, rn_some]
      have same : ∀ a, ¬ hcC 18 a → a ≠ 8 → a ≠ 34 → Y.1 a = S.1 a := fun a h1 h2 h3 => by
        rw [y2.1 a h1, w5 a (by unfold hcC at h1; omega) (by unfold hcC at h1; omega)]
        exact u2.1 a (by omega)
      have y22 : Y.2 = (S.2.1, u2R S.2.2 5 4 18) := by rw [y2.2, w6, u2.2]
      refine ⟨?_, IC_now hi ⟨fun a ha hb => same a (by unfold pc ceC at ha; unfold nowC at hb; unfold hcC stC cuC; omega) (by unfold nowC at hb; omega) (by unfold nowC at hb; omega), ⟨?_, ?_, ?_⟩, ?_, ?_⟩ (CMi_row u1 y1.1 (fun a ha => ?_)), fun a ha => ⟨same a (by unfold hcC stC cuC; omega) (by omega) (by omega), ?_, ?_⟩⟩
      · rw [(y1.2.1 e (by omega)).2, Int32.zero_add]
        rfl
      · rw [same 0 (by unfold hcC stC cuC; omega) (by omega) (by omega)]
      · rw [same 0 (by unfold hcC stC cuC; omega) (by omega) (by omega)]
      · rw [same 2 (by unfold hcC stC cuC; omega) (by omega) (by omega)]
      · rw [y22]; show u2R S.2.2 5 4 18 5 3 = _; simp [u2R]
      · rw [y22]; show u2R S.2.2 5 4 18 1 1 = _; simp [u2R]
      · rw [y2.1 a (by unfold hcC stC cuC; omega)]
        exact w5 a (by omega) (by omega)
      · rw [y22]
      · rw [y22]; show u2R S.2.2 5 4 18 a = _; unfold u2R; rw [if_neg (by omega)]
    · rw [if_neg h2, if_neg h2]
      by_cases h3 : d < 1
      · rw [if_pos h3, rn_bI]
        refine rn_mono (refC hi) (fun q hq => ?_)
        rw [rn_some]
        exact ⟨by rw [hq.1], hq.2⟩
      · rw [if_neg h3, if_neg (fun e => h2 ⟨Int32.not_lt.mp h3, e⟩), rn_bI]
        refine rn_mono (refC hi) (fun q hq => ?_)
        rw [rn_some]
        exact ⟨by rw [hq.1], hq.2⟩
  · simp only [fX11_pour, nc_f hp hn h1, bU_r, if_neg h1, rn_some]
    exact ⟨trivial, hi, MS.rfl⟩
theorem M_pour {c d : Int32} (hN : 30000 ≤ N) (hg : GW G) (hi : IM G S) : rn (fX12_pour N c d S) (fun q => MA k1 (aPour G c d) q.1 (q.2.1 80 0) ∧ IM (nPour G c d) q.2 ∧ CS S q.2) := by
  have hn := hg.2.1.1.1
  have hi0 := IM_z (k := 0) hg hi
  have hC0 : CS S (u2 S.1 80 0 0, S.2) := zFP.2
  have hz := z0 (S := S)
  unfold aPour nPour fX12_pour
  refine rn_l (fun T eT => ?_)
  rw [← eT] at hi0 hC0 hz
  clear eT
  have h80 : T.1 80 1 = iN G.1.1 := hi0.1.1
  by_cases h1 : inr c G.1.1
  · obtain ⟨e, he, rfl⟩ := inr_c h1
    have xe : ix (iN e) = e := ix_iN (by omega)
    simp only [ic_t hz hn h80 he, bI_s, show ¬ ((1 : Int32) = 0) from by decide, if_false, if_pos h1, xe]
    by_cases h2 : btw d 1 50
    · simp only [wi_t h2, bI_s, show ¬ ((1 : Int32) = 0) from by decide, if_false, if_pos h2, rn_bV, rn_bI]
      refine rn_mono (M_keeps hN hn hg.2.1.2.1.1 hi0.2.1) (fun U hU => ?_)
      have pU : PMn T U := PMn.fm hU.2 (fun a ha => Or.inr (Or.inl ha)) (fun k hk => Or.inr (Or.inl hk))
      have mU : MR 0 G.1.1 G.2.1.1 U := hU.1.1
      refine rn_mono (M_pours (b := 0) hN (by omega) hg.2.1.1 he (d50 h2) (ME_pmn hi0.1 pU) mU) (fun W hW => ?_)
      rw [rn_some]
      have := actM hi0 hU.1 hU.2 hW.2.1 hW.2.2
      exact ⟨⟨this.2.2.trans hz, hW.1⟩, this.1, hC0.tr this.2.1⟩
    · simp only [wi_f h2, bI_s, if_true, if_neg h2, rn_bI]
      refine rn_mono (M_ref (k := 1) (by omega) hi0) (fun q hq => ?_)
      rw [rn_some]
      exact ⟨⟨hq.2.2.2.trans hz, hq.1⟩, hq.2.1, hC0.tr hq.2.2.1⟩
  · simp only [ic_f hz hn h80 h1, bI_s, if_true, if_neg h1, rn_some]
    refine ⟨?_, IM_z hg hi0, hC0.tr zFP.2⟩
    show u2 T.1 80 0 1 80 0 = 1
    rw [u2_at, upd_at]
end ACTS
