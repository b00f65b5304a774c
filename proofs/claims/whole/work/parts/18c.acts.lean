/-! ===== phase 2: hours, undo ===== -/
def nwG (G : Gs) (M : Mi) : Gs := (G.1, M, G.2.2)
def rfG (G : Gs) (k : Nat) : Gs := (G.1, G.2.1, G.2.2.1, upd G.2.2.2.1 k (G.2.2.2.1 k + 1), G.2.2.2.2)
theorem GW_now {G : Gs} {M : Mi} (h : GW G) (hm : WM G.1.1 M) : GW (nwG G M) := ⟨h.1, hm, h.2.2⟩
theorem GW_rf {G : Gs} {k : Nat} (h : GW G) : GW (rfG G k) := h
theorem CS_fm {cs fs : Nat → Prop} {S T : PS} (h : FM cs fs S T) (hc : ∀ a, cs a → 80 ≤ a ∧ a < 111) : CS S T :=
  fun a ha => ⟨h.1 a (by omega) (fun e => by have := hc a e; omega), by rw [h.2.2], by rw [h.2.2]⟩
theorem MS_fc {cs : Nat → Prop} {S T : PS} (h : FC cs S T) (hc : ∀ a, cs a → a < 80) : MS S T :=
  fun a ha => ⟨h.1 a (fun e => by have := hc a e; omega), by rw [h.2], by rw [h.2]⟩
theorem IC_rf {G : Gs} {S : PS} {k : Nat} (h : IC G S) (hk : k < 3) : IC (rfG G k) (u2 S.1 23 k (S.1 23 k + 1), S.2) ∧ MS S (u2 S.1 23 k (S.1 23 k + 1), S.2) := by
  have hF : FC (fun a => a = 23) S (u2 S.1 23 k (S.1 23 k + 1), S.2) := FC.rfl.u rfl
  have e23 : (u2 S.1 23 k (S.1 23 k + 1)) 23 = upd (S.1 23) k (S.1 23 k + 1) := u2_at
  refine ⟨?_, MS_fc hF (fun a ha => by omega)⟩
  obtain ⟨⟨p, h1, h2⟩, h3, h4, h5, h6, h7, h8⟩ := h
  have r : ∀ a, a ≠ 23 → u2 S.1 23 k (S.1 23 k + 1) a = S.1 a := fun a ha => u2_o ha
  have cm : ∀ o a ar hh hc hd M, ((o = 18 ∧ a = 8 ∧ ar = 34 ∧ hh = 10 ∧ hc = 36 ∧ hd = 37) ∨ (o = 19 ∧ a = 9 ∧ ar = 35 ∧ hh = 11 ∧ hc = 38 ∧ hd = 39)) → CMi o a ar hh hc hd M S → CMi o a ar hh hc hd M (u2 S.1 23 k (S.1 23 k + 1), S.2) := by
    intro o a ar hh hc hd M ho hm
    have hi : isCu o := by unfold isCu; omega
    obtain ⟨c1, c2, c3⟩ := hm
    refine ⟨c1.o hi (by have := hi.rg; unfold cuC; omega), ?_, ?_⟩
    · show (u2 S.1 23 k (S.1 23 k + 1) a 1 = _ ∧ ∀ j, j < _ → AR (u2 S.1 23 k (S.1 23 k + 1) ar) _ _)
      rw [r a (by omega), r ar (by omega)]; exact c2
    · show (u2 S.1 23 k (S.1 23 k + 1) hh 3 = _ ∧ (∃ f, bt (u2 S.1 23 k (S.1 23 k + 1) hh 2) f ∧ _) ∧ ∀ i, i < _ → u2 S.1 23 k (S.1 23 k + 1) hc i = _ ∧ u2 S.1 23 k (S.1 23 k + 1) hd i = _)
      rw [r hh (by omega), r hc (by omega), r hd (by omega)]; exact c3
  refine ⟨⟨p, h1.ce (fun a ha => r a (by unfold ceC at ha; omega)) rfl, h2⟩, cm _ _ _ _ _ _ _ (Or.inl (by simp)) h3, ?_, fun j hj => ?_, ?_, ?_, ?_⟩
  · show (match G.2.2.1 with | none => u2 S.1 23 k (S.1 23 k + 1) 0 9 = 0 | some M => u2 S.1 23 k (S.1 23 k + 1) 0 9 = 1 ∧ CMi 19 9 35 11 38 39 M (u2 S.1 23 k (S.1 23 k + 1), S.2))
    rw [r 0 (by omega)]
    revert h4
    cases G.2.2.1 with
    | none => intro h4; exact h4
    | some M => intro h4; exact ⟨h4.1, cm _ _ _ _ _ _ _ (Or.inr (by simp)) h4.2⟩
  · show u2 S.1 23 k (S.1 23 k + 1) 23 j = upd G.2.2.2.1 k (G.2.2.2.1 k + 1) j
    rw [e23]
    unfold upd
    rw [h5 k hk, h5 j hj]
  · show u2 S.1 23 k (S.1 23 k + 1) 0 10 = _
    rw [r 0 (by omega)]; exact h6
  · show u2 S.1 23 k (S.1 23 k + 1) 2 1 = _
    rw [r 2 (by omega)]; exact h7
  · show ∀ j, j < _ → BY (u2 S.1 23 k (S.1 23 k + 1) 26 j) _
    rw [r 26 (by omega)]; exact h8
theorem IM_rf {G : Gs} {S : PS} {k : Nat} (h : IM G S) (hk : k < 3) : IM (rfG G k) (u2 S.1 84 k (S.1 84 k + 1), S.2) ∧ CS S (u2 S.1 84 k (S.1 84 k + 1), S.2) := by
  have hF : FM (fun a => a = 84) (fun _ => False) S (u2 S.1 84 k (S.1 84 k + 1), S.2) := FM.rfl.u (by decide) rfl
  have e84 : (u2 S.1 84 k (S.1 84 k + 1)) 84 = upd (S.1 84) k (S.1 84 k + 1) := u2_at
  refine ⟨?_, CS_fm hF (fun a ha => by omega)⟩
  obtain ⟨h1, h2, h3, h4, h5, h6, h7⟩ := h
  have r : ∀ a, a ≠ 84 → u2 S.1 84 k (S.1 84 k + 1) a = S.1 a := fun a ha => u2_o ha
  refine ⟨?_, ?_, ?_, fun j hj => ?_, ?_, ?_, ?_⟩
  · show (u2 S.1 84 k (S.1 84 k + 1) 80 1 = _ ∧ (∀ c, c < _ → u2 S.1 84 k (S.1 84 k + 1) 81 c = _) ∧ RM _ (u2 S.1 84 k (S.1 84 k + 1) 80 2) (u2 S.1 84 k (S.1 84 k + 1) 82) ∧ RM _ (u2 S.1 84 k (S.1 84 k + 1) 80 3) (u2 S.1 84 k (S.1 84 k + 1) 82) ∧ u2 S.1 84 k (S.1 84 k + 1) 80 40 = _)
    rw [r 80 (by omega), r 81 (by omega), r 82 (by omega)]; exact h1
  · show MMi _ (u2 S.1 84 k (S.1 84 k + 1) 91) (u2 S.1 84 k (S.1 84 k + 1) 92) (u2 S.1 84 k (S.1 84 k + 1) 105) (u2 S.1 84 k (S.1 84 k + 1) 80 33) (u2 S.1 84 k (S.1 84 k + 1) 80 49) _
    rw [r 80 (by omega), r 91 (by omega), r 92 (by omega), r 105 (by omega)]; exact h2
  · show (match G.2.2.1 with | none => u2 S.1 84 k (S.1 84 k + 1) 80 54 = 0 | some M => u2 S.1 84 k (S.1 84 k + 1) 80 54 = 1 ∧ MMi G.1.1 (u2 S.1 84 k (S.1 84 k + 1) 108) (u2 S.1 84 k (S.1 84 k + 1) 109) (u2 S.1 84 k (S.1 84 k + 1) 110) (u2 S.1 84 k (S.1 84 k + 1) 80 55) (u2 S.1 84 k (S.1 84 k + 1) 80 56) M)
    rw [r 80 (by omega), r 108 (by omega), r 109 (by omega), r 110 (by omega)]; exact h3
  · show u2 S.1 84 k (S.1 84 k + 1) 84 j = upd G.2.2.2.1 k (G.2.2.2.1 k + 1) j
    rw [e84]
    unfold upd
    rw [h4 k hk, h4 j hj]
  · show u2 S.1 84 k (S.1 84 k + 1) 80 9 = _
    rw [r 80 (by omega)]; exact h5
  · show u2 S.1 84 k (S.1 84 k + 1) 80 7 = _
    rw [r 80 (by omega)]; exact h6
  · show ∀ j, j < _ → u2 S.1 84 k (S.1 84 k + 1) 83 j = _
    rw [r 83 (by omega)]; exact h7
/-- the class's minutes with another row -/
theorem CMi_row {M : Mi} {A : Rw} {S T : PS} (h : CMi 18 8 34 10 36 37 M S) (hA : CU 18 A T) (hf : ∀ a, a = 8 ∨ a = 34 ∨ a = 10 ∨ a = 36 ∨ a = 37 → T.1 a = S.1 a) : CMi 18 8 34 10 36 37 (A, M.2) T := by
  refine ⟨hA, ?_, ?_⟩
  · rw [hf 8 (by omega), hf 34 (by omega)]; exact h.2.1
  · rw [hf 10 (by omega), hf 36 (by omega), hf 37 (by omega)]; exact h.2.2
theorem MMS_row {n : Nat} {M : Mi} {A : Rw} {S T : PS} (h : MMS n M S) (hA : MR 0 n A T) (h92 : T.1 92 = S.1 92) (h105 : T.1 105 = S.1 105) (h33 : T.1 80 33 = S.1 80 33) (h49 : T.1 80 49 = S.1 80 49) : MMS n (A, M.2) T := by
  refine ⟨hA, ?_, ?_⟩
  · rw [h92, h33]; exact h.2.1
  · rw [h105, h49]; exact h.2.2
theorem PMn_fh {S T : PS} (h : FH 0 S T) : PMn S T ∧ CS S T := ⟨PMn.fm h.1 (fun a ha => by unfold hcM at ha; unfold pm; omega) (fun k hk => by unfold hfM at hk; unfold pf; omega), CS_fm h.1 (fun a ha => by unfold hcM at ha; omega)⟩
section HRS
variable {N : Nat} {G : Gs} {S : PS}
/-- hours go by on the cups themselves -/
theorem C_goO {V : Cv} {A : Rw} {m p : Nat} {S : PS} (hN : 30000 ≤ N) (hs : SPR V.2.1) (hw : WF V.1 A) (hm : m ≤ 2000) (h : CU 18 A S) (h5 : S.2.2 5 4 = 18) (hp : CE p V.1 V.2.2.1 V.2.2.2 V.2.1 S) : rn (fX3_goOn N (iN m) S) (fun U => CU 18 (rowK V A m) U ∧ FC (hcC 18) S U) := by
  simp only [fX3_goOn, rn_bT, rn_lt, rn_some]
  refine forG (f := fun n j s => fX3_goOn_2 N (iN m) n (iN j) s) m (J := fun j U => CU 18 (rowK V A j) U ∧ FC (hcC 18) S U) ?_ ?_ N 0 S (Nat.zero_le _) ⟨by rw [rowK]; exact h, FC.rfl⟩ (by omega)
  · rintro q U ⟨h1, h2⟩
    simp only [fX3_goOn_2]
    rw [if_pos (Int32.le_refl _), rn_some]
    exact ⟨h1, h2⟩
  · rintro q j U hj ⟨h1, h2⟩ ih
    have hii : ¬ iN m ≤ iN j := by rw [iN_le (by omega) (by omega)]; omega
    simp only [fX3_goOn_2, if_neg hii, rn_bV, rn_lt, iN_1]
    refine rn_mono (C_hour (w := 0) (T := U.1 28) (L0 := U.1 5 6) hN (by omega) is18 hs (rowK_WF hs hw j) (by rw [h2.2]; exact h5) (hp.fc is18 h2) h1 (fun _ _ => rfl) rfl) (fun W hW => ih W ⟨?_, h2.tr hW.2⟩)
    rw [rowK_s]
    exact hW.1.1
def hrG (G : Gs) (m : Nat) : Gs := nwG G (rowK G.1 G.2.1.1 m, (kpM G.2.1).2)
def aHours (G : Gs) (n : Int32) : Int32 := if btw n 1 20 then (if G.2.1.1 7 0 + n ≤ 9999 then rowK G.1 G.2.1.1 (ix n) 7 0 else -1) else -1
def nHours (G : Gs) (n : Int32) : Gs := if btw n 1 20 then (if G.2.1.1 7 0 + n ≤ 9999 then hrG G (ix n) else rfG G 1) else rfG G 1
theorem GW_hrs {n : Int32} (h : GW G) : GW (nHours G n) := by
  unfold nHours
  split
  · split
    · refine GW_now h ?_
      have hk := kpM_WM h.2.1
      exact ⟨rowK_WF h.1 h.2.1.1 _, hk.2⟩
    · exact h
  · exact h
theorem C_hours {n : Int32} (hN : 30000 ≤ N) (hg : GW G) (hi : IC G S) : rn (fX11_hours N n S) (fun q => q.1 = aHours G n ∧ IC (nHours G n) q.2 ∧ MS S q.2) := by
  have hcu := hi.2.1.1
  have h6 : S.1 18 6 = G.2.1.1 7 0 := hcu.2.1
  unfold aHours nHours
  by_cases h1 : btw n 1 20
  · obtain ⟨m, rfl, hml, hm⟩ := btw_nat (l := 1) (h := 20) rfl rfl (by omega) (by omega) h1
    have xm : ix (iN m) = m := ix_iN (by omega)
    simp only [fX11_hours, if_neg (Int32.not_lt.mpr h1.1), if_neg (Int32.not_lt.mpr h1.2), h6, if_pos h1, xm]
    by_cases h2 : G.2.1.1 7 0 + iN m ≤ 9999
    · simp only [if_pos h2, rn_bV, rn_some]
      refine rn_mono (C_keep hg.2.1.2.1.1 hi.2.1) (fun U hU => ?_)
      obtain ⟨u1, u2⟩ := hU
      refine rn_mono (C_workOn hN) (fun W hW => ?_)
      obtain ⟨w1, w2, w3, w4, w5, w6⟩ := hW
      obtain ⟨p, hp, hp1⟩ := hi.1
      have cU : CU 18 G.2.1.1 U := u1.1
      have cW : CU 18 G.2.1.1 W := cU.fr is18 (cs := fun a => a = 5 ∨ a = 28) (fun a ha => w5 a (by omega) (by omega)) (fun a ha => by unfold cuC at ha; omega)
      have pW : CE p G.1.1 G.1.2.2.1 G.1.2.2.2 G.1.2.1 W := by
        refine hp.ce (fun a ha => ?_) ?_
        · rw [w5 a (by unfold ceC at ha; omega) (by unfold ceC at ha; omega)]
          exact u2.1 a (by unfold ceC at ha; omega)
        · rw [w6, ← u2.2]
          show u2R U.2.2 5 4 18 5 3 = _
          simp [u2R]
      refine rn_mono (C_goO (V := G.1) hN hg.1 hg.2.1.1 (by omega) cW w4 pW) (fun Y hY => ?_)
      obtain ⟨y1, y2⟩ := hY
      have same : ∀ a, ¬ hcC 18 a → a ≠ 8 → a ≠ 34 → Y.1 a = S.1 a := fun a h1 h2 h3 => by
        rw [y2.1 a h1, w5 a (by unfold hcC at h1; omega) (by unfold hcC at h1; omega)]
        exact u2.1 a (by omega)
      have y22 : Y.2 = (S.2.1, u2R S.2.2 5 4 18) := by rw [y2.2, w6, u2.2]
      refine ⟨y1.2.1, IC_now hi ⟨fun a ha hb => same a (by unfold pc ceC at ha; unfold nowC at hb; unfold hcC stC cuC; omega) (by unfold nowC at hb; omega) (by unfold nowC at hb; omega), ⟨?_, ?_, ?_⟩, ?_, ?_⟩ (CMi_row u1 y1 (fun a ha => ?_)), fun a ha => ⟨same a (by unfold hcC stC cuC; omega) (by omega) (by omega), ?_, ?_⟩⟩
      · rw [same 0 (by unfold hcC stC cuC; omega) (by omega) (by omega)]
      · rw [same 0 (by unfold hcC stC cuC; omega) (by omega) (by omega)]
      · rw [same 2 (by unfold hcC stC cuC; omega) (by omega) (by omega)]
      · rw [y22]; show u2R S.2.2 5 4 18 5 3 = _; simp [u2R]
      · rw [y22]; show u2R S.2.2 5 4 18 1 1 = _; simp [u2R]
      · rw [y2.1 a (by unfold hcC stC cuC; omega)]
        exact w5 a (by omega) (by omega)
      · rw [y22]
      · rw [y22]; show u2R S.2.2 5 4 18 a = _; unfold u2R; rw [if_neg (by omega)]
    · simp only [if_neg h2, fX11_refuseAct, rn_lt, rn_bI, rn_some]
      have := IC_rf (k := 1) hi (by omega)
      exact ⟨trivial, this.1, this.2⟩
  · have := IC_rf (k := 1) hi (by omega)
    rw [if_neg h1, if_neg h1]
    unfold fX11_hours fX11_refuseAct
    by_cases h3 : n < 1
    · simp only [if_pos h3, rn_lt, rn_bI, rn_some]
      exact ⟨trivial, this.1, this.2⟩
    · simp only [if_neg h3, if_pos (Int32.not_le.mp (fun e => h1 ⟨Int32.not_lt.mp h3, e⟩)), rn_lt, rn_bI, rn_some]
      exact ⟨trivial, this.1, this.2⟩
theorem IM_z {k : Int32} (hg : GW G) (h : IM G S) : IM G (u2 S.1 80 0 k, S.2) := IM_pm hg h zFP.1
theorem M_ref {k : Nat} (hk : k < 3) (h : IM G S) : rn (fX12_refuses N (iN k) S) (fun q => q.1 = -1 ∧ IM (rfG G k) q.2 ∧ CS S q.2 ∧ q.2.1 80 0 = S.1 80 0) := by
  have i3 : inr (iN k) 3 := inr_iN hk (by omega)
  have x3 : ix (iN k) = k := ix_iN (by omega)
  simp only [fX12_refuses, gd_t i3, x3, rn_lt, rn_some]
  have := IM_rf (k := k) h hk
  refine ⟨trivial, this.1, this.2, ?_⟩
  show u2 S.1 84 k (S.1 84 k + 1) 80 0 = _
  rw [u2_o (by decide)]
theorem M_hours {n : Int32} (hN : 30000 ≤ N) (hg : GW G) (hi : IM G S) : rn (fX12_hours N n S) (fun q => q.1 = aHours G n ∧ IM (nHours G n) q.2 ∧ CS S q.2) := by
  have hi0 := IM_z (k := 0) hg hi
  have hC0 : CS S (u2 S.1 80 0 0, S.2) := zFP.2
  have hn : G.1.1 ≤ 9 := hg.2.1.1.1
  have h6 : (u2 S.1 80 0 0, S.2).1 91 0 = G.2.1.1 7 0 := hi0.2.1.1.1
  unfold aHours nHours fX12_hours
  refine rn_l (fun T eT => ?_)
  rw [← eT] at hi0 hC0 h6
  clear eT
  by_cases h1 : btw n 1 20
  · obtain ⟨m, rfl, hml, hm⟩ := btw_nat (l := 1) (h := 20) rfl rfl (by omega) (by omega) h1
    have xm : ix (iN m) = m := ix_iN (by omega)
    simp only [wi_t h1, bI_s, show ¬ ((1 : Int32) = 0) from by decide, if_false, h6, if_pos h1, xm]
    by_cases h2 : G.2.1.1 7 0 + iN m ≤ 9999
    · simp only [if_pos h2, rn_bV, rn_bT, rn_lt, rn_some]
      refine rn_mono (M_keeps hN hn hg.2.1.2.1.1 hi0.2.1) (fun U hU => ?_)
      obtain ⟨u1, u2⟩ := hU
      have pU : PMn T U := PMn.fm u2 (fun a ha => Or.inr (Or.inl ha)) (fun k hk => Or.inr (Or.inl hk))
      have cU : CS T U := CS_fm u2 (fun a ha => by omega)
      refine forG (f := fun n j s => fX12_hours_41 N (iN m) n (iN j) s) m (J := fun j W => MR 0 G.1.1 (rowK G.1 G.2.1.1 j) W ∧ FH 0 U W) ?_ ?_ N 0 U (Nat.zero_le _) ⟨by rw [rowK]; exact u1.1, FH.rfl⟩ (by omega)
      · rintro q W ⟨g1, g2⟩
        simp only [fX12_hours_41]
        rw [if_pos (Int32.le_refl _), rn_some]
        have f1 := PMn_fh g2
        refine ⟨g1.1, IM_now hi0 (pU.tr f1.1) (MMS_row u1 g1 (g2.1.1 92 (by decide) (by unfold hcM; omega)) (g2.1.1 105 (by decide) (by unfold hcM; omega)) (g2.1.2.1 33 (by unfold hfM; omega)) (g2.1.2.1 49 (by unfold hfM; omega))), (hC0.tr cU).tr f1.2⟩
      · rintro q j W hj ⟨g1, g2⟩ ih
        have hii : ¬ iN m ≤ iN j := by rw [iN_le (by omega) (by omega)]; omega
        have hME : ME G.1.1 0 G.1.2.2.1 G.1.2.2.2 G.1.2.1 W := (ME_pmn hi0.1 pU).fh g2
        simp only [fX12_hours_41, if_neg hii, rn_bV]
        refine rn_mono (M_hour (b := 0) (w := 0) hN (by omega) (by omega) hg.1 (rowK_WF hg.1 hg.2.1.1 j) hME g1) (fun Y hY => ?_)
        simp only [rn_lt, iN_1]
        refine ih Y ⟨?_, g2.tr hY.2⟩
        rw [rowK_s]
        exact hY.1.1
    · simp only [if_neg h2, rn_bI]
      refine rn_mono (M_ref (k := 1) (by omega) hi0) (fun q hq => ?_)
      rw [rn_some]
      exact ⟨hq.1, hq.2.1, hC0.tr hq.2.2.1⟩
  · simp only [wi_f h1, bI_s, if_true, if_neg h1, rn_bI]
    refine rn_mono (M_ref (k := 1) (by omega) hi0) (fun q hq => ?_)
    rw [rn_some]
    exact ⟨hq.1, hq.2.1, hC0.tr hq.2.2.1⟩
/-! undo -/
def nUndo (G : Gs) : Gs := nwG G (if G.2.1.2.1.1 = 0 then G.2.1 else undM G.2.1)
def aUndo (G : Gs) : Int32 := if G.2.1.2.1.1 = 0 then -1 else iN (G.2.1.2.1.1 - 1)
theorem GW_undo (h : GW G) : GW (nUndo G) := by
  refine GW_now h ?_
  split
  · exact h.2.1
  · rename_i e
    exact undM_WM h.2.1 (by omega)
theorem C_undo (hg : GW G) (hi : IC G S) : rn (fX11_undo N S) (fun q => q.1 = aUndo G ∧ IC (nUndo G) q.2 ∧ MS S q.2) := by
  have h2 : S.1 8 1 = iN G.2.1.2.1.1 := hi.2.1.2.1.1
  have hK := hg.2.1.2.1.1
  unfold fX11_undo aUndo nUndo
  by_cases e : G.2.1.2.1.1 = 0
  · rw [if_pos (by rw [h2, e]; rfl), if_pos e, if_pos e, rn_some]
    exact ⟨rfl, hi, MS.rfl⟩
  · rw [if_neg (by rw [h2, show (0 : Int32) = iN 0 from rfl, iN_eq (by omega) (by omega)]; exact e), if_neg e, if_neg e, rn_bV]
    refine rn_mono (C_back hK (by omega) hi.2.1) (fun U hU => ?_)
    obtain ⟨u1, u2, u3⟩ := hU
    rw [rn_some]
    exact ⟨u2, IC_now hi (PN_fc u3 (fun a ha => by unfold nowC; omega)) u1, MS_fc u3 (fun a ha => by omega)⟩
theorem M_undoG (hN : 30000 ≤ N) (hg : GW G) (hi : IM G S) : rn (fX12_undo N S) (fun q => q.1 = aUndo G ∧ IM (nUndo G) q.2 ∧ CS S q.2) := by
  refine rn_mono (M_undo hN hg.2.1.1.1 hg.2.1.2.1.1 hi.2.1) (fun q hq => ?_)
  obtain ⟨q1, q2, q3⟩ := hq
  exact ⟨q1, IM_now hi (PMn.fm q3 (fun a ha => by unfold pm; omega) (fun k hk => by unfold pf; omega)) q2, CS_fm q3 (fun a ha => by omega)⟩
end HRS
