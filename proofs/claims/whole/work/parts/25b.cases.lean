/-! ===== phase 2: the cases of the law ===== -/
section CAS
variable {N : Nat} {xs : Nat → Int32} {b : Nat} {S : PS}
theorem cs0 (hN : 30000 ≤ N) (h : IV S) : rn (fC0 N xs b S) IV := by
  obtain ⟨G, hg, hz, hc, hm⟩ := h
  unfold fC0
  exact one_p hg (GW_feed hg) (GZ_feed hz) hm (C_feed hN hg hc) (fun T hT => M_feed hN hg hT)
theorem cs1 (hN : 30000 ≤ N) (h : IV S) : rn (fC1 N xs b S) IV := by
  obtain ⟨G, hg, hz, hc, hm⟩ := h
  obtain ⟨a, G', g1, g2, g3, g4, g5⟩ := cave_both hN hg hz (xs (b + 1))
  unfold fC1 fL_cave
  exact one_x hg g1 g2 hm (g4 S hc) g5 (kxI g3)
theorem cs2 (hN : 30000 ≤ N) (h : IV S) : rn (fC2 N xs b S) IV := by
  obtain ⟨G, hg, hz, hc, hm⟩ := h
  unfold fC2
  exact one_p hg hg hz hm (C_fault hc) (fun T hT => M_fault hg hT)
theorem cs3 (hN : 30000 ≤ N) (h : IV S) : rn (fC3 N xs b S) IV := by
  obtain ⟨G, hg, hz, hc, hm⟩ := h
  unfold fC3 fL_count
  refine one_ask hg hz hc hm (C_count hN hg hc) (fun T hT => M_count hN hg hz hT) (kxN ?_)
  unfold aCount
  repeat' (first | refine ite_x ?_ ?_ | exact inl_x | exact inr_x rfl | exact inr_x (Or.inl rfl) | exact inr_x (Or.inr rfl))
theorem cs4 (hN : 30000 ≤ N) (h : IV S) : rn (fC4 N xs b S) IV := by
  obtain ⟨G, hg, hz, hc, hm⟩ := h
  unfold fC4 fL_cup
  refine one_ask hg hz hc hm (C_cup (qc hN hg hc)) (fun T hT => M_cup (qm hN hg hT)) (kxN ?_)
  unfold aCup
  repeat' (first | refine ite_x ?_ ?_ | exact inl_x | exact inr_x rfl | exact inr_x (Or.inl rfl) | exact inr_x (Or.inr rfl))
theorem cs5 (hN : 30000 ≤ N) (h : IV S) : rn (fC5 N xs b S) IV := by
  obtain ⟨G, hg, hz, hc, hm⟩ := h
  unfold fC5
  exact one_p hg (GW_hrs hg) (GZ_hours hz) hm (C_hours hN hg hc) (fun T hT => M_hours hN hg hT)
theorem lead_a {G : Gs} {c x : Int32} : aLead G c x = .inl 0 ∨ aLead G c x = .inl 1 ∨ aLead G c x = .inr nNSE := by
  unfold aLead
  repeat' split
  all_goals simp
theorem cs6 (hN : 30000 ≤ N) (h : IV S) : rn (fC6 N xs b S) IV := by
  obtain ⟨G, hg, hz, hc, hm⟩ := h
  unfold fC6 fL_lead
  exact one_b hg (GW_lead hg) (GZ_lead hz) hm lead_a (C_lead hg hc) (fun T hT => M_lead hN hg hT)
theorem plug_a {G : Gs} {c x : Int32} : aPlug G c x = .inl 0 ∨ aPlug G c x = .inl 1 ∨ aPlug G c x = .inr nNSE := by
  unfold aPlug
  repeat' split
  all_goals simp
theorem cs7 (hN : 30000 ≤ N) (h : IV S) : rn (fC7 N xs b S) IV := by
  obtain ⟨G, hg, hz, hc, hm⟩ := h
  unfold fC7 fL_plug
  have hv : (if (xs (b + 2)) = 0 then (0 : Int32) else 1) = 0 ∨ (if (xs (b + 2)) = 0 then (0 : Int32) else 1) = 1 := by
    by_cases e : xs (b + 2) = 0
    · left; rw [if_pos e]
    · right; rw [if_neg e]
  generalize (if (xs (b + 2)) = 0 then (0 : Int32) else 1) = v at hv ⊢
  exact one_b (mM := fun T => fX12_plug N (xs (b + 1)) v T) hg (GW_plug hv hg) (GZ_plug hz) hm plug_a (C_plugG hv hg hc) (fun T hT => M_plug hv hN hg hT)
theorem cs8 (hN : 30000 ≤ N) (h : IV S) : rn (fC8 N xs b S) IV := by
  obtain ⟨G, hg, hz, hc, hm⟩ := h
  unfold fC8 fL_pour
  refine one_x hg (GW_pour hg) (GZ_pour hz) hm (C_pour hN hg hc) (fun T hT => M_pour hN hg hT) (kxN ?_)
  unfold aPour
  repeat' (first | refine ite_x ?_ ?_ | exact inl_x | exact inr_x rfl | exact inr_x (Or.inl rfl) | exact inr_x (Or.inr rfl))
theorem cs9 (hN : 30000 ≤ N) (h : IV S) : rn (fC9 N xs b S) IV := by
  obtain ⟨G, hg, hz, hc, hm⟩ := h
  unfold fC9 fL_crack
  refine one_x hg (GW_crack hg) (GZ_crack hz) hm (C_crack hg hc) (fun T hT => M_crack hN hg hT) (kxN ?_)
  unfold aCrack
  repeat' (first | refine ite_x ?_ ?_ | exact inl_x | exact inr_x rfl | exact inr_x (Or.inl rfl) | exact inr_x (Or.inr rfl))
theorem cs10 (hN : 30000 ≤ N) (h : IV S) : rn (fC10 N xs b S) IV := by
  obtain ⟨G, hg, hz, hc, hm⟩ := h
  unfold fC10
  exact one_p hg (GW_undo hg) (GZ_undo hz) hm (C_undo hg hc) (fun T hT => M_undoG hN hg hT)
theorem cs11 (hN : 30000 ≤ N) (h : IV S) : rn (fC11 N xs b S) IV := by
  obtain ⟨G, hg, hz, hc, hm⟩ := h
  unfold fC11 fL_then
  refine one_ask hg hz hc hm (C_then (qc hN hg hc)) (fun T hT => M_then (qm hN hg hT)) (kxB ?_)
  unfold aThen
  repeat' (first | refine ite_x ?_ ?_ | exact inl_x | exact inr_x rfl | exact inr_x (Or.inl rfl) | exact inr_x (Or.inr rfl))
theorem cs12 (hN : 30000 ≤ N) (h : IV S) : rn (fC12 N xs b S) IV := by
  obtain ⟨G, hg, hz, hc, hm⟩ := h
  unfold fC12 fL_tipping
  refine one_ask hg hz hc hm (C_tipping (qc hN hg hc)) (fun T hT => M_tipping (qm hN hg hT)) (kxI ?_)
  unfold aTipping
  repeat' (first | refine ite_x ?_ ?_ | exact inl_x | exact inr_x rfl | exact inr_x (Or.inl rfl) | exact inr_x (Or.inr rfl))
theorem cs13 (hN : 30000 ≤ N) (h : IV S) : rn (fC13 N xs b S) IV := by
  obtain ⟨G, hg, hz, hc, hm⟩ := h
  unfold fC13 fL_next
  refine one_ask hg hz hc hm (C_next (qc hN hg hc)) (fun T hT => M_next (qm hN hg hT)) (kxN ?_)
  unfold aNext
  repeat' (first | refine ite_x ?_ ?_ | exact inl_x | exact inr_x rfl | exact inr_x (Or.inl rfl) | exact inr_x (Or.inr rfl))
theorem cs14 (hN : 30000 ≤ N) (h : IV S) : rn (fC14 N xs b S) IV := by
  obtain ⟨G, hg, hz, hc, hm⟩ := h
  unfold fC14 fL_together
  refine one_ask hg hz hc hm (C_together (qc hN hg hc)) (fun T hT => M_together (qm hN hg hT)) (kxI ?_)
  unfold aTogether
  repeat' (first | refine ite_x ?_ ?_ | exact inl_x | exact inr_x rfl | exact inr_x (Or.inl rfl) | exact inr_x (Or.inr rfl))
theorem cs15 (hN : 30000 ≤ N) (h : IV S) : rn (fC15 N xs b S) IV := by
  obtain ⟨G, hg, hz, hc, hm⟩ := h
  unfold fC15 fL_sound
  refine one_ask hg hz hc hm (C_sound (qc hN hg hc)) (fun T hT => M_sound (qm hN hg hT)) (kxB ?_)
  unfold aSound
  repeat' (first | refine ite_x ?_ ?_ | exact inl_x | exact inr_x rfl | exact inr_x (Or.inl rfl) | exact inr_x (Or.inr rfl))
theorem cs16 (hN : 30000 ≤ N) (h : IV S) : rn (fC16 N xs b S) IV := by
  obtain ⟨G, hg, hz, hc, hm⟩ := h
  unfold fC16 fL_fallen
  refine one_ask hg hz hc hm (C_fallen (qc hN hg hc)) (fun T hT => M_fallen (qm hN hg hT)) (kxB ?_)
  unfold aFallen
  repeat' (first | refine ite_x ?_ ?_ | exact inl_x | exact inr_x rfl | exact inr_x (Or.inl rfl) | exact inr_x (Or.inr rfl))
theorem cs17 (hN : 30000 ≤ N) (h : IV S) : rn (fC17 N xs b S) IV := by
  obtain ⟨G, hg, hz, hc, hm⟩ := h
  unfold fC17 fL_nth
  refine one_ask hg hz hc hm (C_nth (qc hN hg hc)) (fun T hT => M_nth (qm hN hg hT)) (kxB ?_)
  unfold aNth
  repeat' (first | refine ite_x ?_ ?_ | exact inl_x | exact inr_x rfl | exact inr_x (Or.inl rfl) | exact inr_x (Or.inr rfl))
theorem cs18 (hN : 30000 ≤ N) (h : IV S) : rn (fC18 N xs b S) IV := by
  obtain ⟨G, hg, hz, hc, hm⟩ := h
  unfold fC18 fL_meeting
  refine one_ask hg hz hc hm (C_meeting (qc hN hg hc)) (fun T hT => M_meeting (qm hN hg hT)) (kxI ?_)
  unfold aMeet
  repeat' (first | refine ite_x ?_ ?_ | exact inl_x | exact inr_x rfl | exact inr_x (Or.inl rfl) | exact inr_x (Or.inr rfl))
theorem cs19 (hN : 30000 ≤ N) (h : IV S) : rn (fC19 N xs b S) IV := by
  obtain ⟨G, hg, hz, hc, hm⟩ := h
  unfold fC19 fL_flow
  refine one_ask hg hz hc hm (C_flow (qc hN hg hc)) (fun T hT => M_flow (qm hN hg hT)) (kxB ?_)
  unfold aFlow
  repeat' (first | refine ite_x ?_ ?_ | exact inl_x | exact inr_x rfl | exact inr_x (Or.inl rfl) | exact inr_x (Or.inr rfl))
theorem cs20 (hN : 30000 ≤ N) (h : IV S) : rn (fC20 N xs b S) IV := by
  obtain ⟨G, hg, hz, hc, hm⟩ := h
  unfold fC20 fL_tier
  refine one_ask hg hz hc hm (C_tier (qc hN hg hc)) (fun T hT => M_tier (qm hN hg hT)) (kxN ?_)
  unfold aTier
  repeat' (first | refine ite_x ?_ ?_ | exact inl_x | exact inr_x rfl | exact inr_x (Or.inl rfl) | exact inr_x (Or.inr rfl))
theorem cs21 (hN : 30000 ≤ N) (h : IV S) : rn (fC21 N xs b S) IV := by
  obtain ⟨G, hg, hz, hc, hm⟩ := h
  unfold fC21 fL_toCrack
  refine one_ask hg hz hc hm (C_toCrack (qc hN hg hc)) (fun T hT => M_toCrack (qm hN hg hT)) (kxB ?_)
  unfold aToCrack
  repeat' (first | refine ite_x ?_ ?_ | exact inl_x | exact inr_x rfl | exact inr_x (Or.inl rfl) | exact inr_x (Or.inr rfl))
theorem cs22 (hN : 30000 ≤ N) (h : IV S) : rn (fC22 N xs b S) IV := by
  obtain ⟨G, hg, hz, hc, hm⟩ := h
  unfold fC22 fL_office
  refine one_ask hg hz hc hm (C_office (qc hN hg hc)) (fun T hT => M_office (qm hN hg hT)) (kxB ?_)
  unfold aOffice
  repeat' (first | refine ite_x ?_ ?_ | exact inl_x | exact inr_x rfl | exact inr_x (Or.inl rfl) | exact inr_x (Or.inr rfl))
theorem cs23 (hN : 30000 ≤ N) (h : IV S) : rn (fC23 N xs b S) IV := by
  obtain ⟨G, hg, hz, hc, hm⟩ := h
  unfold fC23 fL_hear
  generalize (if (xs (b + 3)) = 0 then (0 : Int32) else 1) = v
  refine one_x (mM := fun T => fX12_hear N (xs (b + 1)) (xs (b + 2)) v T) hg (GW_hear hg) (GZ_hear hz) hm (C_hear hg hc) (fun T hT => M_hear hN hg hT) (kxN ?_)
  unfold aHear
  repeat' (first | refine ite_x ?_ ?_ | exact inl_x | exact inr_x rfl | exact inr_x (Or.inl rfl) | exact inr_x (Or.inr rfl))
theorem cs24 (hN : 30000 ≤ N) (h : IV S) : rn (fC24 N xs b S) IV := by
  obtain ⟨G, hg, hz, hc, hm⟩ := h
  unfold fC24
  exact one_v hg (GW_forget hg) (GZ_forget hz) hm (C_forget hc) (fun T hT => M_forget hg hT)
theorem cs25 (hN : 30000 ≤ N) (h : IV S) : rn (fC25 N xs b S) IV := by
  obtain ⟨G, hg, hz, hc, hm⟩ := h
  have wh : WH G.1.1 G.2.1.2.2.1 G.2.1.2.2.2 := ⟨hg.2.1.1.1, hg.2.1.2.2.1, hg.2.1.2.2.2⟩
  unfold fC25 fL_led
  refine one_ask hg hz hc hm (C_led (M := G.2.1) (qc hN hg hc) hc.2.1.2.2 wh) (fun T hT => M_led (M := G.2.1) (qm hN hg hT) hT.2.1.2.2 wh) (kxN ?_)
  unfold aLed
  repeat' (first | refine ite_x ?_ ?_ | exact inl_x | exact inr_x rfl | exact inr_x (Or.inl rfl) | exact inr_x (Or.inr rfl))
theorem cs26 (hN : 30000 ≤ N) (h : IV S) : rn (fC26 N xs b S) IV := by
  obtain ⟨G, hg, hz, hc, hm⟩ := h
  have wh : WH G.1.1 G.2.1.2.2.1 G.2.1.2.2.2 := ⟨hg.2.1.1.1, hg.2.1.2.2.1, hg.2.1.2.2.2⟩
  unfold fC26 fL_listen
  refine one_ask hg hz hc hm (C_listen (M := G.2.1) (qc hN hg hc) hc.2.1.2.2 wh) (fun T hT => M_listen (M := G.2.1) (qm hN hg hT) hT.2.1.2.2 wh) (kxN ?_)
  unfold aListen
  repeat' (first | refine ite_x ?_ ?_ | exact inl_x | exact inr_x rfl | exact inr_x (Or.inl rfl) | exact inr_x (Or.inr rfl))
theorem cs27 (hN : 30000 ≤ N) (h : IV S) : rn (fC27 N xs b S) IV := by
  obtain ⟨G, hg, hz, hc, hm⟩ := h
  unfold fC27 fL_cold
  refine one_ask hg hz hc hm (C_cold (qc hN hg hc)) (fun T hT => M_cold (qm hN hg hT)) (kxB ?_)
  unfold aCold
  repeat' (first | refine ite_x ?_ ?_ | exact inl_x | exact inr_x rfl | exact inr_x (Or.inl rfl) | exact inr_x (Or.inr rfl))
theorem cs28 (hN : 30000 ≤ N) (h : IV S) : rn (fC28 N xs b S) IV := by
  obtain ⟨G, hg, hz, hc, hm⟩ := h
  unfold fC28 fL_game
  refine one_ask hg hz hc hm (C_game (qc hN hg hc)) (fun T hT => M_game (qm hN hg hT)) (kxB ?_)
  unfold aGame
  repeat' (first | refine ite_x ?_ ?_ | exact inl_x | exact inr_x rfl | exact inr_x (Or.inl rfl) | exact inr_x (Or.inr rfl))
theorem cs29 (hN : 30000 ≤ N) (h : IV S) : rn (fC29 N xs b S) IV := by
  obtain ⟨G, hg, hz, hc, hm⟩ := h
  unfold fC29 fL_years
  refine one_ask hg hz hc hm (C_years (qc hN hg hc)) (fun T hT => M_years (qm hN hg hT)) (kxB ?_)
  unfold aYears
  repeat' (first | refine ite_x ?_ ?_ | exact inl_x | exact inr_x rfl | exact inr_x (Or.inl rfl) | exact inr_x (Or.inr rfl))
theorem cs30 (hN : 30000 ≤ N) (h : IV S) : rn (fC30 N xs b S) IV := by
  obtain ⟨G, hg, hz, hc, hm⟩ := h
  unfold fC30 fL_later
  refine one_ask hg hz hc hm (C_later (qc hN hg hc)) (fun T hT => M_later (qm hN hg hT)) (kxB ?_)
  unfold aLater
  repeat' (first | refine ite_x ?_ ?_ | exact inl_x | exact inr_x rfl | exact inr_x (Or.inl rfl) | exact inr_x (Or.inr rfl))
theorem cs31 (hN : 30000 ≤ N) (h : IV S) : rn (fC31 N xs b S) IV := by
  obtain ⟨G, hg, hz, hc, hm⟩ := h
  unfold fC31 fL_oftenest
  refine one_ask hg hz hc hm (C_oftenest (qc hN hg hc)) (fun T hT => M_oftenest (qm hN hg hT)) (kxI ?_)
  unfold aOftenest
  repeat' (first | refine ite_x ?_ ?_ | exact inl_x | exact inr_x rfl | exact inr_x (Or.inl rfl) | exact inr_x (Or.inr rfl))
theorem cs32 (hN : 30000 ≤ N) (h : IV S) : rn (fC32 N xs b S) IV := by
  obtain ⟨G, hg, hz, hc, hm⟩ := h
  unfold fC32
  exact one_p hg hg hz hm (rn_mono (C_round (qc hN hg hc)) (fun q hq => ⟨hq.1, IC_pc hc hq.2.1, hq.2.2⟩)) (fun T hT => rn_mono (M_round (qm hN hg hT)) (fun q hq => ⟨hq.1, IM_pm hg hT hq.2.1, hq.2.2⟩))
theorem cs33 (hN : 30000 ≤ N) (h : IV S) : rn (fC33 N xs b S) IV := by
  obtain ⟨G, hg, hz, hc, hm⟩ := h
  unfold fC33 fL_pause
  refine one_ask hg hz hc hm (C_pause (qc hN hg hc)) (fun T hT => M_pause (qm hN hg hT)) (kxN ?_)
  unfold aPause
  repeat' (first | refine ite_x ?_ ?_ | exact inl_x | exact inr_x rfl | exact inr_x (Or.inl rfl) | exact inr_x (Or.inr rfl))
theorem cs34 (hN : 30000 ≤ N) (h : IV S) : rn (fC34 N xs b S) IV := by
  obtain ⟨G, hg, hz, hc, hm⟩ := h
  unfold fC34 fL_giver
  refine one_ask hg hz hc hm (C_giver (qc hN hg hc)) (fun T hT => M_giver (qm hN hg hT)) (kxB ?_)
  unfold aGiver
  repeat' (first | refine ite_x ?_ ?_ | exact inl_x | exact inr_x rfl | exact inr_x (Or.inl rfl) | exact inr_x (Or.inr rfl))
theorem cs35 (hN : 30000 ≤ N) (h : IV S) : rn (fC35 N xs b S) IV := by
  obtain ⟨G, hg, hz, hc, hm⟩ := h
  unfold fC35 fL_toPour
  refine one_ask hg hz hc hm (C_toPour (qc hN hg hc)) (fun T hT => M_toPour (qm hN hg hT)) (kxB ?_)
  unfold aToPour
  repeat' (first | refine ite_x ?_ ?_ | exact inl_x | exact inr_x rfl | exact inr_x (Or.inl rfl) | exact inr_x (Or.inr rfl))
theorem cs36 (hN : 30000 ≤ N) (h : IV S) : rn (fC36 N xs b S) IV := by
  obtain ⟨G, hg, hz, hc, hm⟩ := h
  unfold fC36 fL_ways
  refine one_ask hg hz hc hm (C_ways (qc hN hg hc)) (fun T hT => M_ways (qm hN hg hT)) (kxN ?_)
  unfold aWays
  repeat' (first | refine ite_x ?_ ?_ | exact inl_x | exact inr_x rfl | exact inr_x (Or.inl rfl) | exact inr_x (Or.inr rfl))
theorem cs37 (hN : 30000 ≤ N) (h : IV S) : rn (fC37 N xs b S) IV := by
  obtain ⟨G, hg, hz, hc, hm⟩ := h
  unfold fC37 fL_chorus
  refine one_ask hg hz hc hm (C_chorus (qc hN hg hc)) (fun T hT => M_chorus (qm hN hg hT)) (kxI ?_)
  unfold aChorus
  repeat' (first | refine ite_x ?_ ?_ | exact inl_x | exact inr_x rfl | exact inr_x (Or.inl rfl) | exact inr_x (Or.inr rfl))
theorem cs38 (hN : 30000 ≤ N) (h : IV S) : rn (fC38 N xs b S) IV := by
  obtain ⟨G, hg, hz, hc, hm⟩ := h
  unfold fC38 fL_never
  refine one_ask hg hz hc hm (C_never (qc hN hg hc)) (fun T hT => M_never (qm hN hg hT)) (kxI ?_)
  unfold aNever
  repeat' (first | refine ite_x ?_ ?_ | exact inl_x | exact inr_x rfl | exact inr_x (Or.inl rfl) | exact inr_x (Or.inr rfl))
theorem cs39 (hN : 30000 ≤ N) (h : IV S) : rn (fC39 N xs b S) IV := by
  obtain ⟨G, hg, hz, hc, hm⟩ := h
  unfold fC39 fL_swell
  refine one_ask hg hz hc hm (C_swell (qc hN hg hc)) (fun T hT => M_swell (qm hN hg hT)) (kxB ?_)
  unfold aSwell
  repeat' (first | refine ite_x ?_ ?_ | exact inl_x | exact inr_x rfl | exact inr_x (Or.inl rfl) | exact inr_x (Or.inr rfl))
theorem cs40 (hN : 30000 ≤ N) (h : IV S) : rn (fC40 N xs b S) IV := by
  obtain ⟨G, hg, hz, hc, hm⟩ := h
  unfold fC40
  exact one_v hg (GW_img hg) (GZ_img hz) hm (C_image hg hc) (fun T hT => M_image hN hg hT)
theorem cs41 (hN : 30000 ≤ N) (h : IV S) : rn (fC41 N xs b S) IV := by
  obtain ⟨G, hg, hz, hc, hm⟩ := h
  unfold fC41
  exact one_p hg (GW_rest hg) (GZ_rest hz) hm (C_restore hg hc) (fun T hT => M_restore hN hg hT)
end CAS
