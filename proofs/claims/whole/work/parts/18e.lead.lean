/-! ===== phase 2: lead ===== -/
section LEAD
variable {N : Nat} {G : Gs} {S : PS}
abbrev rfL (A : Rw) (c x : Int32) : Prop := (A 2 (ix c) = x ∧ A 3 (ix c) = -1) ∨ (x ≠ -1 ∧ x ≤ c)
def aLead (G : Gs) (c x : Int32) : Int32 ⊕ String := if inr c G.1.1 then (if x = -1 ∨ inr x G.1.1 then (if rfL G.2.1.1 c x then .inl 0 else .inl 1) else .inr nNSE) else .inr nNSE
def nLead (G : Gs) (c x : Int32) : Gs := if inr c G.1.1 then (if x = -1 ∨ inr x G.1.1 then (if rfL G.2.1.1 c x then rfG G 1 else kpG G (ledS G.2.1.1 (ix c) x)) else G) else G
theorem m1_nr {x : Int32} {n : Nat} (h : inr x n) : ¬ (x = -1) := by
  intro e
  have := h.1
  rw [e, show (-1 : Int32).toInt = -1 from by decide] at this
  omega
theorem GW_lead {c x : Int32} (hg : GW G) : GW (nLead G c x) := by
  unfold nLead
  split
  · rename_i h1
    obtain ⟨d, hd, rfl⟩ := inr_c h1
    have hn := hg.2.1.1.1
    have xd : ix (iN d) = d := ix_iN (by omega)
    split
    · rename_i h2
      split
      · exact hg
      · rename_i h3
        refine GW_kp hg (led_WF hg.2.1.1 (by omega) ?_)
        rcases h2 with e | e
        · exact Or.inl e
        · obtain ⟨f, hf, rfl⟩ := inr_c e
          refine Or.inr ⟨f, rfl, ?_, hf⟩
          rw [xd]
          have this : ¬ iN f ≤ iN d := fun e' => h3 (Or.inr ⟨m1_nr e, e'⟩)
          rw [iN_le (by omega) (by omega)] at this
          omega
    · exact hg
  · exact hg
theorem lj_t {d : Nat} {x : Int32} {A : Rw} (h : CU 18 A S) (hd : d < 9) : fX2_leadsJust N 18 (iN d) x S = some ((if A 2 d = x ∧ A 3 d = -1 then 1 else 0), S) := by
  have i9 : inr (iN d) 9 := inr_iN hd (by omega)
  have xd : ix (iN d) = d := ix_iN (by omega)
  have e2 : S.1 (sr 18 2) d = A 2 d := h.1 2 (by omega) d hd
  have e3 : S.1 (sr 18 3) d = A 3 d := h.1 3 (by omega) d hd
  simp only [fX2_leadsJust, gd_t is18.ob, gd_t (is18.ar (k := 2) (by omega)), gd_t (is18.ar (k := 3) (by omega)), gd_t i9, xd, e2, e3, lt_b]
  by_cases h2 : A 2 d = x
  · by_cases h3 : A 3 d = -1
    · rw [if_pos h2, if_pos h3, if_pos ⟨h2, h3⟩]
      exact gd_t (Or.inr rfl)
    · rw [if_pos h2, if_neg h3, if_neg (fun e => h3 e.2)]
      exact gd_t (Or.inl rfl)
  · rw [if_neg h2, if_neg (fun e => h2 e.1)]
theorem C_ledT {d : Nat} {x : Int32} (hg : GW G) (hi : IC G S) (hd : d < G.1.1) : rn (bV (fX0_keep N 8 18 S) fun S2 => bV (fX2_setInto N 18 (iN d) x S2) fun S3 => some ((Sum.inl 1 : Int32 ⊕ String), S3)) (fun q => q.1 = .inl 1 ∧ IC (kpG G (ledS G.2.1.1 d x)) q.2 ∧ MS S q.2) := by
  have hn := hg.2.1.1.1
  rw [rn_bV]
  refine rn_mono (C_keep hg.2.1.2.1.1 hi.2.1) (fun U hU => ?_)
  rw [rn_bV]
  have cU : CU 18 G.2.1.1 U := hU.1.1
  refine rn_mono (C_into (x := x) is18 (show d < 9 by omega) cU) (fun W hW => ?_)
  rw [rn_some]
  have := actC hi hU.1 hU.2 hW.1 hW.2
  exact ⟨rfl, this.1, this.2⟩
theorem C_ledR (hi : IC G S) : rn (bI (fX11_refuseAct N S) fun _ S3 => some ((Sum.inl 0 : Int32 ⊕ String), S3)) (fun q => q.1 = .inl 0 ∧ IC (rfG G 1) q.2 ∧ MS S q.2) := by
  rw [rn_bI]
  refine rn_mono (refC hi) (fun q hq => ?_)
  rw [rn_some]
  exact ⟨rfl, hq.2⟩
theorem C_lead {c x : Int32} (hg : GW G) (hi : IC G S) : rn (fX11_lead N c x S) (fun q => q.1 = aLead G c x ∧ IC (nLead G c x) q.2 ∧ MS S q.2) := by
  obtain ⟨p, hp⟩ := cup_C hg hi
  have hn := hg.2.1.1.1
  have hcu : CU 18 G.2.1.1 S := hi.2.1.1
  unfold aLead nLead
  by_cases h1 : inr c G.1.1
  · obtain ⟨d, hd, rfl⟩ := inr_c h1
    have xd : ix (iN d) = d := ix_iN (by omega)
    simp only [fX11_lead, nc_t hp hn hd, bU_l, if_pos h1, xd]
    by_cases h2 : x = -1
    · subst h2
      simp only [lj_t hcu (show d < 9 by omega), bI_s, if_true, true_or]
      by_cases h3 : G.2.1.1 2 d = -1 ∧ G.2.1.1 3 d = -1
      · have hr : rfL G.2.1.1 (iN d) (-1) := Or.inl (by rw [xd]; exact h3)
        rw [if_pos h3, if_neg (by decide), if_pos hr, if_pos hr]
        exact C_ledR hi
      · have hr : ¬ rfL G.2.1.1 (iN d) (-1) := fun e => by
          rcases e with e | e
          · rw [xd] at e; exact h3 e
          · exact e.1 rfl
        rw [if_neg h3, if_pos rfl, if_neg hr, if_neg hr]
        exact C_ledT hg hi hd
    · simp only [if_neg h2]
      by_cases h4 : inr x G.1.1
      · obtain ⟨f, hf, rfl⟩ := inr_c h4
        simp only [nc_t hp hn hf, bU_l, lj_t hcu (show d < 9 by omega), bI_s, if_pos (Or.inr h4 : (iN f = -1 ∨ inr (iN f) G.1.1))]
        by_cases h3 : G.2.1.1 2 d = iN f ∧ G.2.1.1 3 d = -1
        · have hr : rfL G.2.1.1 (iN d) (iN f) := Or.inl (by rw [xd]; exact h3)
          rw [if_pos h3, if_neg (by decide), if_pos hr, if_pos hr]
          exact C_ledR hi
        · rw [if_neg h3, if_pos rfl]
          by_cases h5 : iN d < iN f
          · have hr : ¬ rfL G.2.1.1 (iN d) (iN f) := fun e => by
              rcases e with e | e
              · rw [xd] at e; exact h3 e
              · exact Int32.not_lt.mpr e.2 h5
            rw [if_pos h5, if_neg hr, if_neg hr]
            exact C_ledT hg hi hd
          · have hr : rfL G.2.1.1 (iN d) (iN f) := Or.inr ⟨h2, Int32.not_lt.mp h5⟩
            rw [if_neg h5, if_pos hr, if_pos hr]
            exact C_ledR hi
      · have h5 : ¬ (x = -1 ∨ inr x G.1.1) := fun e => by rcases e with e | e; exact h2 e; exact h4 e
        simp only [nc_f hp hn h4, bU_r, if_neg h5, rn_some]
        exact ⟨trivial, hi, MS.rfl⟩
  · simp only [fX11_lead, nc_f hp hn h1, bU_r, if_neg h1, rn_some]
    exact ⟨trivial, hi, MS.rfl⟩
theorem M_ledT {d : Nat} {x : Int32} (hN : 30000 ≤ N) (hg : GW G) (hi : IM G S) (hd : d < G.1.1) : rn (bV (fX12_keeps N S) fun S2 => bV (fX12_leads N 0 (iN d) x S2) fun S3 => some ((1 : Int32), S3)) (fun q => (q.2.1 80 0 = S.1 80 0 ∧ q.1 = 1) ∧ IM (kpG G (ledS G.2.1.1 d x)) q.2 ∧ CS S q.2) := by
  have hn := hg.2.1.1.1
  rw [rn_bV]
  refine rn_mono (M_keeps hN hn hg.2.1.2.1.1 hi.2.1) (fun U hU => ?_)
  rw [rn_bV]
  refine rn_mono (M_leads (b := 0) (x := x) hn (by omega) hd hU.1.1) (fun W hW => ?_)
  rw [rn_some]
  have := actM hi hU.1 hU.2 hW.1 hW.2
  exact ⟨⟨this.2.2, rfl⟩, this.1, this.2.1⟩
theorem M_ledR (hi : IM G S) : rn (bI (fX12_refuses N 1 S) fun x28 S29 => lt ((if x28 ≤ 0 then 0 else 1) : Int32) fun x32 => gd (b01 x32) <| some (x32, S29)) (fun q => (q.2.1 80 0 = S.1 80 0 ∧ q.1 = 0) ∧ IM (rfG G 1) q.2 ∧ CS S q.2) := by
  rw [rn_bI]
  refine rn_mono (M_ref (k := 1) (by omega) hi) (fun q hq => ?_)
  have e : (if q.1 ≤ 0 then (0 : Int32) else 1) = 0 := by rw [hq.1]; decide
  rw [lt_b, e, rn_gd, rn_some]
  exact ⟨Or.inl rfl, ⟨hq.2.2.2, rfl⟩, hq.2.1, hq.2.2.1⟩
theorem M_lead {c x : Int32} (hN : 30000 ≤ N) (hg : GW G) (hi : IM G S) : rn (fX12_lead N c x S) (fun q => MA k1 (aLead G c x) q.1 (q.2.1 80 0) ∧ IM (nLead G c x) q.2 ∧ CS S q.2) := by
  have hn := hg.2.1.1.1
  have hi0 := IM_z (k := 0) hg hi
  have hC0 : CS S (u2 S.1 80 0 0, S.2) := zFP.2
  have hz := z0 (S := S)
  unfold aLead nLead fX12_lead
  refine rn_l (fun T eT => ?_)
  rw [← eT] at hi0 hC0 hz
  clear eT
  have h80 : T.1 80 1 = iN G.1.1 := hi0.1.1
  have bad : MA k1 (.inr nNSE : Int32 ⊕ String) 0 (u2 T.1 80 0 1 80 0) := by
    show u2 T.1 80 0 1 80 0 = 1
    rw [u2_at, upd_at]
  by_cases h1 : inr c G.1.1
  · obtain ⟨d, hd, rfl⟩ := inr_c h1
    have xd : ix (iN d) = d := ix_iN (by omega)
    have o1 : (19 : Int32) + iN d = iN (0 + 19 + d) := by rw [show (19 : Int32) = iN 19 from rfl, iN_add]
    have i1 : inr (iN (0 + 19 + d)) 128 := inr_iN (by omega) (by omega)
    have x1 : ix (iN (0 + 19 + d)) = 0 + 19 + d := ix_iN (by omega)
    have hr : T.1 91 (0 + 19 + d) = G.2.1.1 2 d := (hi0.2.1.1.2 d hd).2.2.1
    have o2 : (28 : Int32) + iN d = iN (0 + 28 + d) := by rw [show (28 : Int32) = iN 28 from rfl, iN_add]
    have i2 : inr (iN (0 + 28 + d)) 128 := inr_iN (by omega) (by omega)
    have x2 : ix (iN (0 + 28 + d)) = 0 + 28 + d := ix_iN (by omega)
    have hr2 : T.1 91 (0 + 28 + d) = G.2.1.1 3 d := (hi0.2.1.1.2 d hd).2.2.2.1
    have tT : ∀ y : Int32, rn (bV (fX12_keeps N T) fun S2 => bV (fX12_leads N 0 (iN d) y S2) fun S3 => some ((1 : Int32), S3)) (fun q => MA k1 (.inl 1 : Int32 ⊕ String) q.1 (q.2.1 80 0) ∧ IM (kpG G (ledS G.2.1.1 (ix (iN d)) y)) q.2 ∧ CS S q.2) := fun y =>
      rn_mono (M_ledT hN hg hi0 hd) (fun q hq => ⟨⟨hq.1.1.trans hz, hq.1.2⟩, (by rw [xd]; exact hq.2.1), hC0.tr hq.2.2⟩)
    have tR : rn (bI (fX12_refuses N 1 T) fun x28 S29 => lt ((if x28 ≤ 0 then 0 else 1) : Int32) fun x32 => gd (b01 x32) <| some (x32, S29)) (fun q => MA k1 (.inl 0 : Int32 ⊕ String) q.1 (q.2.1 80 0) ∧ IM (rfG G 1) q.2 ∧ CS S q.2) :=
      rn_mono (M_ledR hi0) (fun q hq => ⟨⟨hq.1.1.trans hz, hq.1.2⟩, hq.2.1, hC0.tr hq.2.2⟩)
    rw [ic_t hz hn h80 hd, bI_s, if_neg (by decide), if_pos h1, if_pos h1]
    by_cases h2 : x = -1
    · subst h2
      rw [if_neg (by decide), h80]
      rw [lt_b, if_neg (by rw [show (iN G.1.1 ≤ -1) = ((iN G.1.1).toInt ≤ (-1 : Int32).toInt) from propext Int32.le_iff_toInt_le, iN_ti (by omega), show (-1 : Int32).toInt = -1 from by decide]; omega), rt_t hz (by decide), bI_s, if_neg (by decide), if_pos rfl, if_pos (Or.inl rfl), if_pos (Or.inl rfl)]
      rw [o2, gd_t i2, x2, hr2, o1, gd_t i1, x1, hr]
      by_cases h3 : G.2.1.1 3 d = -1
      · by_cases h4 : G.2.1.1 2 d = -1
        · have hq : rfL G.2.1.1 (iN d) (-1) := Or.inl (by rw [xd]; exact ⟨h4, h3⟩)
          rw [if_pos h3, if_pos h4, if_pos hq, if_pos hq]
          exact tR
        · have hq : ¬ rfL G.2.1.1 (iN d) (-1) := fun e => by
            rcases e with e | e
            · rw [xd] at e; exact h4 e.1
            · exact e.1 rfl
          rw [if_pos h3, if_neg h4, if_neg hq, if_neg hq]
          exact tT _
      · have hq : ¬ rfL G.2.1.1 (iN d) (-1) := fun e => by
          rcases e with e | e
          · rw [xd] at e; exact h3 e.2
          · exact e.1 rfl
        rw [if_neg h3, if_neg hq, if_neg hq]
        exact tT _
    · by_cases h4 : inr x G.1.1
      · obtain ⟨f, hf, rfl⟩ := inr_c h4
        have l1 : ¬ (iN f < -1) := by
          rw [lt_ti, iN_ti (by omega), show (-1 : Int32).toInt = -1 from by decide]; omega
        rw [if_neg l1, h80]
        rw [lt_b, if_neg (by rw [iN_le (by omega) (by omega)]; omega), rt_t hz (by decide), bI_s, if_neg (by decide), if_neg h2, if_pos (Or.inr h4), if_pos (Or.inr h4)]
        rw [o2, gd_t i2, x2, hr2, o1, gd_t i1, x1, hr]
        by_cases h5 : iN f ≤ iN d
        · have hq : rfL G.2.1.1 (iN d) (iN f) := Or.inr ⟨h2, h5⟩
          rw [if_pos h5, if_pos hq, if_pos hq]
          exact tR
        · rw [if_neg h5]
          by_cases h3 : G.2.1.1 3 d = -1
          · by_cases h4 : G.2.1.1 2 d = iN f
            · have hq : rfL G.2.1.1 (iN d) (iN f) := Or.inl (by rw [xd]; exact ⟨h4, h3⟩)
              rw [if_pos h3, if_pos h4, if_pos hq, if_pos hq]
              exact tR
            · have hq : ¬ rfL G.2.1.1 (iN d) (iN f) := fun e => by
                rcases e with e | e
                · rw [xd] at e; exact h4 e.1
                · exact h5 e.2
              rw [if_pos h3, if_neg h4, if_neg hq, if_neg hq]
              exact tT _
          · have hq : ¬ rfL G.2.1.1 (iN d) (iN f) := fun e => by
              rcases e with e | e
              · rw [xd] at e; exact h3 e.2
              · exact h5 e.2
            rw [if_neg h3, if_neg hq, if_neg hq]
            exact tT _
      · have h5 : ¬ (x = -1 ∨ inr x G.1.1) := fun e => by rcases e with e | e; exact h2 e; exact h4 e
        rw [if_neg h5, if_neg h5]
        by_cases h6 : x < -1
        · rw [if_pos h6, rt_f hz (by decide), bI_s, if_pos rfl, rn_some]
          exact ⟨bad, IM_z hg hi0, hC0.tr zFP.2⟩
        · have h7 : iN G.1.1 ≤ x := by
            rw [lt_ti, show (-1 : Int32).toInt = -1 from by decide] at h6
            rw [le_ti, iN_ti (by omega)]
            have : x.toInt ≠ -1 := fun e => h2 (Int32.toInt_inj.mp (e.trans (by decide)))
            apply Classical.byContradiction
            intro h8
            exact h4 ⟨by omega, by omega⟩
          rw [if_neg h6, h80]
          rw [lt_b, if_pos h7, rt_f hz (by decide), bI_s, if_pos rfl, rn_some]
          exact ⟨bad, IM_z hg hi0, hC0.tr zFP.2⟩
  · simp only [ic_f hz hn h80 h1, bI_s, if_true, if_neg h1, rn_some]
    exact ⟨bad, IM_z hg hi0, hC0.tr zFP.2⟩
end LEAD
