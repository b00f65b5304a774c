/-! ===== phase 2: hear, forget, fault ===== -/
section HEAR
variable {N : Nat} {G : Gs} {M : Mi} {S : PS}
def hrM (M : Mi) (c h s : Int32) : Mi := (M.1, M.2.1, (M.2.2.1 + 1, fun i k => if i = M.2.2.1 then (if k = 0 then c else if k = 1 then h else if s = 0 then 0 else 1) else M.2.2.2 i k))
theorem hr_WM {n d : Nat} {h s : Int32} (hw : WM n M) (hd : d < n) (h8 : M.2.2.1 < 8) : WM n (hrM M (iN d) h s) := by
  refine ⟨hw.1, hw.2.1, ?_, fun i hi => ?_⟩
  · show M.2.2.1 + 1 ≤ 8
    omega
  · have hi' : i < M.2.2.1 + 1 := hi
    show (∃ c, c < n ∧ (if i = M.2.2.1 then (if (0 : Nat) = 0 then iN d else if (0 : Nat) = 1 then h else if s = 0 then 0 else 1) else M.2.2.2 i 0) = iN c) ∧ ((if i = M.2.2.1 then (if (2 : Nat) = 0 then iN d else if (2 : Nat) = 1 then h else if s = 0 then (0 : Int32) else 1) else M.2.2.2 i 2) = 0 ∨ (if i = M.2.2.1 then (if (2 : Nat) = 0 then iN d else if (2 : Nat) = 1 then h else if s = 0 then (0 : Int32) else 1) else M.2.2.2 i 2) = 1)
    by_cases e : i = M.2.2.1
    · simp only [if_pos e, if_true]
      refine ⟨⟨d, hd, rfl⟩, ?_⟩
      rw [if_neg (by decide), if_neg (by decide)]
      by_cases es : s = 0
      · exact Or.inl (if_pos es)
      · exact Or.inr (if_neg es)
    · simp only [if_neg e]
      exact hw.2.2.2 i (by omega)
theorem hr_new {c h s : Int32} {i : Nat} (e : i = M.2.2.1) : (hrM M c h s).2.2.2 i 0 = c ∧ (hrM M c h s).2.2.2 i 1 = h ∧ (hrM M c h s).2.2.2 i 2 = if s = 0 then 0 else 1 := by
  unfold hrM
  refine ⟨?_, ?_, ?_⟩
  · simp [e]
  · simp [e]
  · simp [e]
theorem hr_old {c h s : Int32} {i : Nat} (e : i ≠ M.2.2.1) (k : Nat) : (hrM M c h s).2.2.2 i k = M.2.2.2 i k := by
  unfold hrM
  simp [e]
/-- heard once more, in the class -/
theorem C_hr {T : PS} {c h s : Int32} {f : Nat → Int32} (hm : CMi 18 8 34 10 36 37 M S) (h8 : M.2.2.1 < 8) (hF : FC (fun a => a = 10 ∨ a = 36 ∨ a = 37) S T) (e3 : T.1 10 3 = iN (M.2.2.1 + 1)) (e2 : bt (T.1 10 2) f) (ef : ∀ i, i < M.2.2.1 + 1 → f i = (hrM M c h s).2.2.2 i 2) (e36 : T.1 36 = upd (S.1 36) M.2.2.1 c) (e37 : T.1 37 = upd (S.1 37) M.2.2.1 h) : CMi 18 8 34 10 36 37 (hrM M c h s) T := by
  obtain ⟨h1, ⟨h2, h3⟩, h4, h5, h6⟩ := hm
  refine ⟨h1.fr is18 hF.1 (fun a ha hc => by unfold cuC at ha; omega), ?_, e3, ⟨f, e2, ef⟩, fun i hi => ?_⟩
  · rw [hF.1 8 (by omega), hF.1 34 (by omega)]
    exact ⟨h2, h3⟩
  · have hi' : i < M.2.2.1 + 1 := hi
    rw [e36, e37]
    by_cases e : i = M.2.2.1
    · rw [(hr_new e).1, (hr_new e).2.1, e, upd_at, upd_at]
      exact ⟨rfl, rfl⟩
    · rw [hr_old e, hr_old e, upd_o e, upd_o e]
      exact h6 i (by omega)
theorem C_note {c h s : Int32} (hm : CMi 18 8 34 10 36 37 M S) (h8 : M.2.2.1 < 8) : rn (fX5_note N 10 c h s S) (fun U => CMi 18 8 34 10 36 37 (hrM M c h s) U ∧ FC (fun a => a = 10 ∨ a = 36 ∨ a = 37) S U) := by
  have hm' := hm
  obtain ⟨h1, h2, h4, ⟨f, h5, h5'⟩, h6⟩ := hm
  have k8 : ¬ ((8 : Int32) ≤ S.1 10 3) := by rw [h4, show (8 : Int32) = iN 8 from rfl, iN_le (by omega) (by omega)]; omega
  have i8 : inr (iN M.2.2.1) 8 := inr_iN h8 (by omega)
  have x8 : ix (iN M.2.2.1) = M.2.2.1 := ix_iN (by omega)
  have s0 : sr 10 0 = 36 := rfl
  have s1 : sr 10 1 = 37 := rfl
  unfold fX5_note
  rw [gd_t ob10, if_neg k8, gd_t ob10, gd_t ob10, s0, s1, gd_t ar36, h4, gd_t i8, x8]
  refine rn_u (fun T1 u1 => ?_)
  have t1 : T1.1 10 3 = iN M.2.2.1 := by rw [u1.2.1 10 (by decide)]; exact h4
  rw [gd_t ob10, gd_t ob10, gd_t ar37, t1, gd_t i8, x8]
  refine rn_u (fun T2 u2 => ?_)
  have t2 : T2.1 10 3 = iN M.2.2.1 := by rw [u2.2.1 10 (by decide)]; exact t1
  have b2 : bt (T2.1 10 2) f := by rw [u2.2.1 10 (by decide), u1.2.1 10 (by decide)]; exact h5
  have F2 : FC (fun a => a = 10 ∨ a = 36 ∨ a = 37) S T2 := (FC.rfl.ur u1 (Or.inr (Or.inl rfl))).ur u2 (Or.inr (Or.inr rfl))
  have a36 : T2.1 36 = upd (S.1 36) M.2.2.1 c := by rw [u2.2.1 36 (by decide), u1.1]
  have a37 : T2.1 37 = upd (S.1 37) M.2.2.1 h := by rw [u2.1, u1.2.1 37 (by decide)]
  have ef : ∀ v : Int32, v = (if s = 0 then 0 else 1) → ∀ i, i < M.2.2.1 + 1 → upd f M.2.2.1 v i = (hrM M c h s).2.2.2 i 2 := fun v hv i hi => by
    by_cases e : i = M.2.2.1
    · rw [(hr_new e).2.2, e, upd_at, hv]
    · rw [hr_old e, upd_o e]
      exact h5' i (by omega)
  by_cases es : s = 0
  · rw [if_pos es, gd_t ob10, gd_t ob10, gd_t ob10, t2]
    refine rn_u (fun T3 u3 => ?_)
    rw [gd_t ob10, gd_t ob10]
    refine rn_u (fun T4 u4 => ?_)
    rw [rn_some]
    have t3 : T3.1 10 3 = iN M.2.2.1 := by rw [u3.1, upd_o (by decide)]; exact t2
    have F4 := (F2.ur u3 (Or.inl rfl)).ur u4 (Or.inl rfl)
    refine ⟨C_hr hm' h8 F4 ?_ (f := upd f M.2.2.1 0) ?_ (ef 0 (if_pos es).symm) ?_ ?_, F4⟩
    · rw [u4.1, upd_at, t3, show (1 : Int32) = iN 1 from rfl, iN_add]
    · rw [u4.1, upd_o (by decide), u3.1, upd_at]
      exact bt_clr b2 (by omega)
    · rw [u4.2.1 36 (by decide), u3.2.1 36 (by decide)]; exact a36
    · rw [u4.2.1 37 (by decide), u3.2.1 37 (by decide)]; exact a37
  · rw [if_neg es, gd_t ob10, gd_t ob10, gd_t ob10, t2]
    refine rn_u (fun T3 u3 => ?_)
    rw [gd_t ob10, gd_t ob10]
    refine rn_u (fun T4 u4 => ?_)
    rw [rn_some]
    have t3 : T3.1 10 3 = iN M.2.2.1 := by rw [u3.1, upd_o (by decide)]; exact t2
    have F4 := (F2.ur u3 (Or.inl rfl)).ur u4 (Or.inl rfl)
    refine ⟨C_hr hm' h8 F4 ?_ (f := upd f M.2.2.1 1) ?_ (ef 1 (if_neg es).symm) ?_ ?_, F4⟩
    · rw [u4.1, upd_at, t3, show (1 : Int32) = iN 1 from rfl, iN_add]
    · rw [u4.1, upd_o (by decide), u3.1, upd_at]
      exact bt_or b2 (by omega)
    · rw [u4.2.1 36 (by decide), u3.2.1 36 (by decide)]; exact a36
    · rw [u4.2.1 37 (by decide), u3.2.1 37 (by decide)]; exact a37
def aHear (G : Gs) (c h : Int32) : Int32 ⊕ String := if inr c G.1.1 then (if G.2.1.2.2.1 = 8 then .inl (-1) else if btw h 1 40 then .inl (iN (G.2.1.2.2.1 + 1)) else .inl (-1)) else .inr nNSE
def nHear (G : Gs) (c h s : Int32) : Gs := if inr c G.1.1 then (if G.2.1.2.2.1 = 8 then rfG G 2 else if btw h 1 40 then nwG G (hrM G.2.1 c h s) else rfG G 2) else G
theorem GW_hear {c h s : Int32} (hg : GW G) : GW (nHear G c h s) := by
  unfold nHear
  split
  · rename_i h1
    obtain ⟨d, hd, rfl⟩ := inr_c h1
    split
    · exact hg
    · rename_i h2
      split
      · exact GW_now hg (hr_WM hg.2.1 hd (by have := hg.2.1.2.2.1; omega))
      · exact hg
  · exact hg
theorem C_hear {c h s : Int32} (hg : GW G) (hi : IC G S) : rn (fX11_hear N c h s S) (fun q => q.1 = aHear G c h ∧ IC (nHear G c h s) q.2 ∧ MS S q.2) := by
  obtain ⟨p, hp⟩ := cup_C hg hi
  have hn := hg.2.1.1.1
  have h8 := hg.2.1.2.2.1
  have h4 : S.1 10 3 = iN G.2.1.2.2.1 := hi.2.1.2.2.1
  have rf := IC_rf (k := 2) hi (by omega)
  unfold aHear nHear
  by_cases h1 : inr c G.1.1
  · obtain ⟨d, hd, rfl⟩ := inr_c h1
    unfold fX11_hear
    rw [nc_t hp hn hd, bU_l, if_pos h1, if_pos h1]
    by_cases e : G.2.1.2.2.1 = 8
    · have k8 : (8 : Int32) ≤ S.1 10 3 := by rw [h4, e]; decide
      rw [if_pos k8, if_pos e, if_pos e, rn_lt, rn_some]
      exact ⟨rfl, rf.1, rf.2⟩
    · have k8 : ¬ ((8 : Int32) ≤ S.1 10 3) := by rw [h4, show (8 : Int32) = iN 8 from rfl, iN_le (by omega) (by omega)]; omega
      rw [if_neg k8, if_neg e, if_neg e]
      by_cases h2 : btw h 1 40
      · rw [if_neg (Int32.not_lt.mpr h2.1), if_pos h2.2, if_pos h2, if_pos h2, rn_bV]
        refine rn_mono (C_note hi.2.1 (by omega)) (fun U hU => ?_)
        rw [rn_some]
        have e3 : U.1 10 3 = iN (G.2.1.2.2.1 + 1) := hU.1.2.2.1
        refine ⟨by rw [e3], IC_now hi (PN_fc hU.2 (fun a ha => ?_)) hU.1, MS_fc hU.2 (fun a ha => by omega)⟩
        unfold nowC pc ceC
        omega
      · rw [if_neg h2, if_neg h2]
        by_cases h3 : h < 1
        · rw [if_pos h3, rn_lt, rn_some]
          exact ⟨rfl, rf.1, rf.2⟩
        · rw [if_neg h3, if_neg (fun e => h2 ⟨Int32.not_lt.mp h3, e⟩), rn_lt, rn_some]
          exact ⟨rfl, rf.1, rf.2⟩
  · simp only [fX11_hear, nc_f hp hn h1, bU_r, if_neg h1, rn_some]
    exact ⟨trivial, hi, MS.rfl⟩
theorem M_hear {c h s : Int32} (hN : 30000 ≤ N) (hg : GW G) (hi : IM G S) : rn (fX12_hear N c h s S) (fun q => MA k1 (aHear G c h) q.1 (q.2.1 80 0) ∧ IM (nHear G c h s) q.2 ∧ CS S q.2) := by
  have hn := hg.2.1.1.1
  have h8 := hg.2.1.2.2.1
  have hi0 := IM_z (k := 0) hg hi
  have hC0 : CS S (u2 S.1 80 0 0, S.2) := zFP.2
  have hz := z0 (S := S)
  unfold aHear nHear fX12_hear
  refine rn_l (fun T eT => ?_)
  rw [← eT] at hi0 hC0 hz
  clear eT
  have h80 : T.1 80 1 = iN G.1.1 := hi0.1.1
  have h49 : T.1 80 49 = iN G.2.1.2.2.1 := hi0.2.1.2.2.1
  by_cases h1 : inr c G.1.1
  · obtain ⟨d, hd, rfl⟩ := inr_c h1
    rw [ic_t hz hn h80 hd, bI_s, if_neg (by decide), if_pos h1, if_pos h1]
    by_cases e : G.2.1.2.2.1 = 8
    · have k8 : T.1 80 49 = 8 := by rw [h49, e]; rfl
      rw [if_pos k8, if_pos e, if_pos e, rn_bI]
      refine rn_mono (M_ref (k := 2) (by omega) hi0) (fun q hq => ?_)
      rw [rn_some]
      exact ⟨⟨hq.2.2.2.trans hz, hq.1⟩, hq.2.1, hC0.tr hq.2.2.1⟩
    · have k8 : ¬ (T.1 80 49 = 8) := by rw [h49, show (8 : Int32) = iN 8 from rfl, iN_eq (by omega) (by omega)]; exact e
      rw [if_neg k8, if_neg e, if_neg e]
      by_cases h2 : btw h 1 40
      · rw [wi_t h2, bI_s, if_neg (by decide), if_pos h2, if_pos h2]
        have m3 : ∀ x : Int32, x = iN G.2.1.2.2.1 → (3 : Int32) * x = iN (3 * G.2.1.2.2.1) := fun x hx => by rw [hx, show (3 : Int32) = iN 3 from rfl, iN_mul]
        have i0 : inr (iN (3 * G.2.1.2.2.1)) 24 := inr_iN (by omega) (by omega)
        have x0 : ix (iN (3 * G.2.1.2.2.1)) = 3 * G.2.1.2.2.1 := ix_iN (by omega)
        have a1 : iN (3 * G.2.1.2.2.1) + 1 = iN (3 * G.2.1.2.2.1 + 1) := by rw [show (1 : Int32) = iN 1 from rfl, iN_add]
        have a2 : iN (3 * G.2.1.2.2.1) + 2 = iN (3 * G.2.1.2.2.1 + 2) := by rw [show (2 : Int32) = iN 2 from rfl, iN_add]
        have i1 : inr (iN (3 * G.2.1.2.2.1 + 1)) 24 := inr_iN (by omega) (by omega)
        have x1 : ix (iN (3 * G.2.1.2.2.1 + 1)) = 3 * G.2.1.2.2.1 + 1 := ix_iN (by omega)
        have i2 : inr (iN (3 * G.2.1.2.2.1 + 2)) 24 := inr_iN (by omega) (by omega)
        have x2 : ix (iN (3 * G.2.1.2.2.1 + 2)) = 3 * G.2.1.2.2.1 + 2 := ix_iN (by omega)
        rw [m3 _ h49, gd_t i0, x0]
        refine rn_u (fun T1 u1 => ?_)
        have t1 : T1.1 80 49 = iN G.2.1.2.2.1 := by rw [u1.2.1 80 (by decide)]; exact h49
        rw [m3 _ t1, a1, gd_t i1, x1]
        refine rn_u (fun T2 u2 => ?_)
        have t2 : T2.1 80 49 = iN G.2.1.2.2.1 := by rw [u2.2.1 80 (by decide)]; exact t1
        rw [lt_b, m3 _ t2, a2, gd_t i2, x2]
        refine rn_u (fun T3 u3 => ?_)
        have t3 : T3.1 80 49 = iN G.2.1.2.2.1 := by rw [u3.2.1 80 (by decide)]; exact t2
        refine rn_u (fun T4 u4 => ?_)
        have t4 : T4.1 80 49 = iN (G.2.1.2.2.1 + 1) := by rw [u4.1, upd_at, t3, show (1 : Int32) = iN 1 from rfl, iN_add]
        rw [rn_some]
        have o3 : ∀ a, a ≠ 105 → T3.1 a = T.1 a := fun a ha => by rw [u3.2.1 a ha, u2.2.1 a ha, u1.2.1 a ha]
        have o4 : ∀ a, a ≠ 105 → a ≠ 80 → T4.1 a = T.1 a := fun a ha hb => by rw [u4.2.1 a hb]; exact o3 a ha
        have f4 : ∀ k, k ≠ 49 → T4.1 80 k = T.1 80 k := fun k hk => by rw [u4.1, upd_o hk, o3 80 (by decide)]
        have e105 : T4.1 105 = upd (upd (upd (T.1 105) (3 * G.2.1.2.2.1) (iN d)) (3 * G.2.1.2.2.1 + 1) h) (3 * G.2.1.2.2.1 + 2) (if s = 0 then 0 else 1) := by
          rw [u4.2.1 105 (by decide), u3.1, u2.1, u1.1]
        have e2 : T4.2 = T.2 := by rw [u4.2.2, u3.2.2, u2.2.2, u1.2.2]
        have hP : PMn T T4 := ⟨fun a ha _ hb => o4 a hb (by unfold pm at ha; omega), fun k _ _ hk => f4 k hk⟩
        have hCS : CS T T4 := fun a ha => ⟨o4 a (by omega) (by omega), by rw [e2], by rw [e2]⟩
        refine ⟨⟨(f4 0 (by decide)).trans hz, t4⟩, IM_now hi0 hP ?_, hC0.tr hCS⟩
        obtain ⟨g1, g2, g3, g4⟩ := hi0.2.1
        rw [o4 91 (by decide) (by decide), o4 92 (by decide) (by decide), f4 33 (by decide), e105]
        refine ⟨g1, g2, t4, fun i hi => ?_⟩
        have hi' : i < G.2.1.2.2.1 + 1 := hi
        by_cases ei : i = G.2.1.2.2.1
        · rw [(hr_new ei).1, (hr_new ei).2.1, (hr_new ei).2.2, ei]
          refine ⟨?_, ?_, ?_⟩
          · rw [upd_o (by omega), upd_o (by omega), upd_at]
          · rw [upd_o (by omega), upd_at]
          · rw [upd_at]
        · rw [hr_old ei, hr_old ei, hr_old ei]
          have := g4 i (by omega)
          refine ⟨?_, ?_, ?_⟩
          · rw [upd_o (by omega), upd_o (by omega), upd_o (by omega)]; exact this.1
          · rw [upd_o (by omega), upd_o (by omega), upd_o (by omega)]; exact this.2.1
          · rw [upd_o (by omega), upd_o (by omega), upd_o (by omega)]; exact this.2.2
      · rw [wi_f h2, bI_s, if_pos rfl, if_neg h2, if_neg h2, rn_bI]
        refine rn_mono (M_ref (k := 2) (by omega) hi0) (fun q hq => ?_)
        rw [rn_some]
        exact ⟨⟨hq.2.2.2.trans hz, hq.1⟩, hq.2.1, hC0.tr hq.2.2.1⟩
  · simp only [ic_f hz hn h80 h1, bI_s, if_true, if_neg h1, rn_some]
    refine ⟨?_, IM_z hg hi0, hC0.tr zFP.2⟩
    show u2 T.1 80 0 1 80 0 = 1
    rw [u2_at, upd_at]
/-! forget -/
def fgM (M : Mi) : Mi := (M.1, M.2.1, (0, M.2.2.2))
theorem GW_forget (hg : GW G) : GW (nwG G (fgM G.2.1)) := GW_now hg ⟨hg.2.1.1, hg.2.1.2.1, Nat.zero_le 8, fun i hi => absurd hi (Nat.not_lt_zero i)⟩
theorem C_forget (hi : IC G S) : rn (fX11_forget N S) (fun q => IC (nwG G (fgM G.2.1)) q ∧ MS S q) := by
  unfold fX11_forget
  refine rn_u (fun T u => ?_)
  rw [rn_some]
  have hF : FC (fun a => a = 10) S T := FC.rfl.ur u rfl
  refine ⟨IC_now hi (PN_fc hF (fun a ha => by unfold nowC pc ceC; omega)) ?_, MS_fc hF (fun a ha => by omega)⟩
  obtain ⟨h1, h2, h4, ⟨f, h5, h5'⟩, h6⟩ := hi.2.1
  refine ⟨h1.fr is18 hF.1 (fun a ha hc => by unfold cuC at ha; omega), ?_, ?_, ⟨f, ?_, fun i hi => absurd hi (Nat.not_lt_zero i)⟩, fun i hi => absurd hi (Nat.not_lt_zero i)⟩
  · rw [hF.1 8 (by omega), hF.1 34 (by omega)]; exact h2
  · rw [u.1, upd_at]; rfl
  · rw [u.1, upd_o (by decide)]; exact h5
theorem M_forget (hg : GW G) (hi : IM G S) : rn (fX12_forget N S) (fun q => IM (nwG G (fgM G.2.1)) q ∧ CS S q) := by
  have hi0 := IM_z (k := 0) hg hi
  have hC0 : CS S (u2 S.1 80 0 0, S.2) := zFP.2
  unfold fX12_forget
  refine rn_l (fun T eT => ?_)
  rw [← eT] at hi0 hC0
  clear eT
  refine rn_u (fun T2 u => ?_)
  rw [rn_some]
  have f4 : ∀ k, k ≠ 49 → T2.1 80 k = T.1 80 k := fun k hk => by rw [u.1, upd_o hk]
  refine ⟨IM_now hi0 ⟨fun a ha _ hb => u.2.1 a (by unfold pm at ha; omega), fun k _ _ hk => f4 k hk⟩ ?_, hC0.tr (fun a ha => ⟨u.2.1 a (by omega), by rw [u.2.2], by rw [u.2.2]⟩)⟩
  obtain ⟨g1, g2, g3, g4⟩ := hi0.2.1
  rw [u.2.1 91 (by decide), u.2.1 92 (by decide), u.2.1 105 (by decide), f4 33 (by decide)]
  refine ⟨g1, g2, ?_, fun i hi => absurd hi (Nat.not_lt_zero i)⟩
  rw [u.1, upd_at]; rfl
/-! fault -/
theorem C_fault (hi : IC G S) : rn (fX11_fault N S) (fun q => q.1 = G.2.2.2.2.1 ∧ IC G q.2 ∧ MS S q.2) := by
  unfold fX11_fault
  rw [rn_some]
  exact ⟨hi.2.2.2.2.1, hi, MS.rfl⟩
theorem M_fault (hg : GW G) (hi : IM G S) : rn (fX12_fault N S) (fun q => q.1 = G.2.2.2.2.1 ∧ IM G q.2 ∧ CS S q.2) := by
  have hi0 := IM_z (k := 0) hg hi
  have hC0 : CS S (u2 S.1 80 0 0, S.2) := zFP.2
  unfold fX12_fault
  refine rn_l (fun T eT => ?_)
  rw [← eT] at hi0 hC0
  clear eT
  rw [rn_some]
  exact ⟨hi0.2.2.2.2.1, hi0, hC0⟩
end HEAR
