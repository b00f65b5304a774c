/-! ===== phase 2: to crack, to pour, office ===== -/
theorem TR_chg {V : Cv} {A A' : Rw} {T : Nat → Int32} {L : Int32} {S U : PS} (h : TR V A T L 0 S) (hA : CU 20 A' U) (hf : FC (cuC 20) S U) : TR V A' T L 0 U ∧ FQ S U := by
  obtain ⟨h1, h2, h3, h4, h5, p, h6⟩ := h
  have hf2 : FC (hcC 20) S U := hf.mono (fun a ha => Or.inr (Or.inr (Or.inr (Or.inr ha))))
  refine ⟨⟨hA, fun c hc => ?_, ?_, fun hh => by omega, by rw [hf.2]; exact h5, p, h6.fc is20 hf2⟩, FQ.fc hf2 (fun a ha => hcC_q ha)⟩
  · rw [hf.1 28 (cuC_no is20 (by omega))]; exact h2 c hc
  · rw [hf.1 5 (cuC_no is20 (by omega))]; exact h3
theorem bt_nat {x lo hi : Int32} {l h : Nat} (hl : lo = iN l) (hh : hi = iN h) (h2 : h < 2147483648) (h3 : l < 2147483648) {m : Nat} (e : x = iN m) (a : l ≤ m) (b : m ≤ h) : btw x lo hi := by
  subst hl hh e
  exact ⟨by rw [iN_le h3 (by omega)]; exact a, by rw [iN_le (by omega) h2]; exact b⟩
theorem iN_gt {k c : Nat} {x : Int32} (hx : x = iN c) (h : k < 2147483648) (hc : c < 2147483648) : x < iN k ↔ c < k := by rw [hx, iN_lt hc h]
section Q5
variable {N : Nat} {V : Cv} {A : Rw} {S : PS}
/-- how far the tips of a cup that holds h are from what is told -/
def offS (V : Cv) (A : Rw) (c : Nat) (many : Int32) (n h : Nat) : Int32 :=
  if smT V (crkS A c (iN h)) (fun _ => 0) n c ≤ many then many - smT V (crkS A c (iN h)) (fun _ => 0) n c else smT V (crkS A c (iN h)) (fun _ => 0) n c - many
def tcS (V : Cv) (A : Rw) (c : Nat) (many : Int32) (n : Nat) : Nat → Int32 × Int32
  | 0 => (-1, 0)
  | h + 1 => if (tcS V A c many n h).1 = -1 then (iN (h + 1), offS V A c many n (h + 1)) else if offS V A c many n (h + 1) < (tcS V A c many n h).2 then (iN (h + 1), offS V A c many n (h + 1)) else tcS V A c many n h
theorem tcS_p {c : Nat} {many : Int32} {n h : Nat} (hh : 1 ≤ h) : tcS V A c many n h = if (tcS V A c many n (h - 1)).1 = -1 then (iN h, offS V A c many n h) else if offS V A c many n h < (tcS V A c many n (h - 1)).2 then (iN h, offS V A c many n h) else tcS V A c many n (h - 1) := by
  obtain ⟨k, rfl⟩ : ∃ k, h = k + 1 := ⟨h - 1, by omega⟩
  rw [Nat.add_sub_cancel, tcS]
theorem abs_e {t m : Int32} (ht : 0 ≤ t.toInt) (hm : 0 ≤ m.toInt) : (if 0 ≤ (t - m) then (t - m) else 0 - (t - m)) = (if t ≤ m then m - t else t - m) := by
  have h1 := ti_hi t
  have h2 := ti_hi m
  have e1 : (t - m).toInt = t.toInt - m.toInt := ti_sub (by omega) (by omega)
  have e2 : (m - t).toInt = m.toInt - t.toInt := ti_sub (by omega) (by omega)
  have e3 : (0 - (t - m)).toInt = m.toInt - t.toInt := by rw [ti_sub] <;> rw [z_ti, e1] <;> omega
  rw [eq_ti]
  by_cases a : 0 ≤ (t - m)
  · rw [if_pos a]
    rw [le_ti, z_ti, e1] at a
    by_cases b : t ≤ m
    · rw [if_pos b]
      rw [le_ti] at b
      omega
    · rw [if_neg b]
  · rw [if_neg a]
    rw [le_ti, z_ti, e1] at a
    rw [if_pos (by rw [le_ti]; omega), e3, e2]
def aToCrack (V : Cv) (A : Rw) (c m h w : Int32) : Int32 ⊕ String :=
  if inr c V.1 then (if btw w 0 1 then (if btw m 0 2147483647 then (if btw h 1 60 then (.inl (if w = 0 then (tcS V A (ix c) m (ix h) 30).1 else (tcS V A (ix c) m (ix h) 30).2)) else .inr nIAE) else .inr nIAE) else .inr nNSE) else .inr nNSE
theorem C_toCrack {c m h w : Int32} (q : QC N V A S) : rn (fX11_toCrack N c m h w S) (fun r => r.1 = aToCrack V A c m h w ∧ FQ S r.2) := by
  obtain ⟨p, hp⟩ := q.2.2.2.2
  have hn := q.2.2.1.1
  have hN := q.1
  unfold aToCrack
  by_cases h1 : inr c V.1
  · obtain ⟨d, hd, rfl⟩ := inr_c h1
    by_cases h2 : btw w 0 1
    · by_cases h3 : btw m 0 2147483647
      · by_cases h4 : btw h 1 60
        · obtain ⟨k, rfl, hkl, hk⟩ := btw_nat (l := 1) (h := 60) rfl rfl (by omega) (by omega) h4
          have hm0 : 0 ≤ m.toInt := by
            have := h3.1
            rw [le_ti, z_ti] at this
            exact this
          have i9 : inr (iN d) 9 := inr_iN (by omega) (by omega)
          have x9 : ix (iN d) = d := ix_iN (by omega)
          have xk : ix (iN k) = k := ix_iN (by omega)
          simp only [fX11_toCrack, nc_t hp hn hd, nw_t h2, nr_t h4, bU_l, if_pos h1, if_pos h2, if_pos h3, if_pos h4, if_pos h3.1, rn_bT, rn_lt, rn_some, x9, xk]
          refine for3 (f := fun n j a b s => fX11_toCrack_42 N (iN d) m (iN k) w n a b (iN j) s) 31 (J := fun j a b W => 1 ≤ j ∧ a = (tcS V A d m k (j - 1)).1 ∧ b = (tcS V A d m k (j - 1)).2 ∧ FQ S W) ?_ ?_ N 1 (-1) 0 S (by omega) ⟨by omega, by rw [tcS], by rw [tcS], FQ.rfl⟩ (by omega)
          · rintro j a b W ⟨g0, g1, g2, g3⟩
            simp only [fX11_toCrack_42]
            rw [if_pos (show (30 : Int32) < iN 31 by decide), rn_some]
            exact ⟨by rw [g1, g2], g3⟩
          · rintro j k' a b W hk ⟨g0, g1, g2, g3⟩ ih
            have hii : ¬ 30 < iN k' := by rw [iN_gt (x := 30) (c := 30) rfl (by omega) (by omega)]; omega
            have qW := q.fq g3
            simp only [fX11_toCrack_42, if_neg hii, rn_bV]
            refine rn_mono qW.look0 (fun U hU => ?_)
            simp only [rn_lt, rn_bV, hU.1.2.2.2.2.1, gd_t is20.ob]
            refine rn_mono (C_holds is20 (by omega) hU.1.1) (fun U2 hU2 => ?_)
            obtain ⟨t1, t2⟩ := TR_chg hU.1 hU2.1 hU2.2
            have hw2 : WF V.1 (crkS A d (iN k')) := crk_WF q.2.2.1 hd (by rw [iN_ti (by omega)]; omega)
            refine rn_mono (C_goOn (m := k) hN q.2.1 hw2 (by omega) t1) (fun U3 hU3 => ?_)
            rw [Nat.zero_add] at hU3
            have ht := smT_r q.2.1 hw2 (c := d) (by omega) k (by omega)
            have hF3 := ((g3.tr hU.2).tr t2).tr hU3.2
            simp only [gd_t i9, rn_lt, x9, hU3.1.2.1 d (by omega), abs_e ht.1 hm0, iN_1]
            have hof : (if smT V (crkS A d (iN k')) (fun _ => 0) k d ≤ m then m - smT V (crkS A d (iN k')) (fun _ => 0) k d else smT V (crkS A d (iN k')) (fun _ => 0) k d - m) = offS V A d m k k' := rfl
            rw [hof]
            have hs := tcS_p (V := V) (A := A) (c := d) (many := m) (n := k) g0
            rw [← g1, ← g2] at hs
            by_cases e1 : a = -1
            · rw [if_pos e1] at hs ⊢
              refine ih _ _ _ ⟨by omega, ?_, ?_, hF3⟩
              · rw [Nat.add_sub_cancel, hs]
              · rw [Nat.add_sub_cancel, hs]
            · rw [if_neg e1] at hs ⊢
              by_cases e2 : offS V A d m k k' < b
              · rw [if_pos e2] at hs
                rw [if_neg (Int32.not_le.mpr e2)]
                refine ih _ _ _ ⟨by omega, ?_, ?_, hF3⟩
                · rw [Nat.add_sub_cancel, hs]
                · rw [Nat.add_sub_cancel, hs]
              · rw [if_neg e2] at hs
                rw [if_pos (Int32.not_lt.mp e2)]
                refine ih _ _ _ ⟨by omega, ?_, ?_, hF3⟩
                · rw [Nat.add_sub_cancel, hs]; exact g1
                · rw [Nat.add_sub_cancel, hs]; exact g2
        · simp only [fX11_toCrack, nc_t hp hn hd, nw_t h2, nr_f h4, bU_l, bU_r, if_pos h1, if_pos h2, if_pos h3, if_neg h4, rn_some]
          first | exact ⟨trivial, FQ.rfl⟩ | exact ⟨rfl, FQ.rfl⟩
      · have hm9 : ¬ 0 ≤ m := fun hh => h3 ⟨hh, by rw [le_ti, show (2147483647 : Int32).toInt = 2147483647 from by decide]; have := ti_hi m; omega⟩
        by_cases h4 : btw h 1 60
        · simp only [fX11_toCrack, nc_t hp hn hd, nw_t h2, nr_t h4, bU_l, bU_r, if_pos h1, if_pos h2, if_neg h3, if_neg hm9, rn_some]
          first | exact ⟨trivial, FQ.rfl⟩ | exact ⟨rfl, FQ.rfl⟩
        · simp only [fX11_toCrack, nc_t hp hn hd, nw_t h2, nr_f h4, bU_l, bU_r, if_pos h1, if_pos h2, if_neg h3, rn_some]
          first | exact ⟨trivial, FQ.rfl⟩ | exact ⟨rfl, FQ.rfl⟩
    · simp only [fX11_toCrack, nc_t hp hn hd, nw_f h2, bU_l, bU_r, if_pos h1, if_neg h2, rn_some]
      first | exact ⟨trivial, FQ.rfl⟩ | exact ⟨rfl, FQ.rfl⟩
  · simp only [fX11_toCrack, nc_f hp hn h1, bU_l, bU_r, if_neg h1, rn_some]
    first | exact ⟨trivial, FQ.rfl⟩ | exact ⟨rfl, FQ.rfl⟩
theorem M_tcl {d k : Nat} {m w : Int32} {T : PS} (q : QM N V A T) (t0 : T.1 80 0 = 0) (hd : d < V.1) (hk1 : 1 ≤ k) (hk : k ≤ 60) :
    rn (fX12_toCrack_61 N (iN d) m (iN k) w N (-1) 0 1 T) (fun r => r.1 = (tcS V A d m k 30).1 ∧ r.2.1 = (tcS V A d m k 30).2 ∧ r.2.2.2.1 80 0 = 0 ∧ FP T r.2.2.2) := by
  have hn := q.2.2.1.1
  have hN := q.1
  have i9 : inr (iN d) 9 := inr_iN (by omega) (by omega)
  have x9 : ix (iN d) = d := ix_iN (by omega)
  refine for3 (f := fun n j a b s => fX12_toCrack_61 N (iN d) m (iN k) w n a b (iN j) s) 31 (J := fun j a b W => 1 ≤ j ∧ a = (tcS V A d m k (j - 1)).1 ∧ b = (tcS V A d m k (j - 1)).2 ∧ W.1 80 0 = 0 ∧ FP T W) ?_ ?_ N 1 (-1) 0 T (by omega) ⟨by omega, by rw [tcS], by rw [tcS], t0, FP.rfl⟩ (by omega)
  · rintro j a b W ⟨g0, g1, g2, g3, g4⟩
    simp only [fX12_toCrack_61]
    rw [if_pos (show (30 : Int32) < iN 31 by decide), rn_some]
    exact ⟨g1, g2, g3, g4⟩
  · rintro j k' a b W hk' ⟨g0, g1, g2, g3, g4⟩ ih
    have hii : ¬ 30 < iN k' := by rw [iN_gt (x := 30) (c := 30) rfl (by omega) (by omega)]; omega
    have qW := q.fp g4
    simp only [fX12_toCrack_61, if_neg hii, rn_bV, rn_bT, rn_lt, iN_1]
    refine rn_mono qW.tries (fun U hU => ?_)
    refine rn_mono (M_cracks (b := 64) hn (by omega) hd hU.1.1) (fun U2 hU2 => ?_)
    have hw2 : WF V.1 (crkS A d (iN k')) := crk_WF q.2.2.1 hd (by rw [iN_ti (by omega)]; omega)
    have hTM : TM V (crkS A d (iN k')) 0 U2 := ⟨hU2.1, hU.1.2.fh hU2.2⟩
    refine for2 (f := fun n i x s => fX12_toCrack_87 N (iN d) m (iN k) w a b (iN k') n x (iN i) s) k (J := fun i x Y => x = smT V (crkS A d (iN k')) (fun _ => 0) i d ∧ TM V (crkS A d (iN k')) i Y ∧ FH 64 W Y) ?_ ?_ N 0 0 U2 (Nat.zero_le _) ⟨by rw [smT], hTM, hU.2.tr hU2.2⟩ (by omega)
    · rintro j2 x Y ⟨y1, y2, y3⟩
      simp only [fX12_toCrack_87]
      rw [if_pos (Int32.le_refl _)]
      simp only [rn_some, y1]
      have hof : (if smT V (crkS A d (iN k')) (fun _ => 0) k d ≤ m then m - smT V (crkS A d (iN k')) (fun _ => 0) k d else smT V (crkS A d (iN k')) (fun _ => 0) k d - m) = offS V A d m k k' := rfl
      rw [hof]
      have t3 : Y.1 80 0 = 0 := y3.t0.trans g3
      have hF3 := g4.tr (FP.fh y3)
      have hs := tcS_p (V := V) (A := A) (c := d) (many := m) (n := k) g0
      rw [← g1, ← g2] at hs
      by_cases e1 : a = -1
      · rw [if_pos e1] at hs ⊢
        refine ih _ _ _ ⟨by omega, ?_, ?_, t3, hF3⟩
        · rw [Nat.add_sub_cancel, hs]
        · rw [Nat.add_sub_cancel, hs]
      · rw [if_neg e1] at hs ⊢
        by_cases e2 : offS V A d m k k' < b
        · rw [if_pos e2] at hs ⊢
          refine ih _ _ _ ⟨by omega, ?_, ?_, t3, hF3⟩
          · rw [Nat.add_sub_cancel, hs]
          · rw [Nat.add_sub_cancel, hs]
        · rw [if_neg e2] at hs ⊢
          refine ih _ _ _ ⟨by omega, ?_, ?_, t3, hF3⟩
          · rw [Nat.add_sub_cancel, hs]; exact g1
          · rw [Nat.add_sub_cancel, hs]; exact g2
    · rintro j2 i x Y hi ⟨y1, y2, y3⟩ ih2
      have hi2 : ¬ iN k ≤ iN i := by rw [iN_le (by omega) (by omega)]; omega
      simp only [fX12_toCrack_87, if_neg hi2, rn_bV]
      refine rn_mono (M_step hN q.2.1 hw2 y2) (fun Z hZ => ?_)
      simp only [gd_t i9, rn_lt, x9, iN_1]
      refine ih2 _ Z ⟨?_, hZ.1, y3.tr hZ.2.2⟩
      rw [smT_s, y1, (hZ.2.1.2.1 d hd).2]
theorem M_toCrack {c m h w : Int32} (q : QM N V A S) : rn (fX12_toCrack N c m h w S) (fun r => MA k2 (aToCrack V A c m h w) r.1 (r.2.1 80 0) ∧ FP S r.2) := by
  have hn := q.2.2.1.1
  have hN := q.1
  have q0 := q.fp (zFP (k := 0))
  have hF := zFP (S := S) (k := 0)
  have h80 := q0.2.2.2.2.1
  have hz := z0 (S := S)
  unfold aToCrack
  by_cases h1 : inr c V.1
  · obtain ⟨d, hd, rfl⟩ := inr_c h1
    by_cases h2 : btw w 0 1
    · by_cases hm : m < 0
      · have h3 : ¬ btw m 0 2147483647 := fun hh => absurd hh.1 (Int32.not_le.mpr hm)
        simp only [fX12_toCrack, rn_lt, ic_t hz hn h80 hd, iw_t hz h2, bI_s, if_pos h1, if_pos h2, if_neg h3, if_pos hm, rt_f hz (show (2 : Int32) ≠ 0 by decide), rn_some, show ¬ ((1 : Int32) = 0) from by decide, if_false, if_true]
        exact ⟨by show u2 _ 80 0 _ 80 0 = _; rw [u2_at, upd_at]; decide, hF.tr zFP⟩
      · have h3 : btw m 0 2147483647 := ⟨Int32.not_lt.mp hm, by rw [le_ti, show (2147483647 : Int32).toInt = 2147483647 from by decide]; have := ti_hi m; omega⟩
        by_cases h4 : btw h 1 60
        · obtain ⟨k, rfl, hkl, hk⟩ := btw_nat (l := 1) (h := 60) rfl rfl (by omega) (by omega) h4
          have x9 : ix (iN d) = d := ix_iN (by omega)
          have xk : ix (iN k) = k := ix_iN (by omega)
          simp only [fX12_toCrack, rn_lt, ic_t hz hn h80 hd, iw_t hz h2, wi_t h4, bI_s, if_pos h1, if_pos h2, if_pos h3, if_pos h4, if_neg hm, rt_t hz (show (1 : Int32) ≠ 0 by decide), show ¬ ((1 : Int32) = 0) from by decide, if_false, rn_bT, rn_some, x9, xk]
          refine rn_mono (M_tcl (m := m) (w := w) q0 hz hd hkl hk) (fun r hr => ?_)
          obtain ⟨r1, r2, r3, r4⟩ := hr
          exact ⟨⟨r3, by rw [r1, r2]⟩, hF.tr r4⟩
        · simp only [fX12_toCrack, rn_lt, ic_t hz hn h80 hd, iw_t hz h2, wi_f h4, bI_s, if_pos h1, if_pos h2, if_pos h3, if_neg h4, if_neg hm, rt_f hz (show (2 : Int32) ≠ 0 by decide), rn_some, show ¬ ((1 : Int32) = 0) from by decide, if_false, if_true]
          exact ⟨by show u2 _ 80 0 _ 80 0 = _; rw [u2_at, upd_at]; decide, hF.tr zFP⟩
    · simp only [fX12_toCrack, rn_lt, ic_t hz hn h80 hd, iw_f hz h2, bI_s, if_pos h1, if_neg h2, rn_some, show ¬ ((1 : Int32) = 0) from by decide, if_false, if_true]
      exact ⟨by show u2 _ 80 0 _ 80 0 = _; rw [u2_at, upd_at]; decide, hF.tr zFP⟩
  · simp only [fX12_toCrack, rn_lt, ic_f hz hn h80 h1, bI_s, if_neg h1, rn_some, if_true]
    exact ⟨by show u2 _ 80 0 _ 80 0 = _; rw [u2_at, upd_at]; decide, hF.tr zFP⟩
/-! to pour -/
def prR (V : Cv) (A : Rw) (c m : Nat) : Rw := (upP V.1 (X0 A c (iN m) 0)).1
def tpP (V : Cv) (A : Rw) (c k m : Nat) : Bool := decide (((tpK V (prR V A c m) k >>> (iN c &&& 31)) &&& 1) = 1)
theorem prR_WF {c m : Nat} (hw : WF V.1 A) (hm : m ≤ 50) : WF V.1 (prR V A c m) := (HI_upP (HI_X0 (c := c) (l := 0) hw (d := iN m) (by rw [iN_ti (by omega)]; omega)) V.1 (Nat.le_refl _)).1
theorem prR_0 {c : Nat} (hw : WF V.1 A) : prR V A c 0 = A := by
  unfold prR
  have : iN 0 = 0 := rfl
  rw [this, upP_z hw V.1 (Nat.le_refl _)]
  rfl
theorem i50 {k : Nat} (h : k < 2147483648) : 50 < iN k ↔ 50 < k := iN_gt rfl h (by omega)
theorem M_hoursGo {A' : Rw} {k : Nat} {U : PS} (hN : 30000 ≤ N) (hs : SPR V.2.1) (hw : WF V.1 A') (hk : k ≤ 20000) (h : TM V A' 0 U) : rn (fX12_hoursGo N (iN k) U) (fun W => (0 < k → W.1 80 38 = tpK V A' k) ∧ TM V A' k W ∧ FH 64 U W) := by
  simp only [fX12_hoursGo, rn_bT, rn_lt, rn_some]
  refine forG (f := fun n j s => fX12_hoursGo_2 N (iN k) n (iN j) s) k (J := fun j W => (0 < j → W.1 80 38 = tpK V A' j) ∧ TM V A' j W ∧ FH 64 U W) ?_ ?_ N 0 U (Nat.zero_le _) ⟨fun hh => by omega, h, FH.rfl⟩ (by omega)
  · rintro j W ⟨g1, g2, g3⟩
    simp only [fX12_hoursGo_2]
    rw [if_pos (Int32.le_refl _)]
    simp only [rn_some]
    exact ⟨g1, g2, g3⟩
  · rintro j i W hi ⟨g1, g2, g3⟩ ih
    have hii : ¬ iN k ≤ iN i := by rw [iN_le (by omega) (by omega)]; omega
    simp only [fX12_hoursGo_2, if_neg hii, rn_bV]
    refine rn_mono (M_step hN hs hw g2) (fun Y hY => ?_)
    simp only [rn_lt, iN_1]
    exact ih Y ⟨fun _ => by rw [tpK_s]; exact hY.2.1.2.2.1, hY.1, g3.tr hY.2.2⟩
def aToPour (V : Cv) (A : Rw) (c h : Int32) : Int32 ⊕ String :=
  if inr c V.1 then (if btw h 1 60 then (.inl (rfn (fnd (tpP V A (ix c) (ix h)) 51 0))) else .inr nIAE) else .inr nNSE
theorem C_toPour {c h : Int32} (q : QC N V A S) : rn (fX11_toPour N c h S) (fun r => r.1 = aToPour V A c h ∧ FQ S r.2) := by
  obtain ⟨p, hp⟩ := q.2.2.2.2
  have hn := q.2.2.1.1
  have hN := q.1
  unfold aToPour
  by_cases h1 : inr c V.1
  · obtain ⟨d, hd, rfl⟩ := inr_c h1
    by_cases h2 : btw h 1 60
    · obtain ⟨k, rfl, hkl, hk⟩ := btw_nat (l := 1) (h := 60) rfl rfl (by omega) (by omega) h2
      have i9 : inr (iN d) 9 := inr_iN (by omega) (by omega)
      have x9 : ix (iN d) = d := ix_iN (by omega)
      have xk : ix (iN k) = k := ix_iN (by omega)
      simp only [fX11_toPour, nc_t hp hn hd, nr_t h2, bU_l, if_pos h1, if_pos h2, rn_bT, rn_lt, x9, xk]
      refine forG (f := fun n j s => fX11_toPour_14 N (iN d) (iN k) n (iN j) s) 51 (J := fun j W => FQ S W ∧ fnd (tpP V A d k) (51 - j) j = fnd (tpP V A d k) 51 0) ?_ ?_ N 0 S (by omega) ⟨FQ.rfl, rfl⟩ (by omega)
      · rintro j W ⟨g1, g2⟩
        simp only [fX11_toPour_14]
        rw [if_pos (by rw [i50 (by omega)]; omega), rn_some]
        simp only [if_true, rn_some]
        rw [← g2]
        exact ⟨rfl, g1⟩
      · rintro j m W hm ⟨g1, g2⟩ ih
        have hii : ¬ 50 < iN m := by rw [i50 (by omega)]; omega
        have qW := q.fq g1
        simp only [fX11_toPour_14, if_neg hii, rn_bV, rn_bI]
        refine rn_mono qW.look0 (fun U hU => ?_)
        obtain ⟨p', hp'⟩ := hU.1.2.2.2.2.2
        refine rn_mono (C_fillUp (d := iN m) (T := fun _ => 0) (L := 0) hN is20 q.2.2.1 hd (by rw [iN_ti (by omega)]; omega) hU.1.2.2.2.2.1 hp' hU.1.1 hU.1.2.1 hU.1.2.2.1) (fun U2 hU2 => ?_)
        have hF2 : FQ U U2 := FQ.fc hU2.2 (fun a ha => hcC_q ha)
        have hw2 : WF V.1 (prR V A d m) := prR_WF q.2.2.1 (by omega)
        have hTR : TR V (prR V A d m) (fun c => 0 + (upP V.1 (X0 A d (iN m) 0)).2.2.1 c) (0 + (upP V.1 (X0 A d (iN m) 0)).2.2.2.2) 0 U2 := by
          refine ⟨hU2.1.1, fun c hc => ?_, ?_, fun hh => by omega, by rw [hU2.2.2]; exact hU.1.2.2.2.2.1, p', hp'.fc is20 hU2.2⟩
          · rw [smT]; exact (hU2.1.2.1 c hc).2
          · rw [smL]; exact hU2.1.2.2.2
        refine rn_mono (C_goOn (m := k) hN q.2.1 hw2 (by omega) hTR) (fun U3 hU3 => ?_)
        rw [Nat.zero_add] at hU3
        have hF3 := ((g1.tr hU.2).tr hF2).tr hU3.2
        rw [hU3.1.2.2.2.1 (by omega)]
        have e2 : 51 - m = (50 - m) + 1 := by omega
        rw [e2] at g2
        unfold fX11_has
        rw [rn_lt, rn_gd]
        refine ⟨by split; exact Or.inr rfl; exact Or.inl rfl, ?_⟩
        rw [rn_some]
        by_cases e : ((tpK V (prR V A d m) k >>> (iN d &&& 31)) &&& 1) = 1
        · simp only [if_pos e, show ¬ ((1 : Int32) = 0) from by decide, if_false, rn_some, show ¬ ((1 : Nat) = 0) from by decide]
          rw [← g2, fnd_t (by unfold tpP; exact decide_eq_true e)]
          exact ⟨rfl, hF3⟩
        · simp only [if_neg e, if_true, rn_lt, iN_1]
          refine ih U3 ⟨hF3, ?_⟩
          rw [← g2, fnd_f (by unfold tpP; rw [decide_eq_true_iff]; exact e)]
          congr 1
          omega
    · simp only [fX11_toPour, nc_t hp hn hd, nr_f h2, bU_l, bU_r, if_pos h1, if_neg h2, rn_some]
      first | exact ⟨trivial, FQ.rfl⟩ | exact ⟨rfl, FQ.rfl⟩
  · simp only [fX11_toPour, nc_f hp hn h1, bU_l, bU_r, if_neg h1, rn_some]
    first | exact ⟨trivial, FQ.rfl⟩ | exact ⟨rfl, FQ.rfl⟩
theorem M_toPour {c h : Int32} (q : QM N V A S) : rn (fX12_toPour N c h S) (fun r => MA k2 (aToPour V A c h) r.1 (r.2.1 80 0) ∧ FP S r.2) := by
  have hn := q.2.2.1.1
  have hN := q.1
  have q0 := q.fp (zFP (k := 0))
  have hF := zFP (S := S) (k := 0)
  have h80 := q0.2.2.2.2.1
  have hz := z0 (S := S)
  unfold aToPour
  by_cases h1 : inr c V.1
  · obtain ⟨d, hd, rfl⟩ := inr_c h1
    by_cases h2 : btw h 1 60
    · obtain ⟨k, rfl, hkl, hk⟩ := btw_nat (l := 1) (h := 60) rfl rfl (by omega) (by omega) h2
      have x9 : ix (iN d) = d := ix_iN (by omega)
      have xk : ix (iN k) = k := ix_iN (by omega)
      simp only [fX12_toPour, rn_lt, ic_t hz hn h80 hd, wi_t h2, bI_s, if_pos h1, if_pos h2, rt_t hz (show (1 : Int32) ≠ 0 by decide), show ¬ ((1 : Int32) = 0) from by decide, if_false, rn_bT, x9, xk]
      refine forG (f := fun n j s => fX12_toPour_32 N (iN d) (iN k) n (iN j) s) 51 (J := fun j W => W.1 80 0 = 0 ∧ FP (u2 S.1 80 0 0, S.2) W ∧ fnd (tpP V A d k) (51 - j) j = fnd (tpP V A d k) 51 0) ?_ ?_ N 0 _ (by omega) ⟨hz, FP.rfl, rfl⟩ (by omega)
      · rintro j W ⟨g1, g2, g3⟩
        simp only [fX12_toPour_32]
        rw [if_pos (by rw [i50 (by omega)]; omega), rn_some]
        simp only [if_true, rn_some]
        rw [← g3]
        exact ⟨⟨g1, rfl⟩, hF.tr g2⟩
      · rintro j m W hm ⟨g1, g2, g3⟩ ih
        have hii : ¬ 50 < iN m := by rw [i50 (by omega)]; omega
        have qW := q0.fp g2
        have hw2 : WF V.1 (prR V A d m) := prR_WF q.2.2.1 (by omega)
        have e2 : 51 - m = (50 - m) + 1 := by omega
        rw [e2] at g3
        have fin : ∀ U, TM V (prR V A d m) 0 U → FH 64 W U → rn (bV (fX12_hoursGo N (iN k) U) fun S19 => (if (((S19.1 80 38) >>> (iN d &&& 31)) &&& 1) = 1 then some (1, iN m, S19) else lt (iN m + 1 : Int32) fun x22 => fX12_toPour_32 N (iN d) (iN k) j x22 S19)) (fun q => rn (if q.1 = 0 then some (-1, q.2.2) else some (q.2.1, q.2.2)) (fun r => MA k2 (.inl (rfn (fnd (tpP V A d k) 51 0))) r.1 (r.2.1 80 0) ∧ FP S r.2)) := by
          intro U hU hUF
          rw [rn_bV]
          refine rn_mono (M_hoursGo hN q.2.1 hw2 (by omega) hU) (fun Y hY => ?_)
          rw [hY.1 (by omega)]
          have t3 : Y.1 80 0 = 0 := (hUF.tr hY.2.2).t0.trans g1
          have hF3 := g2.tr (FP.fh (hUF.tr hY.2.2))
          by_cases e : ((tpK V (prR V A d m) k >>> (iN d &&& 31)) &&& 1) = 1
          · rw [if_pos e, rn_some]
            simp only [show ¬ ((1 : Nat) = 0) from by decide, if_false, rn_some]
            rw [← g3, fnd_t (by unfold tpP; exact decide_eq_true e)]
            exact ⟨⟨t3, rfl⟩, hF.tr hF3⟩
          · rw [if_neg e, rn_lt, iN_1]
            refine ih Y ⟨t3, hF3, ?_⟩
            rw [← g3, fnd_f (by unfold tpP; rw [decide_eq_true_iff]; exact e)]
            congr 1
            omega
        simp only [fX12_toPour_32, if_neg hii]
        rw [rn_bV]
        refine rn_mono qW.tries (fun U hU => ?_)
        by_cases em : m = 0
        · subst em
          rw [if_pos (show iN 0 ≤ 0 from Int32.le_refl _)]
          refine fin U ?_ hU.2
          rw [prR_0 q.2.2.1]
          exact hU.1
        · rw [if_neg (by rw [show (0 : Int32) = iN 0 from rfl, iN_le (by omega) (by omega)]; omega), rn_bI]
          refine rn_mono (M_pours (b := 64) hN (by omega) q.2.2.1 hd (by rw [iN_ti (by omega)]; omega) hU.1.2 hU.1.1) (fun r hr => ?_)
          exact fin r.2 ⟨hr.2.1, hU.1.2.fh hr.2.2⟩ (hU.2.tr hr.2.2)
    · simp only [fX12_toPour, rn_lt, ic_t hz hn h80 hd, wi_f h2, bI_s, if_pos h1, if_neg h2, rt_f hz (show (2 : Int32) ≠ 0 by decide), rn_some, show ¬ ((1 : Int32) = 0) from by decide, if_false, if_true]
      exact ⟨by show u2 _ 80 0 _ 80 0 = _; rw [u2_at, upd_at]; decide, hF.tr zFP⟩
  · simp only [fX12_toPour, rn_lt, ic_f hz hn h80 h1, bI_s, if_neg h1, rn_some, if_true]
    exact ⟨by show u2 _ 80 0 _ 80 0 = _; rw [u2_at, upd_at]; decide, hF.tr zFP⟩
end Q5
