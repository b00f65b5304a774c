/-! ===== phase 2: years ===== -/
def nxS (s : Int32) : Int32 := s * 1103515245 + 12345
def dvS (s n : Int32) : Int32 := ((s >>> ((16 : Int32) &&& 31)) &&& 32767) - ((s >>> ((16 : Int32) &&& 31)) &&& 32767) / n * n
theorem and_r (x : Int32) : 0 ≤ (x &&& 32767).toInt := by
  have h : (x &&& 32767).toBitVec.msb = false := by
    rw [Int32.toBitVec_and, BitVec.msb_and]
    have : (32767 : Int32).toBitVec.msb = false := by decide
    rw [this, Bool.and_false]
  have h2 := BitVec.toInt_eq_toNat_of_msb h
  show 0 ≤ (x &&& 32767).toBitVec.toInt
  rw [h2]
  omega
theorem dv_r {s : Int32} {k : Nat} (h : 1 ≤ k) (hk : k < 1000) : ∃ j, j < k ∧ dvS s (iN k) = iN j := by
  have h0 := and_r (s >>> ((16 : Int32) &&& 31))
  have hk2 : (iN k).toInt = (k : Int) := iN_ti (by omega)
  have hm := md_ti (v := (s >>> ((16 : Int32) &&& 31)) &&& 32767) (h := iN k) h0 (by omega)
  rw [hk2] at hm
  have hp := Int.emod_nonneg ((s >>> ((16 : Int32) &&& 31)) &&& 32767).toInt (show (k : Int) ≠ 0 by omega)
  have hl := Int.emod_lt_of_pos ((s >>> ((16 : Int32) &&& 31)) &&& 32767).toInt (show (0 : Int) < (k : Int) by omega)
  have e : (dvS s (iN k)).toInt = ((s >>> ((16 : Int32) &&& 31)) &&& 32767).toInt % (k : Int) := hm
  refine ⟨ix (dvS s (iN k)), ?_, iN_of (by omega)⟩
  have h1 : ((ix (dvS s (iN k)) : Nat) : Int) = (dvS s (iN k)).toInt := Int.toNat_of_nonneg (by omega)
  omega
/-- what happens ahead of an hour -/
def hapS (n : Nat) (A : Rw) (s : Int32) : Rw × Int32 :=
  if 2 < dvS (nxS s) 6 then (A, nxS s) else if n = 0 then (A, nxS s) else
  if dvS (nxS s) 6 = 0 then (u2 A 5 (ix (dvS (nxS (nxS s)) (iN n))) (1 - A 5 (ix (dvS (nxS (nxS s)) (iN n)))), nxS (nxS s))
  else if dvS (nxS s) 6 = 1 then (crkS A (ix (dvS (nxS (nxS s)) (iN n))) (dvS (nxS (nxS (nxS s))) 30 + 1), nxS (nxS (nxS s)))
  else (ledS A (ix (dvS (nxS (nxS s)) (iN n))) (if dvS (nxS (nxS (nxS s))) (iN n) ≤ dvS (nxS (nxS s)) (iN n) then -1 else dvS (nxS (nxS (nxS s))) (iN n)), nxS (nxS (nxS s)))
theorem hap_WF {n : Nat} {A : Rw} {s : Int32} (hw : WF n A) : WF n (hapS n A s).1 := by
  have hn := hw.1
  unfold hapS
  split
  · exact hw
  · split
    · exact hw
    · rename_i h0
      obtain ⟨c, hc, hd⟩ := dv_r (s := nxS (nxS s)) (k := n) (by omega) (by omega)
      have xc : ix (dvS (nxS (nxS s)) (iN n)) = c := by rw [hd]; exact ix_iN (by omega)
      rw [xc]
      split
      · refine plg_WF hw hc ?_
        rcases (hw.2 c (by omega)).2.2.2.2.2.1 with e | e <;> rw [e]
        · exact Or.inr (by decide)
        · exact Or.inl (by decide)
      · split
        · obtain ⟨j, hj, he⟩ := dv_r (s := nxS (nxS (nxS s))) (k := 30) (by omega) (by omega)
          have he' : dvS (nxS (nxS (nxS s))) 30 = iN j := he
          refine crk_WF hw hc ?_
          rw [he', iN_1, iN_ti (by omega)]
          omega
        · obtain ⟨j, hj, he⟩ := dv_r (s := nxS (nxS (nxS s))) (k := n) (by omega) (by omega)
          refine led_WF hw hc ?_
          rw [he, hd]
          split
          · exact Or.inl rfl
          · rename_i hl
            rw [iN_le (by omega) (by omega)] at hl
            exact Or.inr ⟨j, rfl, by omega, hj⟩
/-- row and seed behind k hours; how often each has tipped -/
def yrK (V : Cv) (A : Rw) (s : Int32) : Nat → Rw × Int32
  | 0 => (A, s)
  | k + 1 => ((hS V (hapS V.1 (yrK V A s k).1 (yrK V A s k).2).1).1, (hapS V.1 (yrK V A s k).1 (yrK V A s k).2).2)
def yhK (V : Cv) (A : Rw) (s : Int32) (k : Nat) : Hs := hS V (hapS V.1 (yrK V A s k).1 (yrK V A s k).2).1
def ysT (V : Cv) (A : Rw) (s : Int32) : Nat → Nat → Int32
  | 0, _ => 0
  | k + 1, c => ysT V A s k c + (yhK V A s k).2.2.1 c
def ysO (V : Cv) (A : Rw) (s : Int32) : Nat → Int32
  | 0 => 0
  | k + 1 => ysO V A s k ||| (yhK V A s k).2.2.2.1
def sumS (f : Nat → Int32) : Nat → Int32
  | 0 => 0
  | c + 1 => sumS f c + f c
theorem sumS_s {f : Nat → Int32} {c : Nat} : sumS f (c + 1) = sumS f c + f c := by rw [sumS]
theorem sumS_add {f g h : Nat → Int32} (e : ∀ c, h c = f c + g c) : ∀ n, sumS h n = sumS f n + sumS g n
  | 0 => by rw [sumS, sumS, sumS]; rfl
  | n + 1 => by
    rw [sumS, sumS, sumS, sumS_add e n, e n]
    ac_rfl
theorem yr_WF {V : Cv} {A : Rw} {s : Int32} (hs : SPR V.2.1) (hw : WF V.1 A) : ∀ k, WF V.1 (yrK V A s k).1
  | 0 => by rw [yrK]; exact hw
  | k + 1 => by
    rw [yrK]
    exact (hS_HO hs (hap_WF (yr_WF hs hw k))).1
theorem yh_HO {V : Cv} {A : Rw} {s : Int32} (hs : SPR V.2.1) (hw : WF V.1 A) (k : Nat) : HO V.1 (yhK V A s k) := by
  unfold yhK
  exact hS_HO hs (hap_WF (yr_WF hs hw k))
theorem ysT_r {V : Cv} {A : Rw} {s : Int32} (hs : SPR V.2.1) (hw : WF V.1 A) {c : Nat} (hc : c < 9) : ∀ k, k ≤ 2000 → 0 ≤ (ysT V A s k c).toInt ∧ (ysT V A s k c).toInt ≤ 65536 * (k : Int)
  | 0, _ => by rw [ysT, z_ti]; omega
  | k + 1, h => by
    have ih := ysT_r hs hw (s := s) hc k (by omega)
    have h2 := (yh_HO (s := s) hs hw k).2.1 c hc
    rw [ysT, ti_add (by omega) (by omega)]
    omega
theorem ysO_bt {V : Cv} {A : Rw} {s : Int32} (hs : SPR V.2.1) (hw : WF V.1 A) : ∀ k, k ≤ 2000 → bt (ysO V A s k) (fun c => if ysT V A s k c = 0 then 0 else 1)
  | 0, _ => by
    rw [ysO]
    exact bt_congr bt_0 (fun c _ => by rw [ysT, if_pos rfl])
  | k + 1, h => by
    have ih := ysO_bt hs hw (s := s) k (by omega)
    rw [ysO]
    refine bt_congr (bt_orr ih (yh_HO (s := s) hs hw k).2.2.2) (fun c hc => ?_)
    have r1 := ysT_r hs hw (s := s) hc k (by omega)
    have r2 := (yh_HO (s := s) hs hw k).2.1 c hc
    have e : ysT V A s (k + 1) c = 0 ↔ ysT V A s k c = 0 ∧ (yhK V A s k).2.2.1 c = 0 := by
      rw [ysT, eq_ti, eq_ti, eq_ti, z_ti, ti_add (by omega) (by omega)]
      omega
    by_cases e1 : ysT V A s k c = 0 <;> by_cases e2 : (yhK V A s k).2.2.1 c = 0 <;> simp [e, e1, e2]
theorem ysT_hi {V : Cv} {A : Rw} {s : Int32} (hs : SPR V.2.1) (hw : WF V.1 A) {c : Nat} (hc : V.1 ≤ c) : ∀ k, ysT V A s k c = 0
  | 0 => by rw [ysT]
  | k + 1 => by
    rw [ysT, ysT_hi hs hw hc k, (yh_HO (s := s) hs hw k).2.2.1 c hc]
    rfl
theorem k_cpl : ∀ n : Fin 10, ∀ m : Fin 512, m.val &&& (2 ^ n.val - 1) = m.val → cn9 (iN ((2 ^ n.val - 1) ^^^ m.val)) = iN n.val - cn9 (iN m.val) := by decide +kernel
/-- how many of n cups haven't -/
theorem cn_cpl {n : Nat} {x y : Int32} {f : Nat → Int32} (hn : n ≤ 9) (hx : bt x (fun c => if c < n ∧ f c = 0 then 1 else 0)) (hy : bt y (fun c => if f c = 0 then 0 else 1)) (h0 : ∀ c, n ≤ c → f c = 0) : cn9 x = iN n - cn9 y ∧ ∃ m, m < 512 ∧ x = iN m := by
  obtain ⟨m, hm, rfl, hf⟩ := hx
  obtain ⟨m', hm', rfl, hg⟩ := hy
  have q : ∀ c, c < 9 → m.testBit c = (decide (c < n) ^^ m'.testBit c) ∧ (m'.testBit c = true → c < n) := by
    intro c hc
    have a := hf c hc
    have b := hg c hc
    by_cases e1 : c < n
    · by_cases e2 : f c = 0
      · simp only [e1, e2, and_self, if_true] at a b
        revert a b
        cases m.testBit c <;> cases m'.testBit c <;> simp [e1]
      · simp only [e2, and_false, if_false] at a b
        revert a b
        cases m.testBit c <;> cases m'.testBit c <;> simp [e1]
    · have e2 := h0 c (by omega)
      simp only [e1, e2, false_and, if_false, if_true] at a b
      revert a b
      cases m.testBit c <;> cases m'.testBit c <;> simp [e1]
  have hlow : 2 ^ n - 1 < 512 := k_low5 ⟨n, by omega⟩
  have e1 : m = (2 ^ n - 1) ^^^ m' := b_ext hm (Nat.xor_lt_two_pow (n := 9) hlow hm') (fun c hc => by rw [Nat.testBit_xor, k_lowb ⟨n, by omega⟩ ⟨c, hc⟩]; exact (q c hc).1)
  have e2 : m' &&& (2 ^ n - 1) = m' := b_ext (bclr_lt hm') hm' (fun c hc => by
    rw [Nat.testBit_and, k_lowb ⟨n, by omega⟩ ⟨c, hc⟩]
    have := (q c hc).2
    cases h : m'.testBit c with
    | false => rfl
    | true => simp [this h])
  refine ⟨?_, m, hm, rfl⟩
  rw [e1]
  exact k_cpl ⟨n, by omega⟩ ⟨m', hm'⟩ e2
theorem FQ.seed {S T : PS} {x : Int32} (h : FQ S T) : FQ S (u2 T.1 0 11 x, T.2) := by
  refine h.tr ⟨⟨fun a ha => ?_, ⟨?_, ?_, ?_⟩, Eq.refl _, Eq.refl _⟩, fun a ha => ⟨?_, Eq.refl _, Eq.refl _⟩⟩
  · show u2 T.1 0 11 x a = T.1 a
    rw [u2_o (by unfold pc ceC at ha; omega)]
  · show u2 T.1 0 11 x 0 9 = _
    rw [u2_at, upd_o (by decide)]
  · show u2 T.1 0 11 x 0 10 = _
    rw [u2_at, upd_o (by decide)]
  · show u2 T.1 0 11 x 2 1 = _
    rw [u2_o (by decide)]
  · show u2 T.1 0 11 x a = T.1 a
    rw [u2_o (by omega)]
theorem TR_seed {V : Cv} {A : Rw} {T : Nat → Int32} {L : Int32} {k : Nat} {S : PS} {x : Int32} (h : TR V A T L k S) : TR V A T L k (u2 S.1 0 11 x, S.2) := by
  obtain ⟨h1, h2, h3, h4, h5, p, h6⟩ := h
  have r : ∀ a, a ≠ 0 → u2 S.1 0 11 x a = S.1 a := fun a ha => u2_o ha
  refine ⟨h1.o is20 (by unfold cuC; omega), fun c hc => ?_, ?_, fun hh => ?_, h5, p, h6.ce (fun a ha => r a (by unfold ceC at ha; omega)) rfl⟩
  · show u2 S.1 0 11 x 28 c = _
    rw [r 28 (by omega)]; exact h2 c hc
  · show u2 S.1 0 11 x 5 6 = _
    rw [r 5 (by omega)]; exact h3
  · show u2 S.1 0 11 x 5 5 = _
    rw [r 5 (by omega)]; exact h4 hh
theorem TR_1 {V : Cv} {A : Rw} {T : Nat → Int32} {L : Int32} {S : PS} (h : TR V A T L 1 S) : TR V (hS V A).1 (fun c => T c + (hS V A).2.2.1 c) (L + (hS V A).2.2.2.2) 0 S := by
  obtain ⟨h1, h2, h3, h4, h5, h6⟩ := h
  refine ⟨?_, fun c hc => ?_, ?_, fun hh => by omega, h5, h6⟩
  · rw [rowK]
    rw [rowK_s, rowK] at h1
    exact h1
  · rw [smT, h2 c hc, smT_s, smT]
    rfl
  · rw [smL, h3, smL_s, smL]
    rfl
theorem C_draw {N : Nat} {V : Cv} {A : Rw} {T : Nat → Int32} {L : Int32} {S : PS} {n : Int32} {s : Int32} (hn : 0 < n.toInt) (hT : TR V A T L 0 S) (hs : S.1 0 11 = s) : rn (fX11_draw N n S) (fun q => q.1 = dvS (nxS s) n ∧ q.2.1 0 11 = nxS s ∧ TR V A T L 0 q.2 ∧ FQ S q.2) := by
  unfold fX11_draw
  have h1 : ¬ n ≤ 0 := by rw [le_ti, z_ti]; omega
  have h2 : ¬ n = 0 := by intro e; rw [e, z_ti] at hn; omega
  have e : ∀ x, u2 S.1 0 11 x 0 11 = x := fun x => by rw [u2_at, upd_at]
  simp only [lt_b, hs, if_neg h1, gd_t h2, rn_some, e]
  exact ⟨rfl, rfl, TR_seed hT, FQ.rfl.seed⟩
section Q10
variable {N : Nat} {V : Cv} {A : Rw} {S : PS}
theorem C_hap {T : Nat → Int32} {L s : Int32} (hn : V.1 ≤ 9) (hw : WF V.1 A) (hT : TR V A T L 0 S) (hs : S.1 0 11 = s) : rn (fX11_drawAct N S) (fun U => TR V (hapS V.1 A s).1 T L 0 U ∧ U.1 0 11 = (hapS V.1 A s).2 ∧ FQ S U) := by
  have six : 0 < (6 : Int32).toInt := by decide
  have thirty : 0 < (30 : Int32).toInt := by decide
  have n20 : ∀ (a : Nat) (U W : PS), a = 0 → FC (cuC 20) U W → W.1 a = U.1 a := fun a U W ha hf => hf.1 a (by unfold cuC; omega)
  unfold fX11_drawAct hapS
  rw [rn_bI]
  refine rn_mono (C_draw six hT hs) (fun r1 hr1 => ?_)
  obtain ⟨a1, a2, a3, a4⟩ := hr1
  rw [a1]
  by_cases h1 : 2 < dvS (nxS s) 6
  · rw [if_pos h1, if_pos h1, rn_some]
    exact ⟨a3, a2, a4⟩
  · rw [if_neg h1, if_neg h1]
    obtain ⟨p, hp⟩ := a3.2.2.2.2.2
    have q := p_ob hp.1
    simp only [lt_b, hp.2.1, gd_t q.1, hp.2.2.1]
    by_cases h0 : V.1 = 0
    · rw [if_pos h0, if_pos (by rw [h0]; rfl), rn_some]
      exact ⟨a3, a2, a4⟩
    · have hnz : ¬ iN V.1 = 0 := by
        have : (0 : Int32) = iN 0 := rfl
        rw [this, iN_eq (by omega) (by omega)]; exact h0
      have hnp : 0 < (iN V.1).toInt := by rw [iN_ti (by omega)]; omega
      rw [if_neg h0, if_neg hnz, rn_bI]
      refine rn_mono (C_draw hnp a3 a2) (fun r2 hr2 => ?_)
      obtain ⟨b1, b2, b3, b4⟩ := hr2
      obtain ⟨c, hc, hd⟩ := dv_r (s := nxS (nxS s)) (k := V.1) (by omega) (by omega)
      have xc : ix (dvS (nxS (nxS s)) (iN V.1)) = c := by rw [hd]; exact ix_iN (by omega)
      have h5 : r2.2.2.2 5 4 = 20 := b3.2.2.2.2.1
      rw [xc, b1, hd]
      by_cases e0 : dvS (nxS s) 6 = 0
      · rw [if_pos e0, if_pos e0]
        simp only [h5, gd_t is20.ob, plug_bt is20 b3.1 (show c < 9 by omega), bI_s]
        rw [rn_bV]
        refine rn_mono (C_plug is20 (by omega) b3.1) (fun U hU => ?_)
        rw [rn_some]
        obtain ⟨t1, t2⟩ := TR_chg b3 hU.1 hU.2
        have ev : (if (if rowK V A 0 5 c = 0 then (1 : Int32) else 0) = 0 then (0 : Int32) else 1) = 1 - A 5 c := by
          rw [rowK]
          rcases (hw.2 c (by omega)).2.2.2.2.2.1 with e | e <;> rw [e] <;> decide
        rw [ev, rowK] at t1
        exact ⟨t1, by rw [n20 0 _ _ rfl hU.2]; exact b2, (a4.tr b4).tr t2⟩
      · rw [if_neg e0, if_neg e0]
        by_cases e1 : dvS (nxS s) 6 = 1
        · rw [if_pos e1, if_pos e1, rn_bI]
          refine rn_mono (C_draw thirty b3 b2) (fun r3 hr3 => ?_)
          obtain ⟨d1, d2, d3, d4⟩ := hr3
          rw [d1, h5, gd_t is20.ob, rn_bV]
          refine rn_mono (C_holds is20 (by omega) d3.1) (fun U hU => ?_)
          rw [rn_some]
          obtain ⟨t1, t2⟩ := TR_chg d3 hU.1 hU.2
          rw [rowK] at t1
          exact ⟨t1, by rw [n20 0 _ _ rfl hU.2]; exact d2, ((a4.tr b4).tr d4).tr t2⟩
        · rw [if_neg e1, if_neg e1]
          obtain ⟨p2, hp2⟩ := b3.2.2.2.2.2
          have q2 := p_ob hp2.1
          rw [hp2.2.1, gd_t q2.1, hp2.2.2.1, rn_bI]
          refine rn_mono (C_draw hnp b3 b2) (fun r3 hr3 => ?_)
          obtain ⟨d1, d2, d3, d4⟩ := hr3
          rw [d1, d3.2.2.2.2.1, gd_t is20.ob, rn_bV]
          refine rn_mono (C_into is20 (by omega) d3.1) (fun U hU => ?_)
          rw [rn_some]
          obtain ⟨t1, t2⟩ := TR_chg d3 hU.1 hU.2
          rw [rowK] at t1
          exact ⟨t1, by rw [n20 0 _ _ rfl hU.2]; exact d2, ((a4.tr b4).tr d4).tr t2⟩
/-- the frame of a model's trial in which draws are made -/
def FD (S T : PS) : Prop := FM hcM (fun k => hfM k ∨ k = 53) S T ∧ ∀ k, k < 64 → T.1 91 k = S.1 91 k
theorem FD.fh {S T : PS} (h : FH 64 S T) : FD S T := ⟨h.1.mono (fun _ h => h) (fun _ h => Or.inl h), fun k hk => h.2 k (Or.inl hk)⟩
theorem FD.rfl {S : PS} : FD S S := FD.fh FH.rfl
theorem FD.tr {S T U : PS} (h : FD S T) (h' : FD T U) : FD S U := ⟨h.1.tr h'.1, fun k hk => (h'.2 k hk).trans (h.2 k hk)⟩
theorem FD.s {S T : PS} {x : Int32} (h : FD S T) : FD S (u2 T.1 80 53 x, T.2) := ⟨h.1.f (Or.inr (Eq.refl 53)), fun k hk => by show u2 T.1 80 53 x 91 k = _; rw [u2_o (by decide)]; exact h.2 k hk⟩
theorem FD.fp {S T : PS} (h : FD S T) : FP S T :=
  ⟨⟨fun a ha => h.1.1 a (by unfold pm at ha; omega) (by unfold pm at ha; unfold hcM; omega), h.2, fun k hk => h.1.2.1 k (by unfold pf at hk; unfold hfM; omega)⟩,
   fun a ha => ⟨h.1.1 a (by omega) (by unfold hcM; omega), by rw [h.1.2.2], by rw [h.1.2.2]⟩⟩
theorem FD.t0 {S T : PS} (h : FD S T) : T.1 80 0 = S.1 80 0 := h.1.2.1 0 (by unfold hfM; omega)
theorem FH.t53 {b : Nat} {S T : PS} (h : FH b S T) : T.1 80 53 = S.1 80 53 := h.1.2.1 53 (by unfold hfM; omega)
theorem TM_fd {V : Cv} {A : Rw} {k : Nat} {S : PS} {x : Int32} (h : TM V A k S) : TM V A k (u2 S.1 80 53 x, S.2) := ⟨h.1.cg (by show u2 S.1 80 53 x 91 = _; rw [u2_o (by decide)]), ME_pm h.2 (FD.rfl.s).fp.1⟩
theorem M_draw {n : Int32} {s : Int32} (hn : 0 < n.toInt) (hT : TM V A 0 S) (hs : S.1 80 53 = s) : rn (fX12_draw N n S) (fun q => q.1 = dvS (nxS s) n ∧ q.2.1 80 53 = nxS s ∧ TM V A 0 q.2 ∧ FD S q.2) := by
  unfold fX12_draw
  have h2 : ¬ n = 0 := by intro e; rw [e, z_ti] at hn; omega
  have e : ∀ x, u2 S.1 80 53 x 80 53 = x := fun x => by rw [u2_at, upd_at]
  simp only [lt_b, hs, gd_t h2, rn_some, e]
  exact ⟨rfl, rfl, TM_fd hT, FD.rfl.s⟩
theorem M_hap {s : Int32} (hn : V.1 ≤ 9) (hw : WF V.1 A) (hT : TM V A 0 S) (hs : S.1 80 53 = s) : rn (fX12_happens N S) (fun U => TM V (hapS V.1 A s).1 0 U ∧ U.1 80 53 = (hapS V.1 A s).2 ∧ FD S U) := by
  have six : 0 < (6 : Int32).toInt := by decide
  have thirty : 0 < (30 : Int32).toInt := by decide
  unfold fX12_happens hapS
  rw [rn_bI]
  refine rn_mono (M_draw six hT hs) (fun r1 hr1 => ?_)
  obtain ⟨a1, a2, a3, a4⟩ := hr1
  rw [a1]
  by_cases h1 : 2 < dvS (nxS s) 6
  · rw [if_pos h1, if_pos h1, rn_some]
    exact ⟨a3, a2, a4⟩
  · rw [if_neg h1, if_neg h1, a3.2.1]
    by_cases h0 : V.1 = 0
    · rw [if_pos h0, if_pos (by rw [h0]; rfl), rn_some]
      exact ⟨a3, a2, a4⟩
    · have hnz : ¬ iN V.1 = 0 := by
        have : (0 : Int32) = iN 0 := rfl
        rw [this, iN_eq (by omega) (by omega)]; exact h0
      have hnp : 0 < (iN V.1).toInt := by rw [iN_ti (by omega)]; omega
      rw [if_neg h0, if_neg hnz, rn_bI]
      refine rn_mono (M_draw hnp a3 a2) (fun r2 hr2 => ?_)
      obtain ⟨b1, b2, b3, b4⟩ := hr2
      have F2 := a4.tr b4
      obtain ⟨c, hc, hd⟩ := dv_r (s := nxS (nxS s)) (k := V.1) (by omega) (by omega)
      have xc : ix (dvS (nxS (nxS s)) (iN V.1)) = c := by rw [hd]; exact ix_iN (by omega)
      rw [xc, b1, hd]
      by_cases e0 : dvS (nxS s) 6 = 0
      · have o1 : (119 : Int32) + iN c = iN (64 + 55 + c) := iN_add 119 c
        have i1 : inr (iN (64 + 55 + c)) 128 := inr_iN (by omega) (by omega)
        have x1 : ix (iN (64 + 55 + c)) = 64 + 55 + c := ix_iN (by omega)
        rw [if_pos e0, if_pos e0]
        rw [o1, gd_t i1, gd_t i1, x1, lt_b, if_neg (by rw [e0]; decide), if_neg (by rw [e0]; decide), rn_some, (b3.1.2 c hc).2.2.2.2.2.1]
        have hFH : FH 64 r2.2 (u2 r2.2.1 91 (64 + 55 + c) (1 - rowK V A 0 5 c), r2.2.2) := FH.rfl.r (by omega) (by omega)
        refine ⟨⟨b3.1.u5 hn hc, b3.2.fh hFH⟩, ?_, F2.tr (FD.fh hFH)⟩
        rw [hFH.t53]
        exact b2
      · rw [if_neg e0, if_neg e0]
        by_cases e1 : dvS (nxS s) 6 = 1
        · rw [if_pos e1, if_pos e1, rn_bI]
          refine rn_mono (M_draw thirty b3 b2) (fun r3 hr3 => ?_)
          obtain ⟨d1, d2, d3, d4⟩ := hr3
          rw [d1, rn_bV]
          refine rn_mono (M_cracks (b := 64) hn (by omega) hc d3.1) (fun U hU => ?_)
          rw [if_neg (by rw [e1]; decide), rn_some]
          exact ⟨⟨hU.1, d3.2.fh hU.2⟩, by rw [hU.2.t53]; exact d2, (F2.tr d4).tr (FD.fh hU.2)⟩
        · have e2 : dvS (nxS s) 6 = 2 := by
            obtain ⟨j, hj, he⟩ := dv_r (s := nxS s) (k := 6) (by omega) (by omega)
            have he' : dvS (nxS s) 6 = iN j := he
            rw [he'] at h1 e0 e1 ⊢
            have a1 : ¬ (2 : Int32) < iN j := h1
            rw [show (2 : Int32) = iN 2 from rfl, iN_lt (by omega) (by omega)] at a1
            rw [show (0 : Int32) = iN 0 from rfl, iN_eq (by omega) (by omega)] at e0
            rw [show (1 : Int32) = iN 1 from rfl, iN_eq (by omega) (by omega)] at e1
            have : j = 2 := by omega
            rw [this]; rfl
          rw [if_neg e1, if_neg e1, if_pos e2, b3.2.1, rn_bI]
          refine rn_mono (M_draw hnp b3 b2) (fun r3 hr3 => ?_)
          obtain ⟨d1, d2, d3, d4⟩ := hr3
          rw [d1, lt_b, rn_bV]
          refine rn_mono (M_leads (b := 64) hn (by omega) hc d3.1) (fun U hU => ?_)
          rw [rn_some]
          exact ⟨⟨hU.1, d3.2.fh hU.2⟩, by rw [hU.2.t53]; exact d2, (F2.tr d4).tr (FD.fh hU.2)⟩
end Q10
