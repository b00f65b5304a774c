/-! ===== phase 2: cold ===== -/
theorem bt_orr {x y : Int32} {f g : Nat → Int32} (h : bt x f) (h' : bt y g) : bt (x ||| y) (fun c => if f c = 0 then g c else 1) := by
  obtain ⟨m, hm, rfl, hf⟩ := h
  obtain ⟨m', hm', rfl, hg⟩ := h'
  refine ⟨m ||| m', Nat.or_lt_two_pow (n := 9) hm hm', by rw [iN_or], fun c hc => ?_⟩
  show (if f c = 0 then g c else 1) = _
  rw [Nat.testBit_or, hf c hc, hg c hc]
  cases m.testBit c <;> cases m'.testBit c <;> simp
/-- the weather of the k-th hour by the bits of a way -/
def cwW (way k : Nat) : Nat := if ((iN way >>> (iN k &&& 31)) &&& 1) = 1 then 1 else 2
def rwW (V : Cv) (A : Rw) (way : Nat) : Nat → Rw
  | 0 => A
  | k + 1 => (hourS V.1 (cwW way k) V.2.2.1 V.2.2.2 V.2.1 (rwW V A way k)).1
def hrW (V : Cv) (A : Rw) (way k : Nat) : Hs := hourS V.1 (cwW way k) V.2.2.1 V.2.2.2 V.2.1 (rwW V A way k)
def smW (V : Cv) (A : Rw) (way : Nat) : Nat → Nat → Int32
  | 0, _ => 0
  | k + 1, c => smW V A way k c + (hrW V A way k).2.2.1 c
def orW (V : Cv) (A : Rw) (way : Nat) : Nat → Int32
  | 0 => 0
  | k + 1 => orW V A way k ||| (hrW V A way k).2.2.2.1
def wtW (t : Int32) (way : Nat) : Nat → Int32
  | 0 => 1
  | k + 1 => wtW t way k * (if ((iN way >>> (iN k &&& 31)) &&& 1) = 1 then t else 10 - t)
def cdS (V : Cv) (A : Rw) (c n : Nat) (t : Int32) : Nat → Int32
  | 0 => 0
  | y + 1 => cdS V A c n t y + (if smW V A y n c = 0 then 0 else wtW t y n)
theorem cwW_l (way k : Nat) : cwW way k < 3 := by unfold cwW; split <;> omega
section Q7
variable {N : Nat} {V : Cv} {A : Rw} {S : PS}
theorem rwW_s {way k : Nat} : rwW V A way (k + 1) = (hrW V A way k).1 := by rw [rwW]; rfl
theorem rwW_WF (hs : SPR V.2.1) (hw : WF V.1 A) (way : Nat) : ∀ k, WF V.1 (rwW V A way k)
  | 0 => by rw [rwW]; exact hw
  | k + 1 => by
    rw [rwW]
    exact (hour_HO hs (rwW_WF hs hw way k)).1
theorem hrW_HO (hs : SPR V.2.1) (hw : WF V.1 A) (way k : Nat) : HO V.1 (hrW V A way k) := by
  unfold hrW
  exact hour_HO hs (rwW_WF hs hw way k)
theorem smW_r (hs : SPR V.2.1) (hw : WF V.1 A) {way c : Nat} (hc : c < 9) : ∀ k, k ≤ 2000 → 0 ≤ (smW V A way k c).toInt ∧ (smW V A way k c).toInt ≤ 65536 * (k : Int)
  | 0, _ => by rw [smW, z_ti]; omega
  | k + 1, h => by
    have ih := smW_r hs hw (way := way) hc k (by omega)
    have h2 := (hrW_HO hs hw way k).2.1 c hc
    rw [smW, ti_add (by omega) (by omega)]
    omega
theorem orW_bt (hs : SPR V.2.1) (hw : WF V.1 A) {way : Nat} : ∀ k, k ≤ 2000 → bt (orW V A way k) (fun c => if smW V A way k c = 0 then 0 else 1)
  | 0, _ => by
    rw [orW]
    exact bt_congr bt_0 (fun c _ => by rw [smW, if_pos rfl])
  | k + 1, h => by
    have ih := orW_bt hs hw (way := way) k (by omega)
    rw [orW]
    refine bt_congr (bt_orr ih (hrW_HO hs hw way k).2.2.2) (fun c hc => ?_)
    have r1 := smW_r hs hw (way := way) hc k (by omega)
    have r2 := (hrW_HO hs hw way k).2.1 c hc
    have e : smW V A way (k + 1) c = 0 ↔ smW V A way k c = 0 ∧ (hrW V A way k).2.2.1 c = 0 := by
      rw [smW, eq_ti, eq_ti, eq_ti, z_ti, ti_add (by omega) (by omega)]
      omega
    by_cases e1 : smW V A way k c = 0 <;> by_cases e2 : (hrW V A way k).2.2.1 c = 0 <;> simp [e, e1, e2]
theorem k_pow : ∀ n : Fin 6, (1 <<< (iN n.val &&& 31)) = iN (2 ^ n.val) := by decide +kernel
theorem p2_5 {n : Nat} (h : n ≤ 5) : 2 ^ n ≤ 32 := by
  have : 2 ^ n ≤ 2 ^ 5 := Nat.pow_le_pow_right (by omega) h
  simpa using this
def aCold (V : Cv) (A : Rw) (c h t : Int32) : Int32 ⊕ String :=
  if inr c V.1 then (if btw h 1 5 then (if btw t 0 10 then (.inl (cdS V A (ix c) (ix h) t (2 ^ ix h))) else .inr nIAE) else .inr nIAE) else .inr nNSE
theorem C_cold {c h t : Int32} (q : QC N V A S) : rn (fX11_cold N c h t S) (fun r => r.1 = aCold V A c h t ∧ FQ S r.2) := by
  obtain ⟨p, hp⟩ := q.2.2.2.2
  have hn := q.2.2.1.1
  have hN := q.1
  unfold aCold
  by_cases h1 : inr c V.1
  · obtain ⟨d, hd, rfl⟩ := inr_c h1
    by_cases h2 : btw h 1 5
    · obtain ⟨n, rfl, hnl, hn2⟩ := btw_nat (l := 1) (h := 5) rfl rfl (by omega) (by omega) h2
      by_cases h3 : btw t 0 10
      · have i9 : inr (iN d) 9 := inr_iN (by omega) (by omega)
        have x9 : ix (iN d) = d := ix_iN (by omega)
        have xn : ix (iN n) = n := ix_iN (by omega)
        have hpw : (1 <<< (iN n &&& 31)) = iN (2 ^ n) := k_pow ⟨n, by omega⟩
        have hp5 := p2_5 hn2
        simp only [fX11_cold, nc_t hp hn hd, nr_t h2, nr_t h3, bU_l, if_pos h1, if_pos h2, if_pos h3, rn_bT, rn_lt, rn_some, x9, xn]
        refine for2 (f := fun m y a s => fX11_cold_24 N (iN d) (iN n) t m a (iN y) s) (2 ^ n) (J := fun y a W => a = cdS V A d n t y ∧ FQ S W) ?_ ?_ N 0 0 S (Nat.zero_le _) ⟨by rw [cdS], FQ.rfl⟩ (by omega)
        · rintro j a W ⟨g1, g2⟩
          simp only [fX11_cold_24, hpw]
          rw [if_pos (Int32.le_refl _), rn_some]
          exact ⟨by rw [g1], g2⟩
        · rintro j y a W hy ⟨g1, g2⟩ ih
          have hii : ¬ iN (2 ^ n) ≤ iN y := by rw [iN_le (by omega) (by omega)]; omega
          have qW := q.fq g2
          simp only [fX11_cold_24, hpw, if_neg hii, rn_bV, rn_bT, rn_lt, iN_1]
          refine rn_mono qW.look0 (fun U hU => ?_)
          obtain ⟨u1, u2', u3, -, u5, p', u6⟩ := hU.1
          refine for2 (f := fun m k b s => fX11_cold_43 N (iN d) (iN n) t a (iN y) m b (iN k) s) n (J := fun k b Y => b = wtW t y k ∧ CU 20 (rwW V A y k) Y ∧ (∀ c, c < 9 → Y.1 28 c = smW V A y k c) ∧ Y.2.2 5 4 = 20 ∧ CE p' V.1 V.2.2.1 V.2.2.2 V.2.1 Y ∧ FQ S Y) ?_ ?_ N 0 1 U (Nat.zero_le _) ⟨by rw [wtW], by rw [rwW]; exact u1, fun c hc => by rw [u2' c hc, smT, smW], u5, u6, g2.tr hU.2⟩ (by omega)
          · rintro j2 b Y ⟨y1, y2, y3, y4, y5, y6⟩
            simp only [fX11_cold_43]
            rw [if_pos (Int32.le_refl _)]
            simp only [rn_some, gd_t i9, x9]
            rw [y3 d (by omega)]
            have hr := smW_r q.2.1 q.2.2.1 (way := y) (c := d) (by omega) n (by omega)
            by_cases e : smW V A y n d = 0
            · rw [if_pos (by rw [e]; exact Int32.le_refl _)]
              refine ih _ _ ⟨?_, y6⟩
              rw [cdS, if_pos e, Int32.add_zero]; exact g1
            · have e' : ¬ smW V A y n d ≤ 0 := by
                rw [le_ti, z_ti]
                intro hh
                apply e
                rw [eq_ti, z_ti]
                omega
              rw [if_neg e']
              refine ih _ _ ⟨?_, y6⟩
              rw [cdS, if_neg e, g1, y1]
          · rintro j2 k b Y hk ⟨y1, y2, y3, y4, y5, y6⟩ ih2
            have hi2 : ¬ iN n ≤ iN k := by rw [iN_le (by omega) (by omega)]; omega
            have hwt : ∀ z : Int32, (if (if z = 1 then (1 : Int32) else 0) = 0 then 10 - t else t) = (if z = 1 then t else 10 - t) := fun z => by
              by_cases e : z = 1
              · rw [if_pos e, if_pos e, if_neg (by decide)]
              · rw [if_neg e, if_neg e, if_pos rfl]
            have hwx : (if (if ((iN y >>> (iN k &&& 31)) &&& 1) = 1 then (1 : Int32) else 0) = 0 then (2 : Int32) else 1) = iN (cwW y k) := by
              unfold cwW
              by_cases e : ((iN y >>> (iN k &&& 31)) &&& 1) = 1
              · rw [if_pos e, if_pos e, if_neg (by decide)]; rfl
              · rw [if_neg e, if_neg e, if_pos rfl]; rfl
            simp only [fX11_cold_43, if_neg hi2, lt_b, hwt, hwx, iN_1]
            rw [rn_bV]
            refine rn_mono (C_hour (T := smW V A y k) (L0 := Y.1 5 6) hN (cwW_l y k) is20 q.2.1 (rwW_WF q.2.1 q.2.2.1 y k) y4 y5 y2 y3 rfl) (fun Z hZ => ?_)
            have hFZ : FQ Y Z := FQ.fc hZ.2 (fun a ha => hcC_q ha)
            refine ih2 _ _ ⟨?_, ?_, fun c hc => ?_, by rw [hZ.2.2]; exact y4, y5.fc is20 hZ.2, y6.tr hFZ⟩
            · rw [wtW, y1]
            · rw [rwW_s]; exact hZ.1.1
            · rw [smW]; exact (hZ.1.2.1 c hc).2
      · simp only [fX11_cold, nc_t hp hn hd, nr_t h2, nr_f h3, bU_l, bU_r, if_pos h1, if_pos h2, if_neg h3, rn_some]
        first | exact ⟨trivial, FQ.rfl⟩ | exact ⟨rfl, FQ.rfl⟩
    · simp only [fX11_cold, nc_t hp hn hd, nr_f h2, bU_l, bU_r, if_pos h1, if_neg h2, rn_some]
      first | exact ⟨trivial, FQ.rfl⟩ | exact ⟨rfl, FQ.rfl⟩
  · simp only [fX11_cold, nc_f hp hn h1, bU_l, bU_r, if_neg h1, rn_some]
    first | exact ⟨trivial, FQ.rfl⟩ | exact ⟨rfl, FQ.rfl⟩
/-- all but the frost that is put in its place -/
def FX (S T : PS) : Prop := FP (u2 S.1 80 40 (T.1 80 40), S.2) T
theorem FX.rfl {S : PS} : FX S S := by
  unfold FX
  rw [u2_self]
  exact FP.rfl
theorem FX.fh {S T U : PS} (h : FX S T) (hf : FH 64 T U) : FX S U := by
  unfold FX at *
  rw [hf.1.2.1 40 (by unfold hfM; omega)]
  exact h.tr (FP.fh hf)
theorem FX.set {S T : PS} {x : Int32} (h : FX S T) : FX S (u2 T.1 80 40 x, T.2) := by
  unfold FX at *
  have e : (u2 T.1 80 40 x, T.2).1 80 40 = x := by
    show u2 T.1 80 40 x 80 40 = x
    rw [u2_at, upd_at]
  rw [e]
  obtain ⟨⟨h1, h2, h3⟩, h4⟩ := h
  have n80 : ∀ a, a ≠ 80 → ∀ (f : Nat → Nat → Int32) y, u2 f 80 40 y a = f a := fun a ha f y => u2_o ha
  refine ⟨⟨fun a ha => ?_, fun k hk => ?_, fun k hk => ?_⟩, fun a ha => ⟨?_, (h4 a ha).2.1, (h4 a ha).2.2⟩⟩
  · have ne : a ≠ 80 := by unfold pm at ha; omega
    show u2 T.1 80 40 x a = u2 S.1 80 40 x a
    rw [n80 a ne, n80 a ne]
    have := h1 a ha
    rw [show (u2 S.1 80 40 (T.1 80 40), S.2).1 a = S.1 a from n80 a ne S.1 (T.1 80 40)] at this
    exact this
  · show u2 T.1 80 40 x 91 k = u2 S.1 80 40 x 91 k
    rw [n80 91 (by decide), n80 91 (by decide)]
    have := h2 k hk
    rw [show (u2 S.1 80 40 (T.1 80 40), S.2).1 91 = S.1 91 from n80 91 (by decide) S.1 (T.1 80 40)] at this
    exact this
  · show u2 T.1 80 40 x 80 k = u2 S.1 80 40 x 80 k
    rw [u2_at, u2_at]
    by_cases e4 : k = 40
    · subst e4; rw [upd_at, upd_at]
    · rw [upd_o e4, upd_o e4]
      have := h3 k hk
      rw [show (u2 S.1 80 40 (T.1 80 40), S.2).1 80 k = S.1 80 k from by show u2 S.1 80 40 (T.1 80 40) 80 k = _; rw [u2_at, upd_o e4]] at this
      exact this
  · have ne : a ≠ 80 := by omega
    show u2 T.1 80 40 x a = u2 S.1 80 40 x a
    rw [n80 a ne, n80 a ne]
    have := (h4 a ha).1
    rw [show (u2 S.1 80 40 (T.1 80 40), S.2).1 a = S.1 a from n80 a ne S.1 (T.1 80 40)] at this
    exact this
theorem FX.fin {S T : PS} (h : FX S T) (h0 : S.1 80 40 = -1) : FP S (u2 T.1 80 40 (-1), T.2) := by
  have h1 := h.set (x := -1)
  unfold FX at h1
  have e : (u2 T.1 80 40 (-1), T.2).1 80 40 = -1 := by
    show u2 T.1 80 40 (-1) 80 40 = -1
    rw [u2_at, upd_at]
  rw [e, ← h0, u2_self] at h1
  rw [← h0]
  exact h1
theorem ME_w {n w w' : Nat} {lk fr : Option (List Int32)} {sp : Nat → Int32} {S : PS} (h : ME n w lk fr sp S) : ME n w' lk fr sp (u2 S.1 80 40 (wM w'), S.2) := by
  obtain ⟨h1, h2, h3, h4, h5⟩ := h
  have q : ∀ k, k ≠ 40 → u2 S.1 80 40 (wM w') 80 k = S.1 80 k := fun k hk => by rw [u2_at, upd_o hk]
  have r : ∀ a, a ≠ 80 → u2 S.1 80 40 (wM w') a = S.1 a := fun a ha => u2_o ha
  refine ⟨(q 1 (by omega)).trans h1, fun c hc => ?_, ?_, ?_, ?_⟩
  · show u2 S.1 80 40 (wM w') 81 c = sp c
    rw [r 81 (by omega)]; exact h2 c hc
  · show RM lk (u2 S.1 80 40 (wM w') 80 2) (u2 S.1 80 40 (wM w') 82)
    rw [q 2 (by omega), r 82 (by omega)]; exact h3
  · show RM fr (u2 S.1 80 40 (wM w') 80 3) (u2 S.1 80 40 (wM w') 82)
    rw [q 3 (by omega), r 82 (by omega)]; exact h4
  · show u2 S.1 80 40 (wM w') 80 40 = wM w'
    rw [u2_at, upd_at]
theorem ME_fx {n w : Nat} {lk fr : Option (List Int32)} {sp : Nat → Int32} {S T : PS} (h : ME n w lk fr sp S) (hf : FX S T) {w' : Nat} (hw : T.1 80 40 = wM w') : ME n w' lk fr sp T := by
  have h1 := ME_w (w' := w') h
  unfold FX at hf
  rw [hw] at hf
  exact ME_pm h1 hf.1
theorem M_cdl {d n : Nat} {t : Int32} {T : PS} (q : QM N V A T) (t0 : T.1 80 0 = 0) (hd : d < V.1) (hn2 : n ≤ 5) :
    rn (fX12_cold_53 N (iN d) (iN n) t N 0 0 T) (fun r => r.1 = cdS V A d n t (2 ^ n) ∧ r.2.2.1 80 0 = 0 ∧ FX T r.2.2) := by
  have hn := q.2.2.1.1
  have hN := q.1
  have hpw : (1 <<< (iN n &&& 31)) = iN (2 ^ n) := k_pow ⟨n, by omega⟩
  have hp5 := p2_5 hn2
  refine for2 (f := fun m y a s => fX12_cold_53 N (iN d) (iN n) t m a (iN y) s) (2 ^ n) (J := fun y a W => a = cdS V A d n t y ∧ W.1 80 0 = 0 ∧ FX T W) ?_ ?_ N 0 0 T (Nat.zero_le _) ⟨by rw [cdS], t0, FX.rfl⟩ (by omega)
  · rintro j a W ⟨g1, g2, g3⟩
    simp only [fX12_cold_53, hpw]
    rw [if_pos (Int32.le_refl _), rn_some]
    exact ⟨g1, g2, g3⟩
  · rintro j y a W hy ⟨g1, g2, g3⟩ ih
    have hii : ¬ iN (2 ^ n) ≤ iN y := by rw [iN_le (by omega) (by omega)]; omega
    have hMR : MR 0 V.1 A W := by
      have h4 := q.2.2.2.1
      rw [MF_MR] at h4 ⊢
      refine h4.cg hn (fun k hk => ?_)
      rw [Nat.zero_add]
      have e91 : u2 T.1 80 40 (W.1 80 40) 91 = T.1 91 := u2_o (by decide)
      exact (g3.1.2.1 k hk).trans (congrFun e91 k)
    simp only [fX12_cold_53, hpw, if_neg hii, rn_bV, rn_bT, rn_lt, iN_1]
    refine rn_mono (M_tries hN hn hMR) (fun U hU => ?_)
    refine for3 (f := fun m k b e s => fX12_cold_74 N (iN d) (iN n) t a (iN y) m b e (iN k) s) n (J := fun k b e Y => b = wtW t y k ∧ e = orW V A y k ∧ MR 64 V.1 (rwW V A y k) Y ∧ Y.1 80 0 = 0 ∧ FX T Y) ?_ ?_ N 0 1 0 U (Nat.zero_le _) ⟨by rw [wtW], by rw [orW], by rw [rwW]; exact hU.1, hU.2.t0.trans g2, g3.fh hU.2⟩ (by omega)
    · rintro j2 b e Y ⟨y1, y2, y3, y4, y5⟩
      simp only [fX12_cold_74]
      rw [if_pos (Int32.le_refl _)]
      simp only [rn_some]
      refine ih _ _ ⟨?_, y4, y5⟩
      have hb := orW_bt q.2.1 q.2.2.1 (way := y) n (by omega)
      rw [y2, bt_has hb (show d < 9 by omega), cdS, g1, y1]
      by_cases e0 : smW V A y n d = 0
      · rw [if_pos e0, if_pos e0, if_neg (by decide)]
      · rw [if_neg e0, if_neg e0, if_pos rfl]
    · rintro j2 k b e Y hk ⟨y1, y2, y3, y4, y5⟩ ih2
      have hi2 : ¬ iN n ≤ iN k := by rw [iN_le (by omega) (by omega)]; omega
      have hy5 : y < 512 := by omega
      have hk9 : k < 9 := by omega
      have hbit := b_has hy5 hk9
      have hwx : (iN y >>> (iN k &&& 31)) &&& 1 = wM (cwW y k) := by
        unfold cwW
        rw [hbit]
        cases y.testBit k <;> decide
      have h40 : ∀ x, u2 Y.1 80 40 x 80 40 = x := fun x => by rw [u2_at, upd_at]
      simp only [fX12_cold_74, if_neg hi2, lt_b, h40, iN_1]
      rw [rn_bV]
      have hX := y5.set (x := (iN y >>> (iN k &&& 31)) &&& 1)
      have hME : ME V.1 (cwW y k) V.2.2.1 V.2.2.2 V.2.1 (u2 Y.1 80 40 ((iN y >>> (iN k &&& 31)) &&& 1), Y.2) := ME_fx q.2.2.2.2 hX ((h40 _).trans hwx)
      refine rn_mono (M_hour (b := 64) hN (cwW_l y k) (by omega) q.2.1 (rwW_WF q.2.1 q.2.2.1 y k) hME (y3.cg (show u2 Y.1 80 40 ((iN y >>> (iN k &&& 31)) &&& 1) 91 = Y.1 91 from u2_o (by decide)))) (fun Z hZ => ?_)
      refine ih2 _ _ _ ⟨?_, ?_, ?_, ?_, hX.fh hZ.2⟩
      · rw [wtW, y1]
      · rw [orW, y2, hZ.1.2.2.1]; rfl
      · rw [rwW_s]; exact hZ.1.1
      · rw [hZ.2.t0]
        show u2 Y.1 80 40 ((iN y >>> (iN k &&& 31)) &&& 1) 80 0 = 0
        rw [u2_at, upd_o (by decide)]; exact y4
theorem M_cold {c h t : Int32} (q : QM N V A S) : rn (fX12_cold N c h t S) (fun r => MA k2 (aCold V A c h t) r.1 (r.2.1 80 0) ∧ FP S r.2) := by
  have hn := q.2.2.1.1
  have hN := q.1
  have q0 := q.fp (zFP (k := 0))
  have hF := zFP (S := S) (k := 0)
  have h80 := q0.2.2.2.2.1
  have hz := z0 (S := S)
  unfold aCold
  by_cases h1 : inr c V.1
  · obtain ⟨d, hd, rfl⟩ := inr_c h1
    by_cases h2 : btw h 1 5
    · obtain ⟨n, rfl, hnl, hn2⟩ := btw_nat (l := 1) (h := 5) rfl rfl (by omega) (by omega) h2
      by_cases h3 : btw t 0 10
      · have x9 : ix (iN d) = d := ix_iN (by omega)
        have xn : ix (iN n) = n := ix_iN (by omega)
        simp only [fX12_cold, rn_lt, ic_t hz hn h80 hd, wi_t h2, wi_t h3, bI_s, if_pos h1, if_pos h2, if_pos h3, rt_t hz (show (1 : Int32) ≠ 0 by decide), show ¬ ((1 : Int32) = 0) from by decide, if_false, rn_bT, rn_some, x9, xn]
        refine rn_mono (M_cdl (t := t) q0 hz hd hn2) (fun r hr => ?_)
        obtain ⟨r1, r2, r3⟩ := hr
        have h40 : (u2 S.1 80 0 0, S.2).1 80 40 = -1 := q0.2.2.2.2.2.2.2.2
        refine ⟨⟨?_, r1⟩, hF.tr (r3.fin h40)⟩
        show u2 r.2.2.1 80 40 (-1) 80 0 = 0
        rw [u2_at, upd_o (by decide)]; exact r2
      · simp only [fX12_cold, rn_lt, ic_t hz hn h80 hd, wi_t h2, wi_f h3, bI_s, if_pos h1, if_pos h2, if_neg h3, rt_f hz (show (2 : Int32) ≠ 0 by decide), rn_some, show ¬ ((1 : Int32) = 0) from by decide, if_false, if_true]
        exact ⟨by show u2 _ 80 0 _ 80 0 = _; rw [u2_at, upd_at]; decide, hF.tr zFP⟩
    · simp only [fX12_cold, rn_lt, ic_t hz hn h80 hd, wi_f h2, bI_s, if_pos h1, if_neg h2, rt_f hz (show (2 : Int32) ≠ 0 by decide), rn_some, show ¬ ((1 : Int32) = 0) from by decide, if_false, if_true]
      exact ⟨by show u2 _ 80 0 _ 80 0 = _; rw [u2_at, upd_at]; decide, hF.tr zFP⟩
  · simp only [fX12_cold, rn_lt, ic_f hz hn h80 h1, bI_s, if_neg h1, rn_some, if_true]
    exact ⟨by show u2 _ 80 0 _ 80 0 = _; rw [u2_at, upd_at]; decide, hF.tr zFP⟩
end Q7
