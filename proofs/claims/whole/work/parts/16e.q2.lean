/-! ===== phase 2: questions about the hours ahead, second part ===== -/
theorem k_hs : ∀ m : Fin 512, ∀ c : Fin 9, ((iN m.val &&& (1 <<< (iN c.val &&& 31))) = (1 <<< (iN c.val &&& 31))) ↔ Nat.testBit m.val c.val = true := by decide +kernel
/-- bits of a number below 512, counted -/
def cn9 (x : Int32) : Int32 := (((((((((0 + ((x >>> (iN 0 &&& 31)) &&& 1)) + ((x >>> (iN 1 &&& 31)) &&& 1)) + ((x >>> (iN 2 &&& 31)) &&& 1)) + ((x >>> (iN 3 &&& 31)) &&& 1)) + ((x >>> (iN 4 &&& 31)) &&& 1)) + ((x >>> (iN 5 &&& 31)) &&& 1)) + ((x >>> (iN 6 &&& 31)) &&& 1)) + ((x >>> (iN 7 &&& 31)) &&& 1)) + ((x >>> (iN 8 &&& 31)) &&& 1))
def bcS (p0 : Int32) : Int32 :=
  let x1 : Int32 := p0 - (((p0.toUInt32 >>> ((1 : Int32).toUInt32 &&& Int32.toUInt32 31)).toInt32) &&& 1431655765)
  let x2 : Int32 := (x1 &&& 858993459) + (((x1.toUInt32 >>> ((2 : Int32).toUInt32 &&& Int32.toUInt32 31)).toInt32) &&& 858993459)
  let x3 : Int32 := (x2 + ((x2.toUInt32 >>> ((4 : Int32).toUInt32 &&& Int32.toUInt32 31)).toInt32)) &&& 252645135
  let x4 : Int32 := x3 + ((x3.toUInt32 >>> ((8 : Int32).toUInt32 &&& Int32.toUInt32 31)).toInt32)
  let x5 : Int32 := x4 + ((x4.toUInt32 >>> ((16 : Int32).toUInt32 &&& Int32.toUInt32 31)).toInt32)
  x5 &&& 63
theorem k_bc : ∀ m : Fin 512, bcS (iN m.val) = cn9 (iN m.val) := by decide +kernel
theorem bc_e {N : Nat} {S : PS} {m : Nat} (h : m < 512) : fJ6_bitCount_0f7a4 N (iN m) S = some (cn9 (iN m), S) := by
  rw [← k_bc ⟨m, h⟩]
  rfl
theorem mb_e {N : Nat} {S : PS} {x : Int32} (hN : 30000 ≤ N) : fX12_bits N x S = some (cn9 x, S) := by
  obtain ⟨k, rfl⟩ : ∃ k, N = k + 10 := ⟨N - 10, by omega⟩
  have e : ∀ j, j < 9 → ¬ (9 : Int32) ≤ iN j := fun j hj => by
    have : (9 : Int32) = iN 9 := rfl
    rw [this, iN_le (by omega) (by omega)]; omega
  have a0 : (0 : Int32) = iN 0 := rfl
  have e9 : (9 : Int32) ≤ iN 9 := Int32.le_refl _
  unfold fX12_bits
  have key : fX12_bits_4 (k + 10) x (k + 10) 0 0 S = some (cn9 x, iN 9, S) := by
    rw [show fX12_bits_4 (k + 10) x (k + 10) 0 0 S = fX12_bits_4 (k + 10) x (k + 10) 0 (iN 0) S from rfl]
    rw [fX12_bits_4, if_neg (e 0 (by omega))]
    rw [lt_b, lt_b, iN_1, fX12_bits_4, if_neg (e 1 (by omega))]
    rw [lt_b, lt_b, iN_1, fX12_bits_4, if_neg (e 2 (by omega))]
    rw [lt_b, lt_b, iN_1, fX12_bits_4, if_neg (e 3 (by omega))]
    rw [lt_b, lt_b, iN_1, fX12_bits_4, if_neg (e 4 (by omega))]
    rw [lt_b, lt_b, iN_1, fX12_bits_4, if_neg (e 5 (by omega))]
    rw [lt_b, lt_b, iN_1, fX12_bits_4, if_neg (e 6 (by omega))]
    rw [lt_b, lt_b, iN_1, fX12_bits_4, if_neg (e 7 (by omega))]
    rw [lt_b, lt_b, iN_1, fX12_bits_4, if_neg (e 8 (by omega))]
    rw [lt_b, lt_b, iN_1, fX12_bits_4, if_pos e9]
    rfl
  rw [key]
  rfl
theorem for2 {β : Type} {f : Nat → Nat → Int32 → PS → Option β} (hi : Nat) {J : Nat → Int32 → PS → Prop} {Q : β → Prop} (done : ∀ n a s, J hi a s → rn (f (n + 1) hi a s) Q)
    (step : ∀ n k a s, k < hi → J k a s → (∀ a' s', J (k + 1) a' s' → rn (f n (k + 1) a' s') Q) → rn (f (n + 1) k a s) Q) : ∀ n k a s, k ≤ hi → J k a s → hi < n + k → rn (f n k a s) Q := fun n k a s =>
  forG (f := fun n k (s : Int32 × PS) => f n k s.1 s.2) hi (J := fun k s => J k s.1 s.2) (fun n s => done n s.1 s.2) (fun n k s hk h ih => step n k s.1 s.2 hk h (fun a' s' => ih (a', s'))) n k (a, s)
theorem for3 {β : Type} {f : Nat → Nat → Int32 → Int32 → PS → Option β} (hi : Nat) {J : Nat → Int32 → Int32 → PS → Prop} {Q : β → Prop} (done : ∀ n a b s, J hi a b s → rn (f (n + 1) hi a b s) Q)
    (step : ∀ n k a b s, k < hi → J k a b s → (∀ a' b' s', J (k + 1) a' b' s' → rn (f n (k + 1) a' b' s') Q) → rn (f (n + 1) k a b s) Q) : ∀ n k a b s, k ≤ hi → J k a b s → hi < n + k → rn (f n k a b s) Q := fun n k a b s =>
  forG (f := fun n k (s : Int32 × Int32 × PS) => f n k s.1 s.2.1 s.2.2) hi (J := fun k s => J k s.1 s.2.1 s.2.2) (fun n s => done n s.1 s.2.1 s.2.2) (fun n k s hk h ih => step n k s.1 s.2.1 s.2.2 hk h (fun a' b' s' => ih (a', b', s'))) n k (a, b, s)
theorem for5 {β : Type} {f : Nat → Nat → Int32 → Int32 → Int32 → Int32 → PS → Option β} (hi : Nat) {J : Nat → Int32 → Int32 → Int32 → Int32 → PS → Prop} {Q : β → Prop} (done : ∀ n a b c d s, J hi a b c d s → rn (f (n + 1) hi a b c d s) Q)
    (step : ∀ n k a b c d s, k < hi → J k a b c d s → (∀ a' b' c' d' s', J (k + 1) a' b' c' d' s' → rn (f n (k + 1) a' b' c' d' s') Q) → rn (f (n + 1) k a b c d s) Q) : ∀ n k a b c d s, k ≤ hi → J k a b c d s → hi < n + k → rn (f n k a b c d s) Q := fun n k a b c d s =>
  forG (f := fun n k (s : Int32 × Int32 × Int32 × Int32 × PS) => f n k s.1 s.2.1 s.2.2.1 s.2.2.2.1 s.2.2.2.2) hi (J := fun k s => J k s.1 s.2.1 s.2.2.1 s.2.2.2.1 s.2.2.2.2) (fun n s => done n s.1 s.2.1 s.2.2.1 s.2.2.2.1 s.2.2.2.2) (fun n k s hk h ih => step n k s.1 s.2.1 s.2.2.1 s.2.2.2.1 s.2.2.2.2 hk h (fun a' b' c' d' s' => ih (a', b', c', d', s'))) n k (a, b, c, d, s)
theorem gmx {a b : Int32} : (if a ≤ b then b else a) = (if a < b then b else a) := by
  by_cases h : a < b
  · rw [if_pos h, if_pos (Int32.le_of_lt h)]
  · rw [if_neg h]
    split
    · rename_i h2
      exact Int32.le_antisymm (Int32.not_lt.mp h) h2
    · rfl
section Q2
variable {N : Nat} {V : Cv} {A : Rw} {S : PS}
theorem tp_m (hs : SPR V.2.1) (hw : WF V.1 A) (k : Nat) : ∃ m, m < 512 ∧ tpK V A k = iN m := by
  cases k with
  | zero => exact ⟨0, by omega, rfl⟩
  | succ k =>
    obtain ⟨m, h1, h2, -⟩ := tpK_bt hs hw k
    exact ⟨m, h1, h2⟩
def choS (V : Cv) (A : Rw) (x : Int32) : Nat → Int32
  | 0 => 0
  | k + 1 => choS V A x k + (if (tpK V A (k + 1) &&& x) = x then 1 else 0)
def swlS (V : Cv) (A : Rw) (c : Nat) : Nat → Int32
  | 0 => A 1 c
  | k + 1 => if swlS V A c k < rowK V A (k + 1) 1 c then rowK V A (k + 1) 1 c else swlS V A c k
/-- the longest row of silence, the row at work -/
def silS (V : Cv) (A : Rw) : Nat → Int32 × Int32
  | 0 => (0, 0)
  | k + 1 => (if (silS V A k).1 < (if tpK V A (k + 1) = 0 then (silS V A k).2 + 1 else 0) then (if tpK V A (k + 1) = 0 then (silS V A k).2 + 1 else 0) else (silS V A k).1, if tpK V A (k + 1) = 0 then (silS V A k).2 + 1 else 0)
/-- the loudest hour, how loud -/
def louS (V : Cv) (A : Rw) : Nat → Int32 × Int32
  | 0 => (-1, -1)
  | k + 1 => if (louS V A k).2 < cn9 (tpK V A (k + 1)) then (iN (k + 1), cn9 (tpK V A (k + 1))) else louS V A k
theorem louS_s {k : Nat} : louS V A (k + 1) = if (louS V A k).2 < cn9 (tpK V A (k + 1)) then (iN (k + 1), cn9 (tpK V A (k + 1))) else louS V A k := by rw [louS]
theorem silS_s {k : Nat} : silS V A (k + 1) = (if (silS V A k).1 < (if tpK V A (k + 1) = 0 then (silS V A k).2 + 1 else 0) then (if tpK V A (k + 1) = 0 then (silS V A k).2 + 1 else 0) else (silS V A k).1, if tpK V A (k + 1) = 0 then (silS V A k).2 + 1 else 0) := by rw [silS]
def aChorus (V : Cv) (A : Rw) (x h : Int32) : Int32 ⊕ String :=
  if bcu V.1 x then (if btw h 1 200 then (.inl (choS V A x (ix h))) else .inr nIAE) else .inr nIAE
theorem C_chorus {x h : Int32} (q : QC N V A S) : rn (fX11_chorus N x h S) (fun r => r.1 = aChorus V A x h ∧ FQ S r.2) := by
  obtain ⟨p, hp⟩ := q.2.2.2.2
  have hn := q.2.2.1.1
  have hN := q.1
  unfold aChorus
  by_cases h1 : bcu V.1 x
  · by_cases h2 : btw h 1 200
    · obtain ⟨m, rfl, hml, hm⟩ := btw_nat (l := 1) (h := 200) rfl rfl (by omega) (by omega) h2
      have xm : ix (iN m) = m := ix_iN (by omega)
      simp only [fX11_chorus, ns_t hp h1, nr_t h2, bU_l, if_pos h1, if_pos h2, rn_bV, rn_bT, rn_lt, rn_some, xm]
      refine rn_mono q.look0 (fun U hU => ?_)
      refine for2 (f := fun n k a s => fX11_chorus_23 N x (iN m) n a (iN k) s) m (J := fun k a W => a = choS V A x k ∧ TR V A (fun _ => 0) 0 k W ∧ FQ S W) ?_ ?_ N 0 0 U (Nat.zero_le _) ⟨by rw [choS], hU.1, hU.2⟩ (by omega)
      · rintro j a W ⟨g1, g2, g3⟩
        simp only [fX11_chorus_23]
        rw [if_pos (Int32.le_refl _), rn_some]
        exact ⟨congrArg _ g1, g3⟩
      · rintro j k a W hk ⟨g1, g2, g3⟩ ih
        have hii : ¬ iN m ≤ iN k := by rw [iN_le (by omega) (by omega)]; omega
        simp only [fX11_chorus_23, if_neg hii, rn_bV]
        refine rn_mono (q.go g2) (fun Y hY => ?_)
        rw [hY.1.2.2.2.1 (by omega)]
        by_cases e : (tpK V A (k + 1) &&& x) = x
        · rw [if_pos e, rn_lt, rn_lt, iN_1]
          refine ih _ Y ⟨?_, hY.1, g3.tr hY.2⟩
          rw [choS, if_pos e, g1]
        · rw [if_neg e, rn_lt, iN_1]
          refine ih _ Y ⟨?_, hY.1, g3.tr hY.2⟩
          rw [choS, if_neg e, g1, Int32.add_zero]
    · simp only [fX11_chorus, ns_t hp h1, nr_f h2, bU_l, bU_r, if_pos h1, if_neg h2, rn_some]
      first | exact ⟨trivial, FQ.rfl⟩ | exact ⟨rfl, FQ.rfl⟩
  · simp only [fX11_chorus, ns_f hp h1, bU_l, bU_r, if_neg h1, rn_some]
    first | exact ⟨trivial, FQ.rfl⟩ | exact ⟨rfl, FQ.rfl⟩
theorem M_chorus {x h : Int32} (q : QM N V A S) : rn (fX12_chorus N x h S) (fun r => MA k1 (aChorus V A x h) r.1 (r.2.1 80 0) ∧ FP S r.2) := by
  have hn := q.2.2.1.1
  have hN := q.1
  have q0 := q.fp (zFP (k := 0))
  have hF := zFP (S := S) (k := 0)
  have h80 := q0.2.2.2.2.1
  have hz := z0 (S := S)
  unfold aChorus
  by_cases h1 : bcu V.1 x
  · by_cases h2 : btw h 1 200
    · obtain ⟨m, rfl, hml, hm⟩ := btw_nat (l := 1) (h := 200) rfl rfl (by omega) (by omega) h2
      have xm : ix (iN m) = m := ix_iN (by omega)
      simp only [fX12_chorus, rn_lt, so_t hz h80 h1, is_t hz h2, bI_s, if_pos h1, if_pos h2, show ¬ ((1 : Int32) = 0) from by decide, if_false, rn_bV, rn_bT, xm]
      refine rn_mono q0.tries (fun U hU => ?_)
      obtain ⟨u1, uf⟩ := hU
      refine for2 (f := fun n k a s => fX12_chorus_34 N x (iN m) n a (iN k) s) m (J := fun k a W => a = choS V A x k ∧ TM V A k W ∧ FH 64 (u2 S.1 80 0 0, S.2) W) ?_ ?_ N 0 0 U (Nat.zero_le _) ⟨by rw [choS], u1, uf⟩ (by omega)
      · rintro j a W ⟨g1, g2, g3⟩
        simp only [fX12_chorus_34]
        rw [if_pos (Int32.le_refl _)]
        simp only [rn_some]
        exact ⟨⟨g3.t0.trans hz, g1⟩, hF.tr (FP.fh g3)⟩
      · rintro j k a W hk ⟨g1, g2, g3⟩ ih
        have hii : ¬ iN m ≤ iN k := by rw [iN_le (by omega) (by omega)]; omega
        simp only [fX12_chorus_34, if_neg hii, rn_bV]
        refine rn_mono (q.hour g2) (fun Y hY => ?_)
        simp only [rn_lt, iN_1]
        refine ih _ Y ⟨?_, hY.1, g3.tr hY.2.2⟩
        rw [choS, tpK_s, hY.2.1.2.2.1, g1]
    · simp only [fX12_chorus, rn_lt, so_t hz h80 h1, is_f hz (show (1 : Int32) ≠ 0 by decide) h2, bI_s, if_pos h1, if_neg h2, rn_some, show ¬ ((1 : Int32) = 0) from by decide, if_false, if_true]
      exact ⟨by show u2 _ 80 0 _ 80 0 = _; rw [u2_at, upd_at]; decide, hF.tr zFP⟩
  · simp only [fX12_chorus, rn_lt, so_f hz h80 h1, bI_s, if_neg h1, rn_some, show ¬ ((1 : Int32) = 0) from by decide, if_false, if_true]
    exact ⟨by show u2 _ 80 0 _ 80 0 = _; rw [u2_at, upd_at]; decide, hF.tr zFP⟩
def aSwell (V : Cv) (A : Rw) (c h : Int32) : Int32 ⊕ String :=
  if inr c V.1 then (if btw h 0 200 then (.inl (swlS V A (ix c) (ix h))) else .inr nIAE) else .inr nNSE
theorem C_swell {c h : Int32} (q : QC N V A S) : rn (fX11_swell N c h S) (fun r => r.1 = aSwell V A c h ∧ FQ S r.2) := by
  obtain ⟨p, hp⟩ := q.2.2.2.2
  have hn := q.2.2.1.1
  have hN := q.1
  unfold aSwell
  by_cases h1 : inr c V.1
  · obtain ⟨d, hd, rfl⟩ := inr_c h1
    by_cases h2 : btw h 0 200
    · obtain ⟨m, rfl, hml, hm⟩ := btw_nat (l := 0) (h := 200) rfl rfl (by omega) (by omega) h2
      have i9 : inr (iN d) 9 := inr_iN (by omega) (by omega)
      have x9 : ix (iN d) = d := ix_iN (by omega)
      have xm : ix (iN m) = m := ix_iN (by omega)
      simp only [fX11_swell, nc_t hp hn hd, nr_t h2, bU_l, if_pos h1, if_pos h2, rn_bV, x9, xm]
      refine rn_mono q.look0 (fun U hU => ?_)
      simp only [rn_lt, rn_bT, rn_some, hU.1.2.2.2.2.1, gd_t is20.ob, gd_t (is20.ar (k := 1) (by omega)), gd_t i9, hU.1.1.1 1 (by omega) d (by omega)]
      refine for2 (f := fun n k a s => fX11_swell_34 N (iN d) (iN m) n a (iN k) s) m (J := fun k a W => a = swlS V A d k ∧ TR V A (fun _ => 0) 0 k W ∧ FQ S W) ?_ ?_ N 0 _ U (Nat.zero_le _) ⟨by rw [swlS]; rfl, hU.1, hU.2⟩ (by omega)
      · rintro j a W ⟨g1, g2, g3⟩
        simp only [fX11_swell_34]
        rw [if_pos (Int32.le_refl _), rn_some]
        exact ⟨congrArg _ g1, g3⟩
      · rintro j k a W hk ⟨g1, g2, g3⟩ ih
        have hii : ¬ iN m ≤ iN k := by rw [iN_le (by omega) (by omega)]; omega
        simp only [fX11_swell_34, if_neg hii, rn_bV]
        refine rn_mono (q.go g2) (fun Y hY => ?_)
        simp only [rn_lt, iN_1, hY.1.2.2.2.2.1, gd_t is20.ob, gd_t (is20.ar (k := 1) (by omega)), gd_t i9, x9, hY.1.1.1 1 (by omega) d (by omega)]
        refine ih _ Y ⟨?_, hY.1, g3.tr hY.2⟩
        rw [swlS, g1]
    · simp only [fX11_swell, nc_t hp hn hd, nr_f h2, bU_l, bU_r, if_pos h1, if_neg h2, rn_some]
      first | exact ⟨trivial, FQ.rfl⟩ | exact ⟨rfl, FQ.rfl⟩
  · simp only [fX11_swell, nc_f hp hn h1, bU_l, bU_r, if_neg h1, rn_some]
    first | exact ⟨trivial, FQ.rfl⟩ | exact ⟨rfl, FQ.rfl⟩
theorem M_swell {c h : Int32} (q : QM N V A S) : rn (fX12_swell N c h S) (fun r => MA k2 (aSwell V A c h) r.1 (r.2.1 80 0) ∧ FP S r.2) := by
  have hn := q.2.2.1.1
  have hN := q.1
  have q0 := q.fp (zFP (k := 0))
  have hF := zFP (S := S) (k := 0)
  have h80 := q0.2.2.2.2.1
  have hz := z0 (S := S)
  unfold aSwell
  by_cases h1 : inr c V.1
  · obtain ⟨d, hd, rfl⟩ := inr_c h1
    by_cases h2 : btw h 0 200
    · obtain ⟨m, rfl, hml, hm⟩ := btw_nat (l := 0) (h := 200) rfl rfl (by omega) (by omega) h2
      have i9 : inr (iN d) 9 := inr_iN (by omega) (by omega)
      have x9 : ix (iN d) = d := ix_iN (by omega)
      have xm : ix (iN m) = m := ix_iN (by omega)
      have o10 : (10 : Int32) + iN d = iN (0 + 10 + d) := iN_add 10 d
      have i10 : inr (iN (0 + 10 + d)) 128 := inr_iN (by omega) (by omega)
      have x10 : ix (iN (0 + 10 + d)) = 0 + 10 + d := ix_iN (by omega)
      have o74 : (74 : Int32) + iN d = iN (64 + 10 + d) := iN_add 74 d
      have i74 : inr (iN (64 + 10 + d)) 128 := inr_iN (by omega) (by omega)
      have x74 : ix (iN (64 + 10 + d)) = 64 + 10 + d := ix_iN (by omega)
      simp only [fX12_swell, rn_lt, ic_t hz hn h80 hd, is_t hz h2, bI_s, if_pos h1, if_pos h2, show ¬ ((1 : Int32) = 0) from by decide, if_false, rn_bV, rn_bT, rn_some, x9, xm, o10, gd_t i10, x10]
      have r10 : u2 S.1 80 0 0 91 (0 + 10 + d) = A 1 d := (q0.2.2.2.1.2 d hd).2.1
      rw [r10]
      refine rn_mono q0.tries (fun U hU => ?_)
      obtain ⟨u1, uf⟩ := hU
      refine for2 (f := fun n k a s => fX12_swell_42 N (iN d) (iN m) n a (iN k) s) m (J := fun k a W => a = swlS V A d k ∧ TM V A k W ∧ FH 64 (u2 S.1 80 0 0, S.2) W) ?_ ?_ N 0 _ U (Nat.zero_le _) ⟨by rw [swlS], u1, uf⟩ (by omega)
      · rintro j a W ⟨g1, g2, g3⟩
        simp only [fX12_swell_42]
        rw [if_pos (Int32.le_refl _)]
        simp only [rn_some]
        exact ⟨⟨g3.t0.trans hz, g1⟩, hF.tr (FP.fh g3)⟩
      · rintro j k a W hk ⟨g1, g2, g3⟩ ih
        have hii : ¬ iN m ≤ iN k := by rw [iN_le (by omega) (by omega)]; omega
        simp only [fX12_swell_42, if_neg hii, rn_bV]
        refine rn_mono (q.hour g2) (fun Y hY => ?_)
        simp only [o74, gd_t i74, x74, rn_lt, iN_1, fX12_greater, rn_bI, rn_some]
        rw [(hY.1.1.2 d hd).2.1]
        refine ih _ Y ⟨?_, hY.1, g3.tr hY.2.2⟩
        rw [swlS, g1, gmx]
    · simp only [fX12_swell, rn_lt, ic_t hz hn h80 hd, is_f hz (show (2 : Int32) ≠ 0 by decide) h2, bI_s, if_pos h1, if_neg h2, rn_some, show ¬ ((1 : Int32) = 0) from by decide, if_false, if_true]
      exact ⟨by show u2 _ 80 0 _ 80 0 = _; rw [u2_at, upd_at]; decide, hF.tr zFP⟩
  · simp only [fX12_swell, rn_lt, ic_f hz hn h80 h1, bI_s, if_neg h1, rn_some, show ¬ ((1 : Int32) = 0) from by decide, if_false, if_true]
    exact ⟨by show u2 _ 80 0 _ 80 0 = _; rw [u2_at, upd_at]; decide, hF.tr zFP⟩
def aSound (V : Cv) (A : Rw) (h w : Int32) : Int32 ⊕ String :=
  if btw w 0 1 then (if btw h 1 200 then (.inl (if w = 0 then (silS V A (ix h)).1 else (louS V A (ix h)).1)) else .inr nIAE) else .inr nNSE
theorem C_sound {h w : Int32} (q : QC N V A S) : rn (fX11_sound N h w S) (fun r => r.1 = aSound V A h w ∧ FQ S r.2) := by
  obtain ⟨p, hp⟩ := q.2.2.2.2
  have hn := q.2.2.1.1
  have hN := q.1
  unfold aSound
  by_cases h1 : btw w 0 1
  · by_cases h2 : btw h 1 200
    · obtain ⟨m, rfl, hml, hm⟩ := btw_nat (l := 1) (h := 200) rfl rfl (by omega) (by omega) h2
      have xm : ix (iN m) = m := ix_iN (by omega)
      simp only [fX11_sound, nw_t h1, nr_t h2, bU_l, if_pos h1, if_pos h2, xm]
      by_cases e : w = 0
      · simp only [if_pos e, fX11_longestSilence, rn_bI, rn_bV, rn_bT, rn_lt, rn_some]
        refine rn_mono q.look0 (fun U hU => ?_)
        refine for3 (f := fun n k a b s => fX11_longestSilence_12 N (iN m) n a b (iN k) s) m (J := fun k a b W => a = (silS V A k).1 ∧ b = (silS V A k).2 ∧ TR V A (fun _ => 0) 0 k W ∧ FQ S W) ?_ ?_ N 0 (0) (0) U (Nat.zero_le _) ⟨by rw [silS], by rw [silS], hU.1, hU.2⟩ (by omega)
        · rintro j a b W ⟨g1, g2, g3, g4⟩
          simp only [fX11_longestSilence_12]
          rw [if_pos (Int32.le_refl _), rn_some]
          exact ⟨congrArg _ g1, g4⟩
        · rintro j k a b W hk ⟨g1, g2, g3, g4⟩ ih
          have hii : ¬ iN m ≤ iN k := by rw [iN_le (by omega) (by omega)]; omega
          simp only [fX11_longestSilence_12, if_neg hii, rn_bV]
          refine rn_mono (q.go g3) (fun Y hY => ?_)
          simp only [rn_lt, iN_1]
          rw [hY.1.2.2.2.1 (by omega)]
          refine ih _ _ Y ⟨?_, ?_, hY.1, g4.tr hY.2⟩
          · rw [silS, g1, g2]
          · rw [silS, g2]
      · simp only [if_neg e, fX11_loudestHour, rn_bI, rn_bV, rn_bT, rn_lt, rn_some]
        refine rn_mono q.look0 (fun U hU => ?_)
        refine for3 (f := fun n k a b s => fX11_loudestHour_12 N (iN m) n a b (iN k) s) (m + 1) (J := fun k a b W => 1 ≤ k ∧ a = (louS V A (k - 1)).1 ∧ b = (louS V A (k - 1)).2 ∧ TR V A (fun _ => 0) 0 (k - 1) W ∧ FQ S W) ?_ ?_ N 1 (-1) (-1) U (by omega) ⟨by omega, by rw [louS], by rw [louS], hU.1, hU.2⟩ (by omega)
        · rintro j a b W ⟨g0, g1, g2, g3, g4⟩
          simp only [fX11_loudestHour_12]
          rw [if_pos (by rw [iN_lt (by omega) (by omega)]; omega), rn_some]
          rw [Nat.add_sub_cancel] at g1
          exact ⟨congrArg _ g1, g4⟩
        · rintro j k a b W hk ⟨g0, g1, g2, g3, g4⟩ ih
          have hii : ¬ iN m < iN k := by rw [iN_lt (by omega) (by omega)]; omega
          simp only [fX11_loudestHour_12, if_neg hii, rn_bV, rn_bI]
          refine rn_mono (q.go g3) (fun Y hY => ?_)
          have e1 : k - 1 + 1 = k := by omega
          rw [e1] at hY
          rw [hY.1.2.2.2.1 (by omega)]
          obtain ⟨mm, hmm, hmt⟩ := tp_m q.2.1 q.2.2.1 k
          have hl : louS V A k = if (louS V A (k - 1)).2 < cn9 (tpK V A k) then (iN k, cn9 (tpK V A k)) else louS V A (k - 1) := by
            have := louS_s (V := V) (A := A) (k := k - 1)
            rw [e1] at this
            exact this
          rw [hmt, bc_e hmm, rn_some]
          rw [hmt] at hl
          by_cases e5 : b < cn9 (iN mm)
          · rw [← g2, if_pos e5] at hl
            rw [if_neg (Int32.not_le.mpr e5)]
            simp only [rn_lt, iN_1]
            refine ih _ _ Y ⟨by omega, ?_, ?_, ?_, g4.tr hY.2⟩
            · rw [Nat.add_sub_cancel, hl]
            · rw [Nat.add_sub_cancel, hl]
            · rw [Nat.add_sub_cancel]; exact hY.1
          · rw [← g2, if_neg e5] at hl
            rw [if_pos (Int32.not_lt.mp e5)]
            simp only [rn_lt, iN_1]
            refine ih _ _ Y ⟨by omega, ?_, ?_, ?_, g4.tr hY.2⟩
            · rw [Nat.add_sub_cancel, hl]; exact g1
            · rw [Nat.add_sub_cancel, hl]; exact g2
            · rw [Nat.add_sub_cancel]; exact hY.1
    · simp only [fX11_sound, nw_t h1, nr_f h2, bU_l, bU_r, if_pos h1, if_neg h2, rn_some]
      first | exact ⟨trivial, FQ.rfl⟩ | exact ⟨rfl, FQ.rfl⟩
  · simp only [fX11_sound, nw_f h1, bU_l, bU_r, if_neg h1, rn_some]
    first | exact ⟨trivial, FQ.rfl⟩ | exact ⟨rfl, FQ.rfl⟩
theorem M_sound {h w : Int32} (q : QM N V A S) : rn (fX12_sound N h w S) (fun r => MA k2 (aSound V A h w) r.1 (r.2.1 80 0) ∧ FP S r.2) := by
  have hn := q.2.2.1.1
  have hN := q.1
  have q0 := q.fp (zFP (k := 0))
  have hF := zFP (S := S) (k := 0)
  have h80 := q0.2.2.2.2.1
  have hz := z0 (S := S)
  unfold aSound
  by_cases h1 : btw w 0 1
  · by_cases h2 : btw h 1 200
    · obtain ⟨m, rfl, hml, hm⟩ := btw_nat (l := 1) (h := 200) rfl rfl (by omega) (by omega) h2
      have xm : ix (iN m) = m := ix_iN (by omega)
      simp only [fX12_sound, rn_lt, iw_t hz h1, is_t hz h2, bI_s, if_pos h1, if_pos h2, show ¬ ((1 : Int32) = 0) from by decide, if_false, rn_bV, rn_bT, xm]
      refine rn_mono q0.tries (fun U hU => ?_)
      obtain ⟨u1, uf⟩ := hU
      refine for5 (f := fun n k a b c d s => fX12_sound_44 N (iN m) w n a b c d (iN k) s) (m + 1) (J := fun k a b c d W => 1 ≤ k ∧ a = (silS V A (k - 1)).2 ∧ b = (silS V A (k - 1)).1 ∧ c = (louS V A (k - 1)).1 ∧ d = (louS V A (k - 1)).2 ∧ TM V A (k - 1) W ∧ FH 64 (u2 S.1 80 0 0, S.2) W) ?_ ?_ N 1 0 0 (-1) (-1) U (by omega) ⟨by omega, by rw [silS], by rw [silS], by rw [louS], by rw [louS], u1, uf⟩ (by omega)
      · rintro j a b c d W ⟨g0, g1, g2, g3, g4, g5, g6⟩
        simp only [fX12_sound_44]
        rw [if_pos (by rw [iN_lt (by omega) (by omega)]; omega)]
        simp only [rn_some]
        rw [Nat.add_sub_cancel] at g2 g3
        refine ⟨⟨g6.t0.trans hz, ?_⟩, hF.tr (FP.fh g6)⟩
        rw [g2, g3]
      · rintro j k a b c d W hk ⟨g0, g1, g2, g3, g4, g5, g6⟩ ih
        have hii : ¬ iN m < iN k := by rw [iN_lt (by omega) (by omega)]; omega
        simp only [fX12_sound_44, if_neg hii, rn_bV]
        refine rn_mono (q.hour g5) (fun Y hY => ?_)
        have e1 : k - 1 + 1 = k := by omega
        have e3 : Y.1 80 38 = tpK V A k := by
          rw [hY.2.1.2.2.1]
          have := tpK_s (V := V) (A := A) (k := k - 1)
          rw [e1] at this
          exact this.symm
        rw [e1] at hY
        have hl : louS V A k = if (louS V A (k - 1)).2 < cn9 (tpK V A k) then (iN k, cn9 (tpK V A k)) else louS V A (k - 1) := by
          have := louS_s (V := V) (A := A) (k := k - 1)
          rw [e1] at this
          exact this
        have hs : silS V A k = (if (silS V A (k - 1)).1 < (if tpK V A k = 0 then (silS V A (k - 1)).2 + 1 else 0) then (if tpK V A k = 0 then (silS V A (k - 1)).2 + 1 else 0) else (silS V A (k - 1)).1, if tpK V A k = 0 then (silS V A (k - 1)).2 + 1 else 0) := by
          have := silS_s (V := V) (A := A) (k := k - 1)
          rw [e1] at this
          exact this
        simp only [fX12_greater, lt_b, bI_s, mb_e hN, e3, iN_1, gmx]
        rw [← g4] at hl
        rw [← g1, ← g2] at hs
        by_cases e5 : d < cn9 (tpK V A k)
        · rw [if_pos e5] at hl ⊢
          refine ih _ _ _ _ Y ⟨by omega, ?_, ?_, ?_, ?_, ?_, g6.tr hY.2.2⟩
          · rw [Nat.add_sub_cancel, hs]
          · rw [Nat.add_sub_cancel, hs]
          · rw [Nat.add_sub_cancel, hl]
          · rw [Nat.add_sub_cancel, hl]
          · rw [Nat.add_sub_cancel]; exact hY.1
        · rw [if_neg e5] at hl ⊢
          refine ih _ _ _ _ Y ⟨by omega, ?_, ?_, ?_, ?_, ?_, g6.tr hY.2.2⟩
          · rw [Nat.add_sub_cancel, hs]
          · rw [Nat.add_sub_cancel, hs]
          · rw [Nat.add_sub_cancel, hl]; exact g3
          · rw [Nat.add_sub_cancel, hl]; exact g4
          · rw [Nat.add_sub_cancel]; exact hY.1
    · simp only [fX12_sound, rn_lt, iw_t hz h1, is_f hz (show (2 : Int32) ≠ 0 by decide) h2, bI_s, if_pos h1, if_neg h2, rn_some, show ¬ ((1 : Int32) = 0) from by decide, if_false, if_true]
      exact ⟨by show u2 _ 80 0 _ 80 0 = _; rw [u2_at, upd_at]; decide, hF.tr zFP⟩
  · simp only [fX12_sound, rn_lt, iw_f hz h1, bI_s, if_neg h1, rn_some, show ¬ ((1 : Int32) = 0) from by decide, if_false, if_true]
    exact ⟨by show u2 _ 80 0 _ 80 0 = _; rw [u2_at, upd_at]; decide, hF.tr zFP⟩
end Q2
