/-! ===== phase 2: questions about the hours ahead, third part ===== -/
theorem iN_and (a b : Nat) : iN a &&& iN b = iN (a &&& b) := Int32.toBitVec_inj.mp BitVec.ofNat_and.symm
theorem iN_xor (a b : Nat) : iN a ^^^ iN b = iN (a ^^^ b) := Int32.toBitVec_inj.mp BitVec.ofNat_xor.symm
theorem iN_or (a b : Nat) : iN a ||| iN b = iN (a ||| b) := Int32.toBitVec_inj.mp BitVec.ofNat_or.symm
theorem tb_all {i : Nat} (h : i < 9) : Nat.testBit 4294967295 i = true := by
  have : ∀ j : Fin 9, Nat.testBit 4294967295 j.val = true := by decide
  exact this ⟨i, h⟩
/-- those of the first that aren't of the second -/
theorem bt_andn {x y : Int32} {f g : Nat → Int32} (h : bt x f) (h' : bt y g) : bt (x &&& (y ^^^ (-1))) (fun c => if g c = 0 then f c else 0) := by
  obtain ⟨m, hm, rfl, hf⟩ := h
  obtain ⟨m', hm', rfl, hg⟩ := h'
  have e : (-1 : Int32) = iN 4294967295 := by decide
  refine ⟨m &&& (m' ^^^ 4294967295), bclr_lt hm, by rw [e, iN_xor, iN_and], fun c hc => ?_⟩
  show (if g c = 0 then f c else 0) = _
  rw [Nat.testBit_and, Nat.testBit_xor, tb_all hc, hf c hc, hg c hc]
  cases m.testBit c <;> cases m'.testBit c <;> simp
theorem k_low : ∀ n : Fin 10, (1 <<< (iN n.val &&& 31)) - 1 = iN (2 ^ n.val - 1) := by decide +kernel
theorem k_lowb : ∀ n : Fin 10, ∀ c : Fin 9, Nat.testBit (2 ^ n.val - 1) c.val = decide (c.val < n.val) := by decide +kernel
theorem k_low5 : ∀ n : Fin 10, 2 ^ n.val - 1 < 512 := by decide +kernel
/-- all cups -/
theorem bt_low {n : Nat} (h : n ≤ 9) : bt ((1 <<< (iN n &&& 31)) - 1) (fun c => if c < n then 1 else 0) := by
  refine ⟨2 ^ n - 1, k_low5 ⟨n, by omega⟩, k_low ⟨n, by omega⟩, fun c hc => ?_⟩
  rw [k_lowb ⟨n, by omega⟩ ⟨c, hc⟩]
  by_cases e : c < n <;> simp [e]
/-- cups of which a number is 0 -/
def dryS (f : Nat → Int32) : Nat → Int32
  | 0 => 0
  | c + 1 => if f c = 0 then dryS f c ||| (1 <<< (iN c &&& 31)) else dryS f c
theorem dryS_s {f : Nat → Int32} {c : Nat} : dryS f (c + 1) = if f c = 0 then dryS f c ||| (1 <<< (iN c &&& 31)) else dryS f c := by rw [dryS]
theorem dryS_bt {f : Nat → Int32} : ∀ n, n ≤ 9 → bt (dryS f n) (fun c => if c < n ∧ f c = 0 then 1 else 0)
  | 0, _ => bt_congr bt_0 (fun c _ => by simp)
  | n + 1, h => by
    have ih := dryS_bt (f := f) n (by omega)
    rw [dryS]
    by_cases e : f n = 0
    · rw [if_pos e]
      refine bt_congr (bt_or ih (show n < 9 by omega)) (fun c hc => ?_)
      unfold upd
      by_cases ec : c = n
      · subst ec; simp [e]
      · rw [if_neg ec]
        have : (c < n + 1 ∧ f c = 0) ↔ (c < n ∧ f c = 0) := ⟨fun h => ⟨by omega, h.2⟩, fun h => ⟨by omega, h.2⟩⟩
        simp only [this]
    · rw [if_neg e]
      refine bt_congr ih (fun c hc => ?_)
      have : (c < n + 1 ∧ f c = 0) ↔ (c < n ∧ f c = 0) := by
        constructor
        · rintro ⟨h1, h2⟩
          refine ⟨?_, h2⟩
          by_cases ec : c = n
          · subst ec; exact absurd h2 e
          · omega
        · rintro ⟨h1, h2⟩
          exact ⟨by omega, h2⟩
      simp only [this]
/-- the first of those of which a number is greatest -/
def mstS (f : Nat → Int32) : Nat → Int32
  | 0 => -1
  | c + 1 => if mstS f c = -1 then iN c else if f c ≤ f (ix (mstS f c)) then mstS f c else iN c
theorem mstS_s {f : Nat → Int32} {c : Nat} : mstS f (c + 1) = if mstS f c = -1 then iN c else if f c ≤ f (ix (mstS f c)) then mstS f c else iN c := by rw [mstS]
theorem mstS_r {f : Nat → Int32} : ∀ n, n ≤ 9 → mstS f n = -1 ∨ ∃ d, d < n ∧ mstS f n = iN d
  | 0, _ => Or.inl (by rw [mstS])
  | n + 1, h => by
    rw [mstS]
    split
    · exact Or.inr ⟨n, by omega, rfl⟩
    · rename_i e
      obtain ⟨d, h1, h2⟩ := (mstS_r (f := f) n (by omega)).resolve_left e
      split
      · exact Or.inr ⟨d, by omega, h2⟩
      · exact Or.inr ⟨n, by omega, rfl⟩
theorem mstS_cg {f g : Nat → Int32} : ∀ n, n ≤ 9 → (∀ c, c < n → f c = g c) → mstS f n = mstS g n
  | 0, _, _ => by rw [mstS, mstS]
  | n + 1, h, e => by
    have ih := mstS_cg (f := f) (g := g) n (by omega) (fun c hc => e c (by omega))
    rw [mstS, mstS, ih]
    rcases mstS_r (f := g) n (by omega) with h1 | ⟨d, h1, h2⟩
    · rw [if_pos h1, if_pos h1]
    · rw [h2, ix_iN (by omega), e n (by omega), e d (by omega)]
theorem dryS_cg {f g : Nat → Int32} : ∀ n, (∀ c, c < n → f c = g c) → dryS f n = dryS g n
  | 0, _ => by rw [dryS, dryS]
  | n + 1, e => by rw [dryS, dryS, dryS_cg n (fun c hc => e c (by omega)), e n (by omega)]
section Q3
variable {N : Nat} {V : Cv} {A : Rw} {S : PS}
theorem smT_r (hs : SPR V.2.1) (hw : WF V.1 A) {c : Nat} (hc : c < 9) : ∀ k, k ≤ 2000 → 0 ≤ (smT V A (fun _ => 0) k c).toInt ∧ (smT V A (fun _ => 0) k c).toInt ≤ 65536 * (k : Int)
  | 0, _ => by rw [smT, z_ti]; omega
  | k + 1, h => by
    have ih := smT_r hs hw hc k (by omega)
    have h2 := (hrK_HO hs hw k).2.1 c hc
    rw [smT_s, ti_add (by omega) (by omega)]
    omega
theorem smT_z (hs : SPR V.2.1) (hw : WF V.1 A) {c k : Nat} (hc : c < 9) (hk : k < 2000) : smT V A (fun _ => 0) (k + 1) c = 0 ↔ smT V A (fun _ => 0) k c = 0 ∧ (hrK V A k).2.2.1 c = 0 := by
  have ih := smT_r hs hw hc k (by omega)
  have h2 := (hrK_HO hs hw k).2.1 c hc
  rw [smT_s, eq_ti, eq_ti, eq_ti, z_ti, ti_add (by omega) (by omega)]
  omega
theorem C_most {a m : Nat} {f : Nat → Int32} {p : Nat} (hN : 30000 ≤ N) (hn : V.1 ≤ 9) (hp : CE p V.1 V.2.2.1 V.2.2.2 V.2.1 S) (ha : arr a 1 9) (hf : ∀ c, c < 9 → S.1 a c = f c) : fX11_mostOf N a S = some (mstS f V.1, S) := by
  have hck : (ck a).2 = 9 := by rw [ha.1]
  have key : ∀ c, c ≤ V.1 → ∀ n, V.1 < n + c → fX11_mostOf_4 N a n (mstS f c) (iN c) S = some (mstS f V.1, iN V.1, S) := by
    intro c hc n
    induction n generalizing c with
    | zero => intro h; omega
    | succ n ih =>
      intro h
      have q := p_ob hp.1
      rw [fX11_mostOf_4]
      rw [lt_b, hp.2.1, gd_t q.1, hp.2.2.1]
      by_cases e : c = V.1
      · rw [e, if_pos (Int32.le_refl _)]
      · have hii : ¬ iN V.1 ≤ iN c := by rw [iN_le (by omega) (by omega)]; omega
        have i9 : inr (iN c) 9 := inr_iN (by omega) (by omega)
        have x9 : ix (iN c) = c := ix_iN (by omega)
        rw [if_neg hii]
        have hs := mstS_s (f := f) (c := c)
        rcases mstS_r (f := f) c (by omega) with h1 | ⟨d, h1, h2⟩
        · rw [h1, if_pos rfl] at hs
          rw [h1, if_pos rfl, lt_b, iN_1, ← hs]
          exact ih (c + 1) (by omega) (by omega)
        · have hd1 : ¬ iN d = -1 := iN_n1 (by omega)
          have id9 : inr (iN d) 9 := inr_iN (by omega) (by omega)
          have xd : ix (iN d) = d := ix_iN (by omega)
          rw [h2, if_neg hd1, xd] at hs
          rw [h2, if_neg hd1, hck, gd_t ha, gd_t i9, gd_t ha, gd_t id9, x9, xd, hf c (by omega), hf d (by omega)]
          by_cases e3 : f c ≤ f d
          · rw [if_pos e3] at hs
            rw [if_pos e3, lt_b, iN_1, ← hs]
            exact ih (c + 1) (by omega) (by omega)
          · rw [if_neg e3] at hs
            rw [if_neg e3, lt_b, iN_1, ← hs]
            exact ih (c + 1) (by omega) (by omega)
  unfold fX11_mostOf
  have := key 0 (Nat.zero_le _) N (by omega)
  rw [mstS] at this
  rw [show fX11_mostOf_4 N a N (-1) 0 S = fX11_mostOf_4 N a N (-1) (iN 0) S from rfl, this]
  rfl
theorem C_dry {f : Nat → Int32} {p : Nat} (hN : 30000 ≤ N) (hn : V.1 ≤ 9) (hp : CE p V.1 V.2.2.1 V.2.2.2 V.2.1 S) (hf : ∀ c, c < 9 → S.1 (sr 20 1) c = f c) : fX11_dryCups N 20 S = some (dryS f V.1, S) := by
  have key : ∀ c, c ≤ V.1 → ∀ n, V.1 < n + c → fX11_dryCups_4 N 20 n (dryS f c) (iN c) S = some (dryS f V.1, iN V.1, S) := by
    intro c hc n
    induction n generalizing c with
    | zero => intro h; omega
    | succ n ih =>
      intro h
      have q := p_ob hp.1
      rw [fX11_dryCups_4]
      rw [lt_b, hp.2.1, gd_t q.1, hp.2.2.1]
      by_cases e : c = V.1
      · rw [e, if_pos (Int32.le_refl _)]
      · have hii : ¬ iN V.1 ≤ iN c := by rw [iN_le (by omega) (by omega)]; omega
        have i9 : inr (iN c) 9 := inr_iN (by omega) (by omega)
        have x9 : ix (iN c) = c := ix_iN (by omega)
        rw [if_neg hii, gd_t is20.ob, gd_t (is20.ar (k := 1) (by omega)), gd_t i9, x9, hf c (by omega)]
        have hs := dryS_s (f := f) (c := c)
        by_cases e3 : f c = 0
        · rw [if_pos e3] at hs
          rw [if_pos e3, lt_b, lt_b, ← hs, iN_1]
          exact ih (c + 1) (by omega) (by omega)
        · rw [if_neg e3] at hs
          rw [if_neg e3, lt_b, iN_1, ← hs]
          exact ih (c + 1) (by omega) (by omega)
  unfold fX11_dryCups
  have := key 0 (Nat.zero_le _) N (by omega)
  rw [dryS] at this
  rw [show fX11_dryCups_4 N 20 N 0 0 S = fX11_dryCups_4 N 20 N 0 (iN 0) S from rfl, this]
  rfl
theorem C_nvr {f : Nat → Int32} {p : Nat} (hN : 30000 ≤ N) (hn : V.1 ≤ 9) (hp : CE p V.1 V.2.2.1 V.2.2.2 V.2.1 S) (hf : ∀ c, c < 9 → S.1 28 c = f c) : fX3_neverTipped N S = some (dryS f V.1, S) := by
  have key : ∀ c, c ≤ V.1 → ∀ n, V.1 < n + c → fX3_neverTipped_4 N n (dryS f c) (iN c) S = some (dryS f V.1, iN V.1, S) := by
    intro c hc n
    induction n generalizing c with
    | zero => intro h; omega
    | succ n ih =>
      intro h
      have q := p_ob hp.1
      rw [fX3_neverTipped_4]
      rw [lt_b, hp.2.1, gd_t q.1, hp.2.2.1]
      by_cases e : c = V.1
      · rw [e, if_pos (Int32.le_refl _)]
      · have hii : ¬ iN V.1 ≤ iN c := by rw [iN_le (by omega) (by omega)]; omega
        have i9 : inr (iN c) 9 := inr_iN (by omega) (by omega)
        have x9 : ix (iN c) = c := ix_iN (by omega)
        rw [if_neg hii, gd_t i9, x9, hf c (by omega)]
        have hs := dryS_s (f := f) (c := c)
        by_cases e3 : f c = 0
        · rw [if_pos e3] at hs
          rw [if_pos e3, lt_b, lt_b, ← hs, iN_1]
          exact ih (c + 1) (by omega) (by omega)
        · rw [if_neg e3] at hs
          rw [if_neg e3, lt_b, iN_1, ← hs]
          exact ih (c + 1) (by omega) (by omega)
  unfold fX3_neverTipped
  have := key 0 (Nat.zero_le _) N (by omega)
  rw [dryS] at this
  rw [show fX3_neverTipped_4 N N 0 0 S = fX3_neverTipped_4 N N 0 (iN 0) S from rfl, this]
  rfl
def aNever (V : Cv) (A : Rw) (h : Int32) : Int32 ⊕ String :=
  if btw h 1 200 then (.inl (dryS (smT V A (fun _ => 0) (ix h)) V.1)) else .inr nIAE
theorem C_never {h : Int32} (q : QC N V A S) : rn (fX11_never N h S) (fun r => r.1 = aNever V A h ∧ FQ S r.2) := by
  obtain ⟨p, hp⟩ := q.2.2.2.2
  have hn := q.2.2.1.1
  have hN := q.1
  unfold aNever
  by_cases h1 : btw h 1 200
  · obtain ⟨m, rfl, hml, hm⟩ := btw_nat (l := 1) (h := 200) rfl rfl (by omega) (by omega) h1
    have xm : ix (iN m) = m := ix_iN (by omega)
    simp only [fX11_never, nr_t h1, bU_l, if_pos h1, rn_bV, rn_bI, xm]
    refine rn_mono (q.look (by omega)) (fun U hU => ?_)
    obtain ⟨p', hp'⟩ := hU.1.2.2.2.2.2
    rw [C_nvr hN hn hp' hU.1.2.1, rn_some, rn_some]
    exact ⟨rfl, hU.2.2⟩
  · simp only [fX11_never, nr_f h1, bU_l, bU_r, if_neg h1, rn_some]
    first | exact ⟨trivial, FQ.rfl⟩ | exact ⟨rfl, FQ.rfl⟩
theorem M_never {h : Int32} (q : QM N V A S) : rn (fX12_never N h S) (fun r => MA k1 (aNever V A h) r.1 (r.2.1 80 0) ∧ FP S r.2) := by
  have hn := q.2.2.1.1
  have hN := q.1
  have q0 := q.fp (zFP (k := 0))
  have hF := zFP (S := S) (k := 0)
  have h80 := q0.2.2.2.2.1
  have hz := z0 (S := S)
  unfold aNever
  by_cases h1 : btw h 1 200
  · obtain ⟨m, rfl, hml, hm⟩ := btw_nat (l := 1) (h := 200) rfl rfl (by omega) (by omega) h1
    have xm : ix (iN m) = m := ix_iN (by omega)
    simp only [fX12_never, rn_lt, is_t hz h1, bI_s, if_pos h1, show ¬ ((1 : Int32) = 0) from by decide, if_false, rn_bV, rn_bT, xm]
    have h81 : u2 S.1 80 0 0 80 1 = iN V.1 := h80
    rw [h81]
    refine rn_mono q0.tries (fun U hU => ?_)
    obtain ⟨u1, uf⟩ := hU
    refine for2 (f := fun n k a s => fX12_never_32 N (iN m) n a (iN k) s) m (J := fun k a W => bt a (fun c => if c < V.1 ∧ smT V A (fun _ => 0) k c = 0 then 1 else 0) ∧ TM V A k W ∧ FH 64 (u2 S.1 80 0 0, S.2) W) ?_ ?_ N 0 _ U (Nat.zero_le _) ⟨bt_congr (bt_low hn) (fun c _ => by simp [smT]), u1, uf⟩ (by omega)
    · rintro j a W ⟨g1, g2, g3⟩
      simp only [fX12_never_32]
      rw [if_pos (Int32.le_refl _)]
      simp only [rn_some]
      exact ⟨⟨g3.t0.trans hz, bt_uniq g1 (dryS_bt (f := smT V A (fun _ => 0) m) V.1 hn) (fun _ _ => rfl)⟩, hF.tr (FP.fh g3)⟩
    · rintro j k a W hk ⟨g1, g2, g3⟩ ih
      have hii : ¬ iN m ≤ iN k := by rw [iN_le (by omega) (by omega)]; omega
      simp only [fX12_never_32, if_neg hii, rn_bV]
      refine rn_mono (q.hour g2) (fun Y hY => ?_)
      simp only [rn_lt, iN_1]
      refine ih _ Y ⟨?_, hY.1, g3.tr hY.2.2⟩
      rw [hY.2.1.2.2.1]
      refine bt_congr (bt_andn g1 (hrK_HO q.2.1 q.2.2.1 k).2.2.2) (fun c hc => ?_)
      have hz2 := smT_z q.2.1 q.2.2.1 (k := k) hc (by omega)
      by_cases e1 : c < V.1 <;> by_cases e2 : smT V A (fun _ => 0) k c = 0 <;> by_cases e3 : (hrK V A k).2.2.1 c = 0 <;> simp [e1, e2, e3, hz2]
  · simp only [fX12_never, rn_lt, is_f hz (show (1 : Int32) ≠ 0 by decide) h1, bI_s, if_neg h1, rn_some, show ¬ ((1 : Int32) = 0) from by decide, if_false, if_true]
    exact ⟨by show u2 _ 80 0 _ 80 0 = _; rw [u2_at, upd_at]; decide, hF.tr zFP⟩
def aOftenest (V : Cv) (A : Rw) (h : Int32) : Int32 ⊕ String :=
  if btw h 1 200 then (.inl (mstS (smT V A (fun _ => 0) (ix h)) V.1)) else .inr nIAE
theorem C_oftenest {h : Int32} (q : QC N V A S) : rn (fX11_oftenest N h S) (fun r => r.1 = aOftenest V A h ∧ FQ S r.2) := by
  obtain ⟨p, hp⟩ := q.2.2.2.2
  have hn := q.2.2.1.1
  have hN := q.1
  unfold aOftenest
  by_cases h1 : btw h 1 200
  · obtain ⟨m, rfl, hml, hm⟩ := btw_nat (l := 1) (h := 200) rfl rfl (by omega) (by omega) h1
    have xm : ix (iN m) = m := ix_iN (by omega)
    simp only [fX11_oftenest, nr_t h1, bU_l, if_pos h1, rn_bV, rn_bI, xm]
    refine rn_mono (q.look (by omega)) (fun U hU => ?_)
    obtain ⟨p', hp'⟩ := hU.1.2.2.2.2.2
    rw [C_most (m := 0) hN hn hp' ar28 hU.1.2.1, rn_some, rn_some]
    exact ⟨rfl, hU.2.2⟩
  · simp only [fX11_oftenest, nr_f h1, bU_l, bU_r, if_neg h1, rn_some]
    first | exact ⟨trivial, FQ.rfl⟩ | exact ⟨rfl, FQ.rfl⟩
theorem M_oftenest {h : Int32} (q : QM N V A S) : rn (fX12_oftenest N h S) (fun r => MA k1 (aOftenest V A h) r.1 (r.2.1 80 0) ∧ FP S r.2) := by
  have hn := q.2.2.1.1
  have hN := q.1
  have q0 := q.fp (zFP (k := 0))
  have hF := zFP (S := S) (k := 0)
  have h80 := q0.2.2.2.2.1
  have hz := z0 (S := S)
  unfold aOftenest
  by_cases h1 : btw h 1 200
  · obtain ⟨m, rfl, hml, hm⟩ := btw_nat (l := 1) (h := 200) rfl rfl (by omega) (by omega) h1
    have xm : ix (iN m) = m := ix_iN (by omega)
    simp only [fX12_oftenest, rn_lt, is_t hz h1, bI_s, if_pos h1, show ¬ ((1 : Int32) = 0) from by decide, if_false, rn_bV, rn_bT, rn_some, xm]
    have hW : FM (fun a => a = 98) (fun _ => False) (u2 S.1 80 0 0, S.2) (u2 S.1 80 0 0, S.2) := FM.rfl
    refine forG (f := fun n k s => fX12_oftenest_19 N (iN m) n (iN k) s) 9 (J := fun k W => (∀ c, c < k → W.1 98 c = 0) ∧ FM (fun a => a = 98) (fun _ => False) (u2 S.1 80 0 0, S.2) W) ?_ ?_ N 0 _ (Nat.zero_le _) ⟨fun c hc => by omega, hW⟩ (by omega)
    · rintro j W ⟨g1, g2⟩
      simp only [fX12_oftenest_19]
      rw [if_pos (show (9 : Int32) ≤ iN 9 from Int32.le_refl _)]
      simp only [rn_some]
      have hP : FP (u2 S.1 80 0 0, S.2) W := FP.fm g2 (fun a ha => by rw [ha]; unfold pm; omega) (fun _ h => h.elim)
      have t0 : W.1 80 0 = 0 := (g2.2.1 0 id).trans hz
      have qW := q0.fp hP
      refine rn_mono qW.tries (fun U hU => ?_)
      obtain ⟨u1, uf⟩ := hU
      have h98 : ∀ c, c < 9 → U.1 98 c = 0 := fun c hc => by rw [uf.1.1 98 (by decide) (by unfold hcM; omega)]; exact g1 c hc
      refine forG (f := fun n k s => fX12_oftenest_44 N (iN m) n (iN k) s) m (J := fun k Y => (∀ c, c < V.1 → Y.1 98 c = smT V A (fun _ => 0) k c) ∧ TM V A k Y ∧ Y.1 80 0 = 0 ∧ FP W Y) ?_ ?_ N 0 U (Nat.zero_le _) ⟨fun c hc => by rw [h98 c (by omega), smT], u1, uf.t0.trans t0, FP.fh uf⟩ (by omega)
      · rintro j2 Y ⟨y1, y2, y3, y4⟩
        simp only [fX12_oftenest_44]
        rw [if_pos (Int32.le_refl _)]
        simp only [rn_some]
        have hm8 : Y.1 80 1 = iN V.1 := y2.2.1
        have key : ∀ c, c ≤ V.1 → ∀ n, V.1 < n + c → fX12_oftenest_96 N (iN m) n (mstS (smT V A (fun _ => 0) m) c) (iN c) Y = some (mstS (smT V A (fun _ => 0) m) V.1, iN V.1, Y) := by
          intro c hc n
          induction n generalizing c with
          | zero => intro h; omega
          | succ n ih =>
            intro h
            rw [fX12_oftenest_96, hm8]
            by_cases e : c = V.1
            · rw [e, if_pos (Int32.le_refl _)]
            · have hii : ¬ iN V.1 ≤ iN c := by rw [iN_le (by omega) (by omega)]; omega
              have i9 : inr (iN c) 9 := inr_iN (by omega) (by omega)
              have x9 : ix (iN c) = c := ix_iN (by omega)
              rw [if_neg hii]
              have hs := mstS_s (f := smT V A (fun _ => 0) m) (c := c)
              rcases mstS_r (f := smT V A (fun _ => 0) m) c (by omega) with hh1 | ⟨d, hh1, hh2⟩
              · rw [hh1, if_pos rfl] at hs
                rw [hh1, if_pos rfl, lt_b, iN_1, ← hs]
                exact ih (c + 1) (by omega) (by omega)
              · have hd1 : ¬ iN d = -1 := iN_n1 (by omega)
                have id9 : inr (iN d) 9 := inr_iN (by omega) (by omega)
                have xd : ix (iN d) = d := ix_iN (by omega)
                rw [hh2, if_neg hd1, xd] at hs
                rw [hh2, if_neg hd1, gd_t i9, gd_t id9, x9, xd, y1 c (by omega), y1 d (by omega)]
                by_cases e3 : smT V A (fun _ => 0) m c ≤ smT V A (fun _ => 0) m d
                · rw [if_pos e3] at hs
                  rw [if_pos e3, lt_b, iN_1, ← hs]
                  exact ih (c + 1) (by omega) (by omega)
                · rw [if_neg e3] at hs
                  rw [if_neg e3, lt_b, iN_1, ← hs]
                  exact ih (c + 1) (by omega) (by omega)
        have k0 := key 0 (Nat.zero_le _) N (by omega)
        rw [mstS] at k0
        rw [show fX12_oftenest_96 N (iN m) N (-1) 0 Y = fX12_oftenest_96 N (iN m) N (-1) (iN 0) Y from rfl, k0, rn_some]
        exact ⟨⟨y3, rfl⟩, (hF.tr hP).tr y4⟩
      · rintro j2 k Y hk ⟨y1, y2, y3, y4⟩ ih
        have hii : ¬ iN m ≤ iN k := by rw [iN_le (by omega) (by omega)]; omega
        simp only [fX12_oftenest_44, if_neg hii, rn_bV, rn_bT, rn_lt, iN_1]
        refine rn_mono (q.hour y2) (fun Z hZ => ?_)
        have z98 : ∀ c, c < V.1 → Z.1 98 c = smT V A (fun _ => 0) k c := fun c hc => by rw [hZ.2.2.1.1 98 (by decide) (by unfold hcM; omega)]; exact y1 c hc
        refine forG (f := fun n k' s => fX12_oftenest_57 N (iN m) (iN k) n (iN k') s) V.1 (J := fun d R => (∀ c, c < V.1 → R.1 98 c = if c < d then smT V A (fun _ => 0) (k + 1) c else smT V A (fun _ => 0) k c) ∧ FM (fun a => a = 98) (fun _ => False) Z R) ?_ ?_ N 0 Z (Nat.zero_le _) ⟨fun c hc => by rw [if_neg (by omega)]; exact z98 c hc, FM.rfl⟩ (by omega)
        · rintro j3 R ⟨r1, r2⟩
          have hm8 : R.1 80 1 = iN V.1 := (r2.2.1 1 id).trans hZ.1.2.1
          simp only [fX12_oftenest_57, hm8]
          rw [if_pos (Int32.le_refl _)]
          simp only [rn_some]
          have hPR : FP Z R := FP.fm r2 (fun a ha => by rw [ha]; unfold pm; omega) (fun _ h => h.elim)
          refine ih R ⟨fun c hc => by rw [r1 c hc, if_pos hc], ⟨hZ.1.1.cg (r2.1 91 (by decide) (by decide)), ME_pm hZ.1.2 hPR.1⟩, (r2.2.1 0 id).trans (hZ.2.2.t0.trans y3), (y4.tr (FP.fh hZ.2.2)).tr hPR⟩
        · rintro j3 d R hd ⟨r1, r2⟩ ih3
          have hm8 : R.1 80 1 = iN V.1 := (r2.2.1 1 id).trans hZ.1.2.1
          have hi3 : ¬ iN V.1 ≤ iN d := by rw [iN_le (by omega) (by omega)]; omega
          have i9 : inr (iN d) 9 := inr_iN (by omega) (by omega)
          have x9 : ix (iN d) = d := ix_iN (by omega)
          have t96 : R.1 96 d = (hrK V A k).2.2.1 d := by rw [r2.1 96 (by decide) (by decide)]; exact (hZ.2.1.2.1 d hd).2
          simp only [fX12_oftenest_57, hm8, if_neg hi3, gd_t i9, rn_lt, x9, iN_1]
          refine ih3 _ ⟨fun c hc => ?_, r2.u (by decide) rfl⟩
          show u2 R.1 98 d _ 98 c = _
          rw [u2_at]
          by_cases ec : c = d
          · subst ec
            rw [upd_at, if_pos (by omega), r1 c hc, if_neg (by omega), t96, smT_s]
          · rw [upd_o ec, r1 c hc]
            have : (c < d) ↔ (c < d + 1) := by omega
            simp only [this]
    · rintro j k W hk ⟨g1, g2⟩ ih
      have hii : ¬ (9 : Int32) ≤ iN k := by
        have : (9 : Int32) = iN 9 := rfl
        rw [this, iN_le (by omega) (by omega)]; omega
      have i9 : inr (iN k) 9 := inr_iN (by omega) (by omega)
      have x9 : ix (iN k) = k := ix_iN (by omega)
      simp only [fX12_oftenest_19, if_neg hii, gd_t i9, rn_lt, x9, iN_1]
      refine ih _ ⟨fun c hc => ?_, g2.u (by decide) rfl⟩
      show u2 W.1 98 k 0 98 c = 0
      rw [u2_at]
      by_cases ec : c = k
      · subst ec; exact upd_at
      · rw [upd_o ec]; exact g1 c (by omega)
  · simp only [fX12_oftenest, rn_lt, is_f hz (show (1 : Int32) ≠ 0 by decide) h1, bI_s, if_neg h1, rn_some, show ¬ ((1 : Int32) = 0) from by decide, if_false, if_true]
    exact ⟨by show u2 _ 80 0 _ 80 0 = _; rw [u2_at, upd_at]; decide, hF.tr zFP⟩
end Q3
