/-! ===== phase 2: questions about the hours ahead, fourth part ===== -/
theorem for4 {β : Type} {f : Nat → Nat → Int32 → Int32 → Int32 → PS → Option β} (hi : Nat) {J : Nat → Int32 → Int32 → Int32 → PS → Prop} {Q : β → Prop} (done : ∀ n a b c s, J hi a b c s → rn (f (n + 1) hi a b c s) Q)
    (step : ∀ n k a b c s, k < hi → J k a b c s → (∀ a' b' c' s', J (k + 1) a' b' c' s' → rn (f n (k + 1) a' b' c' s') Q) → rn (f (n + 1) k a b c s) Q) : ∀ n k a b c s, k ≤ hi → J k a b c s → hi < n + k → rn (f n k a b c s) Q := fun n k a b c s =>
  forG (f := fun n k (s : Int32 × Int32 × Int32 × PS) => f n k s.1 s.2.1 s.2.2.1 s.2.2.2) hi (J := fun k s => J k s.1 s.2.1 s.2.2.1 s.2.2.2) (fun n s => done n s.1 s.2.1 s.2.2.1 s.2.2.2) (fun n k s hk h ih => step n k s.1 s.2.1 s.2.2.1 s.2.2.2 hk h (fun a' b' c' s' => ih (a', b', c', s'))) n k (a, b, c, s)
section Q4
variable {N : Nat} {V : Cv} {A : Rw} {S : PS}
def aLater (V : Cv) (A : Rw) (h w : Int32) : Int32 ⊕ String :=
  if btw w 0 2 then (if btw h 0 200 then (.inl (if w = 0 then mstS (rowK V A (ix h) 1) V.1 else if w = 1 then dryS (rowK V A (ix h) 1) V.1 else smL V A 0 (ix h))) else .inr nIAE) else .inr nNSE
theorem C_later {h w : Int32} (q : QC N V A S) : rn (fX11_later N h w S) (fun r => r.1 = aLater V A h w ∧ FQ S r.2) := by
  obtain ⟨p, hp⟩ := q.2.2.2.2
  have hn := q.2.2.1.1
  have hN := q.1
  unfold aLater
  by_cases h1 : btw w 0 2
  · by_cases h2 : btw h 0 200
    · obtain ⟨m, rfl, hml, hm⟩ := btw_nat (l := 0) (h := 200) rfl rfl (by omega) (by omega) h2
      have xm : ix (iN m) = m := ix_iN (by omega)
      simp only [fX11_later, nw_t h1, nr_t h2, bU_l, if_pos h1, if_pos h2, rn_bV, xm]
      refine rn_mono (q.look (by omega)) (fun U hU => ?_)
      obtain ⟨u1, -, u3⟩ := hU
      obtain ⟨p', hp'⟩ := u1.2.2.2.2.2
      by_cases e : w = 0
      · simp only [if_pos e, rn_lt, rn_bI, u1.2.2.2.2.1, gd_t is20.ob]
        rw [C_most (m := 0) hN hn hp' (is20.ar (k := 1) (by omega)) (u1.1.1 1 (by omega)), rn_some, rn_some]
        exact ⟨rfl, u3⟩
      · by_cases e' : w = 1
        · simp only [if_neg e, if_pos e', rn_lt, rn_bI, u1.2.2.2.2.1]
          rw [C_dry hN hn hp' (u1.1.1 1 (by omega)), rn_some, rn_some]
          exact ⟨rfl, u3⟩
        · simp only [if_neg e, if_neg e', rn_some]
          exact ⟨by rw [u1.2.2.1], u3⟩
    · simp only [fX11_later, nw_t h1, nr_f h2, bU_l, bU_r, if_pos h1, if_neg h2, rn_some]
      first | exact ⟨trivial, FQ.rfl⟩ | exact ⟨rfl, FQ.rfl⟩
  · simp only [fX11_later, nw_f h1, bU_l, bU_r, if_neg h1, rn_some]
    first | exact ⟨trivial, FQ.rfl⟩ | exact ⟨rfl, FQ.rfl⟩
theorem M_later {h w : Int32} (q : QM N V A S) : rn (fX12_later N h w S) (fun r => MA k2 (aLater V A h w) r.1 (r.2.1 80 0) ∧ FP S r.2) := by
  have hn := q.2.2.1.1
  have hN := q.1
  have q0 := q.fp (zFP (k := 0))
  have hF := zFP (S := S) (k := 0)
  have h80 := q0.2.2.2.2.1
  have hz := z0 (S := S)
  unfold aLater
  by_cases h1 : btw w 0 2
  · by_cases h2 : btw h 0 200
    · obtain ⟨m, rfl, hml, hm⟩ := btw_nat (l := 0) (h := 200) rfl rfl (by omega) (by omega) h2
      have xm : ix (iN m) = m := ix_iN (by omega)
      simp only [fX12_later, rn_lt, iw_t hz h1, is_t hz h2, bI_s, if_pos h1, if_pos h2, show ¬ ((1 : Int32) = 0) from by decide, if_false, rn_bV, rn_bT, rn_some, xm]
      refine rn_mono q0.tries (fun U hU => ?_)
      obtain ⟨u1, uf⟩ := hU
      refine for2 (f := fun n k a s => fX12_later_35 N (iN m) w n a (iN k) s) m (J := fun k a W => a = smL V A 0 k ∧ TM V A k W ∧ FH 64 (u2 S.1 80 0 0, S.2) W) ?_ ?_ N 0 0 U (Nat.zero_le _) ⟨by rw [smL], u1, uf⟩ (by omega)
      · rintro j a W ⟨g1, g2, g3⟩
        simp only [fX12_later_35]
        rw [if_pos (Int32.le_refl _)]
        simp only [rn_some]
        have hm8 : W.1 80 1 = iN V.1 := g2.2.1
        have key : ∀ c, c ≤ V.1 → ∀ n, V.1 < n + c → fX12_later_69 N (iN m) w a n (mstS (rowK V A m 1) c) (dryS (rowK V A m 1) c) (iN c) W = some (mstS (rowK V A m 1) V.1, dryS (rowK V A m 1) V.1, iN V.1, W) := by
          intro c hc n
          induction n generalizing c with
          | zero => intro h; omega
          | succ n ih =>
            intro h
            rw [fX12_later_69, hm8]
            by_cases e : c = V.1
            · rw [e, if_pos (Int32.le_refl _)]
            · have hii : ¬ iN V.1 ≤ iN c := by rw [iN_le (by omega) (by omega)]; omega
              have o74 : (74 : Int32) + iN c = iN (64 + 10 + c) := iN_add 74 c
              have i74 : inr (iN (64 + 10 + c)) 128 := inr_iN (by omega) (by omega)
              have x74 : ix (iN (64 + 10 + c)) = 64 + 10 + c := ix_iN (by omega)
              have rc := (g2.1.2 c (by omega)).2.1
              rw [if_neg hii]
              have hs := mstS_s (f := rowK V A m 1) (c := c)
              have hd : dryS (rowK V A m 1) c ||| (if rowK V A m 1 c = 0 then 1 <<< (iN c &&& 31) else 0) = dryS (rowK V A m 1) (c + 1) := by
                rw [dryS_s]
                by_cases ez : rowK V A m 1 c = 0
                · rw [if_pos ez, if_pos ez]
                · rw [if_neg ez, if_neg ez]
                  exact Int32.or_zero
              rcases mstS_r (f := rowK V A m 1) c (by omega) with hh1 | ⟨d, hh1, hh2⟩
              · rw [hh1, if_pos rfl] at hs
                rw [hh1, if_pos rfl, o74, gd_t i74, x74, rc, lt_b, lt_b, lt_b, hd, iN_1, ← hs]
                exact ih (c + 1) (by omega) (by omega)
              · have hd1 : ¬ iN d = -1 := iN_n1 (by omega)
                have xd : ix (iN d) = d := ix_iN (by omega)
                have p74 : (74 : Int32) + iN d = iN (64 + 10 + d) := iN_add 74 d
                have j74 : inr (iN (64 + 10 + d)) 128 := inr_iN (by omega) (by omega)
                have y74 : ix (iN (64 + 10 + d)) = 64 + 10 + d := ix_iN (by omega)
                have rd := (g2.1.2 d (by omega)).2.1
                rw [hh2, if_neg hd1, xd] at hs
                rw [hh2, if_neg hd1, o74, p74, gd_t i74, gd_t j74, x74, y74, rc, rd]
                by_cases e3 : rowK V A m 1 c ≤ rowK V A m 1 d
                · rw [if_pos e3] at hs
                  rw [if_pos e3, gd_t i74, lt_b, lt_b, lt_b, hd, iN_1, ← hs]
                  exact ih (c + 1) (by omega) (by omega)
                · rw [if_neg e3] at hs
                  rw [if_neg e3, gd_t i74, lt_b, lt_b, lt_b, hd, iN_1, ← hs]
                  exact ih (c + 1) (by omega) (by omega)
        have k0 := key 0 (Nat.zero_le _) N (by omega)
        rw [mstS, dryS] at k0
        rw [show fX12_later_69 N (iN m) w a N (-1) 0 0 W = fX12_later_69 N (iN m) w a N (-1) 0 (iN 0) W from rfl, k0, rn_some]
        refine ⟨⟨g3.t0.trans hz, ?_⟩, hF.tr (FP.fh g3)⟩
        rw [g1]
      · rintro j k a W hk ⟨g1, g2, g3⟩ ih
        have hii : ¬ iN m ≤ iN k := by rw [iN_le (by omega) (by omega)]; omega
        simp only [fX12_later_35, if_neg hii, rn_bV]
        refine rn_mono (q.hour g2) (fun Y hY => ?_)
        simp only [rn_lt, iN_1]
        refine ih _ Y ⟨?_, hY.1, g3.tr hY.2.2⟩
        rw [smL_s, g1, hY.2.1.2.2.2]
    · simp only [fX12_later, rn_lt, iw_t hz h1, is_f hz (show (2 : Int32) ≠ 0 by decide) h2, bI_s, if_pos h1, if_neg h2, rn_some, show ¬ ((1 : Int32) = 0) from by decide, if_false, if_true]
      exact ⟨by show u2 _ 80 0 _ 80 0 = _; rw [u2_at, upd_at]; decide, hF.tr zFP⟩
  · simp only [fX12_later, rn_lt, iw_f hz h1, bI_s, if_neg h1, rn_some, show ¬ ((1 : Int32) = 0) from by decide, if_false, if_true]
    exact ⟨by show u2 _ 80 0 _ 80 0 = _; rw [u2_at, upd_at]; decide, hF.tr zFP⟩
/-! round -/
def rndP (V : Cv) (A : Rw) (k : Nat) : Bool := decide (∀ c, c < V.1 → rowK V A k 1 c = A 1 c)
theorem C_filled {k : Nat} (hN : 30000 ≤ N) (hs : SPR V.2.1) (hw : WF V.1 A) (h20 : CU 20 (rowK V A k) S) (h18 : CU 18 A S) : fX2_filledAs N 20 18 S = some (cond (rndP V A k) 1 0, S) := by
  have hwk := rowK_WF hs hw k
  have hn := hw.1
  have eqn : ∀ c, c < 9 → (∀ d, d < V.1 → rowK V A k 1 d = A 1 d) → rowK V A k 1 c = A 1 c := by
    intro c hc h
    by_cases e : c < V.1
    · exact h c e
    · rw [((hwk.2 c hc).2.2.2.2.2.2.2 (by omega)).2.1, ((hw.2 c hc).2.2.2.2.2.2.2 (by omega)).2.1]
  have e9 : ∀ j, j < 9 → ¬ (9 : Int32) ≤ iN j := fun j hj => by
    have : (9 : Int32) = iN 9 := rfl
    rw [this, iN_le (by omega) (by omega)]; omega
  have key : ∀ c, c ≤ 9 → (∀ d, d < c → rowK V A k 1 d = A 1 d) → ∀ n, 9 < n + c → ∃ t x, fX2_filledAs_2 N 20 18 n (iN c) S = some (t, x, S) ∧ (t = 0 ↔ rndP V A k = true) := by
    intro c hc hd n
    induction n generalizing c with
    | zero => intro h; omega
    | succ n ih =>
      intro h
      rw [fX2_filledAs_2]
      by_cases e : c = 9
      · subst e
        rw [if_pos (show (9 : Int32) ≤ iN 9 from Int32.le_refl _)]
        refine ⟨0, iN 9, rfl, fun _ => ?_, fun _ => rfl⟩
        unfold rndP
        exact decide_eq_true (fun d hh => hd d (by omega))
      · have i9 : inr (iN c) 9 := inr_iN (by omega) (by omega)
        have x9 : ix (iN c) = c := ix_iN (by omega)
        rw [if_neg (e9 c (by omega)), gd_t is20.ob, gd_t (is20.ar (k := 1) (by omega)), gd_t i9, gd_t is18.ob, gd_t (is18.ar (k := 1) (by omega)), gd_t i9, x9, h20.1 1 (by omega) c (by omega), h18.1 1 (by omega) c (by omega)]
        by_cases e3 : rowK V A k 1 c = A 1 c
        · rw [if_pos e3, lt_b, iN_1]
          exact ih (c + 1) (by omega) (fun d hh => by
            by_cases ed : d = c
            · rw [ed]; exact e3
            · exact hd d (by omega)) (by omega)
        · rw [if_neg e3]
          refine ⟨1, iN c, rfl, fun hh => by omega, fun hh => ?_⟩
          unfold rndP at hh
          exact absurd (eqn c (by omega) (of_decide_eq_true hh)) e3
  obtain ⟨t, x, h1, h2⟩ := key 0 (by omega) (fun d hd => by omega) N (by omega)
  unfold fX2_filledAs
  rw [show fX2_filledAs_2 N 20 18 N 0 S = fX2_filledAs_2 N 20 18 N (iN 0) S from rfl, h1]
  show (if t = 0 then some (1, S) else some (0, S)) = _
  by_cases e : t = 0
  · rw [if_pos e, h2.mp e]; rfl
  · rw [if_neg e]
    cases hr : rndP V A k with
    | true => exact absurd (h2.mpr hr) e
    | false => rfl
def aRound (V : Cv) (A : Rw) : Int32 := rfn (fnd (rndP V A) 200 1)
theorem C_round (q : QC N V A S) : rn (fX11_round N S) (fun r => r.1 = aRound V A ∧ FQ S r.2) := by
  have hN := q.1
  unfold aRound
  simp only [fX11_round, rn_bV, rn_bT, rn_lt]
  refine rn_mono q.look0 (fun U hU => ?_)
  refine forG (f := fun n k s => fX11_round_7 N n (iN k) s) 201 (J := fun k W => TR V A (fun _ => 0) 0 (k - 1) W ∧ FQ S W ∧ 1 ≤ k ∧ fnd (rndP V A) (201 - k) k = fnd (rndP V A) 200 1) ?_ ?_ N 1 U (by omega) ⟨hU.1, hU.2, by omega, rfl⟩ (by omega)
  · rintro j W ⟨g1, g2, g3, g4⟩
    simp only [fX11_round_7]
    rw [if_pos (by rw [i200 (by omega)]; omega), rn_some]
    simp only [if_true, rn_some]
    rw [← g4]
    exact ⟨rfl, g2⟩
  · rintro j k W hk ⟨g1, g2, g3, g4⟩ ih
    have hii : ¬ 200 < iN k := by rw [i200 (by omega)]; omega
    simp only [fX11_round_7, if_neg hii, rn_bV]
    refine rn_mono (q.go g1) (fun Y hY => ?_)
    have e1 : k - 1 + 1 = k := by omega
    rw [e1] at hY
    have hq := q.fq (g2.tr hY.2)
    simp only [rn_lt, hY.1.2.2.2.2.1, gd_t is20.ob, C_filled hN q.2.1 q.2.2.1 hY.1.1 hq.2.2.2.1, bI_s]
    have e2 : 201 - k = (200 - k) + 1 := by omega
    rw [e2] at g4
    by_cases e : rndP V A k = true
    · rw [e]
      simp only [cond_true, show ¬ ((1 : Int32) = 0) from by decide, if_false, rn_some, show ¬ ((1 : Nat) = 0) from by decide]
      rw [← g4, fnd_t e]
      exact ⟨rfl, g2.tr hY.2⟩
    · have e' : rndP V A k = false := by
        cases h : rndP V A k with
        | true => exact absurd h e
        | false => rfl
      rw [e']
      simp only [cond_false, if_true, iN_1]
      refine ih Y ⟨?_, g2.tr hY.2, by omega, ?_⟩
      · rw [Nat.add_sub_cancel]; exact hY.1
      · rw [← g4, fnd_f e]
        congr 1
        omega
theorem M_round (q : QM N V A S) : rn (fX12_round N S) (fun r => r.1 = aRound V A ∧ FP S r.2) := by
  have hn := q.2.2.1.1
  have hN := q.1
  have q0 := q.fp (zFP (k := 0))
  have hF := zFP (S := S) (k := 0)
  unfold aRound
  simp only [fX12_round, rn_lt, rn_bV, rn_bT]
  refine rn_mono q0.tries (fun U hU => ?_)
  refine forG (f := fun n k s => fX12_round_11 N n (iN k) s) 201 (J := fun k W => TM V A (k - 1) W ∧ FH 64 (u2 S.1 80 0 0, S.2) W ∧ 1 ≤ k ∧ fnd (rndP V A) (201 - k) k = fnd (rndP V A) 200 1) ?_ ?_ N 1 U (by omega) ⟨hU.1, hU.2, by omega, rfl⟩ (by omega)
  · rintro j W ⟨g1, g2, g3, g4⟩
    simp only [fX12_round_11]
    rw [if_pos (by rw [i200 (by omega)]; omega), rn_some]
    simp only [if_true, rn_some]
    rw [← g4]
    exact ⟨rfl, hF.tr (FP.fh g2)⟩
  · rintro j k W hk ⟨g1, g2, g3, g4⟩ ih
    have hii : ¬ 200 < iN k := by rw [i200 (by omega)]; omega
    simp only [fX12_round_11, if_neg hii, rn_bV, rn_bT]
    refine rn_mono (q.hour g1) (fun Y hY => ?_)
    have e1 : k - 1 + 1 = k := by omega
    rw [e1] at hY
    have qY := q0.fp (FP.fh (g2.tr hY.2.2))
    have hm8 : Y.1 80 1 = iN V.1 := hY.1.2.1
    have key : ∀ c, c ≤ V.1 → ∀ v, (v = 0 ∨ v = 1) → (v = 1 ↔ ∀ d, d < c → rowK V A k 1 d = A 1 d) → ∀ n, V.1 < n + c → ∃ v', fX12_round_28 N (iN k) n v (iN c) Y = some (v', iN V.1, Y) ∧ (v' = 0 ∨ v' = 1) ∧ (v' = 1 ↔ rndP V A k = true) := by
      intro c hc v hv hd n
      induction n generalizing c v with
      | zero => intro h; omega
      | succ n ih2 =>
        intro h
        rw [fX12_round_28, hm8]
        by_cases e : c = V.1
        · subst e
          rw [if_pos (Int32.le_refl _)]
          refine ⟨v, rfl, hv, ?_⟩
          rw [hd]
          unfold rndP
          rw [decide_eq_true_iff]
        · have hi2 : ¬ iN V.1 ≤ iN c := by rw [iN_le (by omega) (by omega)]; omega
          have o74 : (74 : Int32) + iN c = iN (64 + 10 + c) := iN_add 74 c
          have i74 : inr (iN (64 + 10 + c)) 128 := inr_iN (by omega) (by omega)
          have x74 : ix (iN (64 + 10 + c)) = 64 + 10 + c := ix_iN (by omega)
          have o10 : (10 : Int32) + iN c = iN (0 + 10 + c) := iN_add 10 c
          have i10 : inr (iN (0 + 10 + c)) 128 := inr_iN (by omega) (by omega)
          have x10 : ix (iN (0 + 10 + c)) = 0 + 10 + c := ix_iN (by omega)
          rw [if_neg hi2]
          rcases hv with rfl | rfl
          · rw [if_pos rfl, lt_b, iN_1]
            refine ih2 (c + 1) (by omega) 0 (Or.inl rfl) ⟨fun hh => absurd hh (by decide), fun hh => ?_⟩ (by omega)
            exact absurd (hd.mpr (fun d hdd => hh d (by omega))) (by decide)
          · rw [if_neg (by decide), o74, gd_t i74, o10, gd_t i10, x74, x10, (hY.1.1.2 c (by omega)).2.1, (qY.2.2.2.1.2 c (by omega)).2.1, lt_b, lt_b, iN_1]
            have hall := hd.mp rfl
            by_cases e3 : rowK V A k 1 c = A 1 c
            · rw [if_pos e3]
              refine ih2 (c + 1) (by omega) 1 (Or.inr rfl) ⟨fun _ d hdd => ?_, fun _ => rfl⟩ (by omega)
              by_cases ed : d = c
              · rw [ed]; exact e3
              · exact hall d (by omega)
            · rw [if_neg e3]
              refine ih2 (c + 1) (by omega) 0 (Or.inl rfl) ⟨fun hh => absurd hh (by decide), fun hh => ?_⟩ (by omega)
              exact absurd (hh c (by omega)) e3
    obtain ⟨v', h1, h2, h3⟩ := key 0 (Nat.zero_le _) 1 (Or.inr rfl) ⟨fun _ d hd => by omega, fun _ => rfl⟩ N (by omega)
    rw [show fX12_round_28 N (iN k) N 1 0 Y = fX12_round_28 N (iN k) N 1 (iN 0) Y from rfl, h1, rn_some]
    simp only [rn_lt]
    have e2 : 201 - k = (200 - k) + 1 := by omega
    rw [e2] at g4
    by_cases e : rndP V A k = true
    · have : v' = 1 := h3.mpr e
      rw [if_neg (by rw [this]; decide), rn_some]
      simp only [show ¬ ((1 : Nat) = 0) from by decide, if_false, rn_some]
      rw [← g4, fnd_t e]
      exact ⟨rfl, hF.tr (FP.fh (g2.tr hY.2.2))⟩
    · have : v' = 0 := h2.resolve_right (fun hh => e (h3.mp hh))
      rw [if_pos this, iN_1]
      refine ih Y ⟨?_, g2.tr hY.2.2, by omega, ?_⟩
      · rw [Nat.add_sub_cancel]; exact hY.1
      · rw [← g4, fnd_f e]
        congr 1
        omega
/-! pause -/
def pauS (P : Nat → Bool) : Int32 := match fnd P 200 1 with
  | none => -1
  | some f => match fnd P (200 - f) (f + 1) with
    | none => -1
    | some g => iN g - iN f
theorem has_all {m c : Nat} (hm : m < 512) (hc : c < 9) : ((iN m &&& (1 <<< (iN c &&& 31))) = (1 <<< (iN c &&& 31))) ↔ m.testBit c = true := k_hs ⟨m, hm⟩ ⟨c, hc⟩
theorem has_m {m c : Nat} (hm : m < 512) (hc : c < 9) : fX11_has N (iN m) (iN c) S = some (cond (m.testBit c) 1 0, S) := has_bt (f := fun i => cond (m.testBit i) 1 0) ⟨m, hm, rfl, fun _ _ => rfl⟩ hc
def aPause (V : Cv) (A : Rw) (c : Int32) : Int32 ⊕ String :=
  if inr c V.1 then (.inl (pauS (allP V A (1 <<< (c &&& 31))))) else .inr nNSE
theorem C_pause {c : Int32} (q : QC N V A S) : rn (fX11_pause N c S) (fun r => r.1 = aPause V A c ∧ FQ S r.2) := by
  obtain ⟨p, hp⟩ := q.2.2.2.2
  have hn := q.2.2.1.1
  have hN := q.1
  unfold aPause
  by_cases h1 : inr c V.1
  · obtain ⟨d, hd, rfl⟩ := inr_c h1
    simp only [fX11_pause, nc_t hp hn hd, bU_l, if_pos h1, rn_bV, rn_bT, rn_lt]
    refine rn_mono q.look0 (fun U hU => ?_)
    refine for2 (f := fun n k a s => fX11_pause_14 N (iN d) n a (iN k) s) 201 (J := fun k a W => TR V A (fun _ => 0) 0 (k - 1) W ∧ FQ S W ∧ 1 ≤ k ∧ ((a = -1 ∧ fnd (allP V A (1 <<< (iN d &&& 31))) (201 - k) k = fnd (allP V A (1 <<< (iN d &&& 31))) 200 1) ∨ ∃ f, a = iN f ∧ f < k ∧ fnd (allP V A (1 <<< (iN d &&& 31))) 200 1 = some f ∧ fnd (allP V A (1 <<< (iN d &&& 31))) (201 - k) k = fnd (allP V A (1 <<< (iN d &&& 31))) (200 - f) (f + 1))) ?_ ?_ N 1 (-1) U (by omega) ⟨hU.1, hU.2, by omega, Or.inl ⟨rfl, rfl⟩⟩ (by omega)
    · rintro j a W ⟨g1, g2, g3, g4⟩
      simp only [fX11_pause_14]
      rw [if_pos (by rw [i200 (by omega)]; omega), rn_some]
      simp only [if_true, rn_some]
      refine ⟨?_, g2⟩
      unfold pauS
      rcases g4 with ⟨-, g5⟩ | ⟨f, -, -, g5, g6⟩
      · rw [← g5]; rfl
      · rw [g5]
        simp only
        rw [← g6]; rfl
    · rintro j k a W hk ⟨g1, g2, g3, g4⟩ ih
      have hii : ¬ 200 < iN k := by rw [i200 (by omega)]; omega
      simp only [fX11_pause_14, if_neg hii, rn_bV, rn_bI]
      refine rn_mono (q.go g1) (fun Y hY => ?_)
      have e1 : k - 1 + 1 = k := by omega
      rw [e1] at hY
      rw [hY.1.2.2.2.1 (by omega)]
      obtain ⟨mm, hmm, hmt⟩ := tp_m q.2.1 q.2.2.1 k
      have hd9 : d < 9 := by omega
      rw [hmt, has_m hmm hd9, rn_some]
      have e2 : 201 - k = (200 - k) + 1 := by omega
      rw [e2] at g4
      have hP : allP V A (1 <<< (iN d &&& 31)) k = true ↔ mm.testBit d = true := by
        unfold allP
        rw [decide_eq_true_iff, hmt]
        exact has_all hmm hd9
      have hTR : TR V A (fun _ => 0) 0 (k + 1 - 1) Y := by rw [Nat.add_sub_cancel]; exact hY.1
      have e3 : 201 - (k + 1) = 200 - k := by omega
      by_cases e : mm.testBit d = true
      · have hPk := hP.mpr e
        rw [e]
        simp only [cond_true, show ¬ ((1 : Int32) = 0) from by decide, if_false]
        rcases g4 with ⟨rfl, g5⟩ | ⟨f, rfl, g6, g7, g8⟩
        · rw [if_pos rfl]
          simp only [rn_lt, iN_1]
          refine ih _ Y ⟨hTR, g2.tr hY.2, by omega, Or.inr ⟨k, rfl, by omega, ?_, ?_⟩⟩
          · rw [← g5, fnd_t hPk]
          · rw [e3]
        · rw [if_neg (iN_n1 (by omega)), rn_some]
          simp only [show ¬ ((1 : Nat) = 0) from by decide, if_false, rn_some]
          refine ⟨?_, g2.tr hY.2⟩
          unfold pauS
          rw [g7]
          simp only
          rw [← g8, fnd_t hPk]
      · have hPk : ¬ allP V A (1 <<< (iN d &&& 31)) k = true := fun hh => e (hP.mp hh)
        have e' : mm.testBit d = false := by
          cases h : mm.testBit d with
          | true => exact absurd h e
          | false => rfl
        rw [e']
        simp only [cond_false, if_true, rn_lt, iN_1]
        refine ih _ Y ⟨hTR, g2.tr hY.2, by omega, ?_⟩
        rw [e3]
        rcases g4 with ⟨rfl, g5⟩ | ⟨f, rfl, g6, g7, g8⟩
        · rw [fnd_f hPk] at g5
          exact Or.inl ⟨rfl, g5⟩
        · rw [fnd_f hPk] at g8
          exact Or.inr ⟨f, rfl, by omega, g7, g8⟩
  · simp only [fX11_pause, nc_f hp hn h1, bU_l, bU_r, if_neg h1, rn_some]
    first | exact ⟨trivial, FQ.rfl⟩ | exact ⟨rfl, FQ.rfl⟩
theorem M_pause {c : Int32} (q : QM N V A S) : rn (fX12_pause N c S) (fun r => MA k1 (aPause V A c) r.1 (r.2.1 80 0) ∧ FP S r.2) := by
  have hn := q.2.2.1.1
  have hN := q.1
  have q0 := q.fp (zFP (k := 0))
  have hF := zFP (S := S) (k := 0)
  have h80 := q0.2.2.2.2.1
  have hz := z0 (S := S)
  unfold aPause
  by_cases h1 : inr c V.1
  · obtain ⟨d, hd, rfl⟩ := inr_c h1
    simp only [fX12_pause, rn_lt, ic_t hz hn h80 hd, bI_s, if_pos h1, show ¬ ((1 : Int32) = 0) from by decide, if_false, rn_bV, rn_bI]
    refine rn_mono q0.tries (fun U hU => ?_)
    refine rn_mono (M_allTip (f := 0) q (by omega) hU.1) (fun r hr => ?_)
    have g3 := hU.2.tr hr.2.1
    rw [hr.1]
    unfold pauS
    cases hf : fnd (allP V A (1 <<< (iN d &&& 31))) (200 - 0) (0 + 1) with
    | none =>
      have hf' : fnd (allP V A (1 <<< (iN d &&& 31))) 200 1 = none := hf
      rw [if_pos (show rfn none = -1 from rfl)]
      simp only [if_true, rn_lt, rn_some]
      exact ⟨⟨g3.t0.trans hz, rfl⟩, hF.tr (FP.fh g3)⟩
    | some f =>
      have hf' : fnd (allP V A (1 <<< (iN d &&& 31))) 200 1 = some f := hf
      have hfr := fnd_r hf
      rw [if_neg (show ¬ rfn (some f) = -1 from iN_n1 (by omega)), rn_bI]
      show rn (fX12_allTip N (1 <<< (iN d &&& 31)) (iN f) r.2) _
      refine rn_mono (M_allTip (f := f) q (by omega) (hr.2.2 f hf)) (fun r2 hr2 => ?_)
      have g4 := g3.tr hr2.2.1
      simp only [rn_lt, rn_some]
      refine ⟨⟨g4.t0.trans hz, ?_⟩, hF.tr (FP.fh g4)⟩
      rw [hr2.1]
      cases hg : fnd (allP V A (1 <<< (iN d &&& 31))) (200 - f) (f + 1) with
      | none => rw [if_pos (show rfn none = -1 from rfl)]
      | some g =>
        have hgr := fnd_r hg
        rw [if_neg (show ¬ rfn (some g) = -1 from iN_n1 (by omega))]
        rfl
  · simp only [fX12_pause, rn_lt, ic_f hz hn h80 h1, bI_s, if_neg h1, rn_some, show ¬ ((1 : Int32) = 0) from by decide, if_false, if_true]
    exact ⟨by show u2 _ 80 0 _ 80 0 = _; rw [u2_at, upd_at]; decide, hF.tr zFP⟩
end Q4
