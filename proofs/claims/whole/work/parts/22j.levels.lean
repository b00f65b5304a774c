/-! ===== phase 2: rules: a level of both readers ===== -/
section LVX
variable {N : Nat} {b : Nat → Int32} {L : Nat} {l w p : Nat}
theorem stay_up {u v : Int32} {P : List Int32} (h : stay u P) (huv : u.toInt ≤ v.toInt) : stay v P := by
  cases P with
  | nil => trivial
  | cons x P =>
    rcases h with h | h
    · exact Or.inl h
    · exact Or.inr (by rw [lt_ti] at h ⊢; omega)
theorem level_claim (hN : 30000 ≤ N) (hL : L ≤ 700) (hl : l = 1 ∨ l = 2 ∨ l = 5 ∨ l = 6) (hw : w ≤ 5) (hp : p ≤ L) (ch : Claim N b L (l + 1) w p) (ihL : ∀ q, p < q → q ≤ L → LoopC N b L l w q) : Claim N b L l w p := by
  obtain ⟨R1, s1, k1, m1⟩ := ch
  have l1 : l + 1 - 1 = l := by omega
  have lw : (iN l).toInt ≤ (iN (l + 1)).toInt := by rw [iN_ti (by omega), iN_ti (by omega)]; omega
  obtain ⟨N', hN'⟩ : ∃ N', N = N' + 1 := ⟨N - 1, by omega⟩
  cases R1 with
  | inr r1 =>
    refine ⟨.inr r1, s1, ?_, ?_⟩
    · intro o ho dd K S hdd h
      obtain ⟨dd', rfl⟩ : ∃ dd', dd = dd' + 1 := ⟨dd - 1, by omega⟩
      refine rd_lv hl hw ?_
      have ck := k1 o ho dd' K S (by omega) h
      rw [l1] at ck
      refine rn_mono ck (fun S2 h2 => ?_)
      have lb : rn (lpC N (fRD N dd') l (iN w) (N' + 1) (iN 0) S2) (postC b L o K S (Sum.inr r1)) := lpC_bad hl h2.1 h2
      rw [← hN'] at lb
      exact lb
    · intro v1 k v2 n Post X P fl S hk hn h hB hst hf cm
      have := m1 v1 k v2 n Post X P fl S hk hn h hB (stay_up hst lw) (fun g => hf (by omega)) cm
      by_cases g : l ≤ 3
      · rw [if_pos g]; rw [if_pos (by omega)] at this; exact this
      · rw [if_neg g]; rw [if_neg (by omega)] at this; exact this
  | inl r1 =>
    obtain ⟨a1, a2, a3, a4, a5⟩ := s1
    obtain ⟨R2, s2, k2, m2⟩ := ihL r1.1 a1 a2
    have s2' := s2 a5
    have cls : ∀ o, isRu o → ∀ dd K S, 9 - l + 7 * (5 - w) ≤ dd → XC b L o p K S → rn (fRD N dd (l - 1) (iN w) S) (fun T => ∃ S3, FE o S S3 ∧ postC b L o (K ++ r1.2) S3 R2 T) := by
      intro o ho dd K S hdd h
      obtain ⟨dd', rfl⟩ : ∃ dd', dd = dd' + 1 := ⟨dd - 1, by omega⟩
      refine rd_lv hl hw ?_
      have ck := k1 o ho dd' K S (by omega) h
      rw [l1] at ck
      refine rn_mono ck (fun S2 h2 => ?_)
      exact rn_mono (k2 o ho dd' N 0 _ S2 (by omega) (by omega) (by omega) h2.1) (fun T hT => ⟨S2, h2.2, hT⟩)
    have mdl : ∀ v1 k v2 n Post X P fl S, L - p + 3 ≤ k → L - p + 3 ≤ n → XM b L p X P (w + 1) fl S → BN p X P → stay (iN l) P → (l ≤ 4 → fl (w + 1) = 0) → (∀ fl2 T, (∀ j, j ≤ w → fl2 j = fl j) → (5 ≤ l → fl2 (w + 1) = fl (w + 1)) → FXm S T → contM N b L l w (X ++ mcL r1.2) P fl2 T Post R2) → (if l ≤ 3 then OPp N v1 k 1 n Post S else AFp N v1 (k - 1) v2 n Post S) := by
      intro v1 k v2 n Post X P fl S hk hn h hB hst hf fin
      have := m1 v1 k v2 n Post X P fl S hk hn h hB (stay_up hst lw) (fun g => hf (by omega)) (by
        intro n' X1 Q1 fl2 T2 hn' hT2 eX hQ1 g1 g2 g3 hB2 tf2
        refine m2 n' Post X1 Q1 P fl2 T2 hn' hT2 hB2 (fun x hx => ?_) hst a5 (fun g => g3 (by omega)) ?_
        · have := hQ1 x hx
          refine ⟨this.1, fun g => this.2 ?_⟩
          rw [lt_ti] at g ⊢
          omega
        · rw [eX]
          exact fin fl2 T2 g1 (fun g => g2 (by omega)) tf2)
      by_cases g : l ≤ 3
      · rw [if_pos g]; rw [if_pos (by omega)] at this; exact this
      · rw [if_neg g]; rw [if_neg (by omega)] at this; exact this
    cases R2 with
    | inr r2 =>
      refine ⟨.inr r2, s2', ?_, ?_⟩
      · intro o ho dd K S hdd h
        exact rn_mono (cls o ho dd K S hdd h) (fun T ⟨S3, hS3, hT⟩ => ⟨hT.1, hS3.tr hT.2⟩)
      · intro v1 k v2 n Post X P fl S hk hn h hB hst hf cm
        refine mdl v1 k v2 n Post X P fl S hk hn h hB hst hf (fun fl2 T _ _ tf => ?_)
        intro U hU hf
        exact cm U hU (tf.tr hf)
    | inl r2 =>
      obtain ⟨z1, z2, z3, z4, z5⟩ := s2'
      refine ⟨.inl (r2.1, r1.2 ++ r2.2), ⟨by dsimp only; omega, z2, ?_, ?_, z5⟩, ?_, ?_⟩
      · dsimp only
        rw [List.length_append]
        omega
      · have eh : Hh l w = Hh (l + 1) w + 1 := by unfold Hh; rw [hLv_s hl]; omega
        exact okH_L (a4.mono (by rw [eh]; omega)) z4
      · intro o ho dd K S hdd h
        refine rn_mono (cls o ho dd K S hdd h) (fun T ⟨S3, hS3, hT⟩ => ⟨?_, hS3.tr hT.2⟩)
        have := hT.1
        rw [List.append_assoc] at this
        exact this
      · intro v1 k v2 n Post X P fl S hk hn h hB hst hf cm
        refine mdl v1 k v2 n Post X P fl S hk hn h hB hst hf (fun fl2 T f1 f5 tf => ?_)
        intro n' X' Q' fl' T' hn' hT' eX hQ' g1 g2 g3 hB' tf'
        refine cm n' X' Q' fl' T' hn' hT' ?_ hQ' (fun j hj => (g1 j hj).trans (f1 j hj)) (fun g => (g2 g).trans (f5 g)) g3 hB' (tf.tr tf')
        rw [eX]
        show _ = X ++ mcL (r1.2 ++ r2.2)
        rw [mcL_app, List.append_assoc]
/-! nots -/
theorem C_nots {o : Nat} {rec : RecT} {wi : Int32} (hN : 30000 ≤ N) (ho : isRu o) : ∀ m j p K S f, j + m = 6 → XC b L o p K S → m < f → rn (fX7_readNot_2 N rec wi f (iN j) S) (fun q => q.1 = iN (j + (ntF b L m p).1) ∧ XC b L o (ntF b L m p).2 K q.2 ∧ FE o S q.2)
  | m, j, p, K, S, 0, _, _, hf => by omega
  | 0, j, p, K, S, f + 1, hj, h, hf => by
    have e6 : j = 6 := by omega
    subst e6
    rw [fX7_readNot_2, if_pos (show (6 : Int32) ≤ iN 6 from Int32.le_refl _), rn_some, ntF]
    exact ⟨rfl, h, FE.rfl⟩
  | m + 1, j, p, K, S, f + 1, hj, h, hf => by
    rw [fX7_readNot_2, if_neg (by rw [show (6 : Int32) = iN 6 from rfl, iN_le (by omega) (by omega)]; omega), C_isWd hN (by omega) h.1, bI_s]
    by_cases e : wdP b L p 3
    · rw [if_pos e, if_neg (by decide), lt_b, iN_1, rn_bV]
      refine rn_mono (h.take hN ho) (fun S1 h1 => ?_)
      refine rn_mono (C_nots hN ho m (j + 1) (tto b L p) K S1 f (by omega) h1.1 (by omega)) (fun q hq => ?_)
      rw [ntF_t e]
      refine ⟨?_, hq.2.1, h1.2.tr hq.2.2⟩
      rw [hq.1]
      dsimp only
      rw [show j + 1 + (ntF b L m (tto b L p)).1 = j + ((ntF b L m (tto b L p)).1 + 1) from by omega]
    · rw [if_neg e, if_pos rfl, rn_some, ntF_f e]
      exact ⟨rfl, h, FE.rfl⟩
theorem C_not59 {o : Nat} {rec : RecT} {wi : Int32} {k : Nat} (ho : isRu o) (hk : k ≤ 6) : ∀ m j K S f, j + m = k → XC b L o p K S → K.length + m ≤ p → m < f → rn (fX7_readNot_59 N rec wi (iN k) f (iN j) S) (fun q => XC b L o p (K ++ List.replicate m (-7)) q.2 ∧ FE o S q.2)
  | m, j, K, S, 0, _, _, _, hf => by omega
  | 0, j, K, S, f + 1, hj, h, hm, hf => by
    have e : j = k := by omega
    subst e
    rw [fX7_readNot_59, if_pos (Int32.le_refl _), rn_some, List.replicate_zero, List.append_nil]
    exact ⟨h, FE.rfl⟩
  | m + 1, j, K, S, f + 1, hj, h, hm, hf => by
    rw [fX7_readNot_59, if_neg (by rw [iN_le (by omega) (by omega)]; omega), h.2.2.2.1, lt_b, gd_t (ru_ob ho).1, rn_bV]
    refine rn_mono (h.add' ho (by omega)) (fun S1 h1 => ?_)
    rw [rn_lt, iN_1]
    refine rn_mono (C_not59 ho hk m (j + 1) _ S1 f (by omega) h1.1 (by rw [List.length_append, List.length_singleton]; omega) (by omega)) (fun q hq => ⟨?_, h1.2.tr hq.2⟩)
    have := hq.1
    rw [List.append_assoc] at this
    rw [List.replicate_succ]
    exact this
theorem C_not59F {o : Nat} {rec : RecT} {wi fa pl : Int32} {k : Nat} (ho : isRu o) (hk : k ≤ 6) : ∀ m j S f, j + m = k → XF b L o fa pl S → m < f → rn (fX7_readNot_59 N rec wi (iN k) f (iN j) S) (fun q => XF b L o fa pl q.2 ∧ FE o S q.2)
  | m, j, S, 0, _, _, hf => by omega
  | 0, j, S, f + 1, hj, h, hf => by
    have e : j = k := by omega
    subst e
    rw [fX7_readNot_59, if_pos (Int32.le_refl _), rn_some]
    exact ⟨h, FE.rfl⟩
  | m + 1, j, S, f + 1, hj, h, hf => by
    rw [fX7_readNot_59, if_neg (by rw [iN_le (by omega) (by omega)]; omega), h.2.2.2.2.1, lt_b, gd_t (ru_ob ho).1, rn_bV]
    refine rn_mono (h.add ho) (fun S1 h1 => ?_)
    rw [rn_lt, iN_1]
    exact rn_mono (C_not59F ho hk m (j + 1) S1 f (by omega) h1.1 (by omega)) (fun q hq => ⟨hq.1, h1.2.tr hq.2⟩)
theorem mcL_not : ∀ c, mcL (List.replicate c (-7)) = List.replicate c 3
  | 0 => by rw [List.replicate_zero, mcL, List.replicate_zero]
  | c + 1 => by rw [List.replicate_succ, mcL, mcL_not c, if_pos (by decide), List.replicate_succ]; rfl
theorem not_claim (hN : 30000 ≤ N) (hL : L ≤ 700) (hw : w ≤ 5) (hp : p ≤ L) (ch : ∀ q, p ≤ q → q ≤ L → Claim N b L 4 w q) : Claim N b L 3 w p := by
  have nt := ntF_le (b := b) (L := L) 6 p hp
  obtain ⟨N', hN'⟩ : ∃ N', N = N' + 1 := ⟨N - 1, by omega⟩
  have clN : ∀ o, isRu o → ∀ dd K S, XC b L o p K S → ∀ (Q : PS → Prop), (∀ S1, XC b L o (ntF b L 6 p).2 K S1 → FE o S S1 → rn (bI (fX10_isWord N 3 S1) fun x15 S16 => (if x15 = 0 then bV (fRD N dd 3 (iN w) S16) fun S20 => bT (fX7_readNot_59 N (fRD N dd) (iN w) (iN (ntF b L 6 p).1) N 0 S20) fun q29 => lt (q29.1 : Int32) fun _ => lt (q29.2 : PS) fun S31 => some S31 else bI (fX7_fail N 2 S16) fun _ S35 => some S35)) Q) → rn (fRD N (dd + 1) 2 (iN w) S) Q := by
    intro o ho dd K S h Q fin
    rw [fRD, if_neg (by decide), if_neg (by decide), if_pos rfl]
    unfold fX7_readNot
    rw [rn_bT]
    refine rn_mono (C_nots hN ho 6 0 p K S N (by omega) h (by omega)) (fun q hq => ?_)
    rw [rn_lt, rn_lt, hq.1, Nat.zero_add]
    exact fin q.2 hq.2.1 hq.2.2
  by_cases e : wdP b L (ntF b L 6 p).2 3
  · refine ⟨.inr (2, iN (tfr b L (ntF b L 6 p).2)), by show (2 : Int32) ≠ 0; decide, ?_, ?_⟩
    · intro o ho dd K S hdd h
      obtain ⟨dd', rfl⟩ : ∃ dd', dd = dd' + 1 := ⟨dd - 1, by omega⟩
      refine clN o ho dd' K S h _ (fun S1 h1 h2 => ?_)
      rw [C_isWd hN (by omega) h1.1, if_pos e, bI_s, if_neg (by decide), rn_bI]
      refine rn_mono (h1.fail ho (by decide)) (fun r hr => ?_)
      rw [rn_some]
      exact ⟨hr.2.1, h2.tr hr.2.2⟩
    · intro v1 k v2 n Post X P fl S hk hn h hB hst hf cm
      rw [if_pos (by omega)]
      obtain ⟨k', rfl⟩ : ∃ k', k = k' + 2 := ⟨k - 2, by omega⟩
      refine OP_1 hN hL h hB (fun T _ g _ => absurd e g) (fun _ T hT tf => ?_)
      obtain ⟨n', rfl⟩ : ∃ n', n = n' + 1 := ⟨n - 1, by omega⟩
      have nz : ¬ tkd b L (ntF b L 6 p).2 = 0 := by rw [e.1]; decide
      have t := tto_le (b := b) nt.2.2.1
      have tf2 := tfr_le (b := b) nt.2.2.1
      have := t.2.2 nz
      exact KX_bad hN hT (by omega) (fun U hU hf2 => cm U (hU.mono (by omega)) (tf.tr hf2))
  · obtain ⟨R1, s1, k1, m1⟩ := ch (ntF b L 6 p).2 (by omega) nt.2.2.1
    have clF : ∀ o, isRu o → ∀ dd K S, 6 + 7 * (5 - w) ≤ dd → XC b L o p K S → ∀ (Q : PS → Prop), (∀ S0 T, FE o S S0 → postC b L o K S0 R1 T → rn (fX7_readNot_59 N (fRD N (dd - 1)) (iN w) (iN (ntF b L 6 p).1) N 0 T) (fun q => Q q.2)) → rn (fRD N dd 2 (iN w) S) Q := by
      intro o ho dd K S hdd h Q fin
      obtain ⟨dd', rfl⟩ : ∃ dd', dd = dd' + 1 := ⟨dd - 1, by omega⟩
      refine clN o ho dd' K S h _ (fun S1 h1 h2 => ?_)
      rw [C_isWd hN (by omega) h1.1, if_neg e, bI_s, if_pos rfl, rn_bV]
      refine rn_mono (k1 o ho dd' K S1 (by omega) h1) (fun T hT => ?_)
      rw [rn_bT]
      exact rn_mono (fin S1 T h2 hT) (fun q hq => by rw [rn_lt, rn_lt, rn_some]; exact hq)
    have mdF : ∀ v1 k n Post X P fl S, L - p + 3 ≤ k → L - p + 3 ≤ n → XM b L p X P (w + 1) fl S → BN p X P → stay 3 P → fl (w + 1) = 0 → (∀ T, FXm S T → contM N b L 4 w X (List.replicate (ntF b L 6 p).1 3 ++ P) fl T Post R1) → OPp N v1 k 1 n Post S := by
      intro v1 k n Post X P fl S hk hn h hB hst hf fin
      obtain ⟨k', rfl⟩ : ∃ k', k = k' + 2 := ⟨k - 2, by omega⟩
      refine OP_1 hN hL h hB (fun T hT _ tf => ?_) (fun g => absurd g e)
      have st4 : stay (iN 4) (List.replicate (ntF b L 6 p).1 3 ++ P) := by
        generalize (ntF b L 6 p).1 = c
        cases c with
        | zero => exact stay_up (u := 3) hst (by decide)
        | succ c => exact Or.inr (by decide)
      have := m1 v1 (k' + 2) 1 n Post X (List.replicate (ntF b L 6 p).1 3 ++ P) fl T (by omega) (by omega) hT (by
        unfold BN at hB ⊢
        rw [List.length_append, List.length_replicate]
        omega) st4 (fun _ => hf) (fin T tf)
      rw [if_neg (by omega)] at this
      exact this
    cases R1 with
    | inr r1 =>
      refine ⟨.inr r1, s1, ?_, ?_⟩
      · intro o ho dd K S hdd h
        refine clF o ho dd K S (by omega) h _ (fun S0 T h0 hT => ?_)
        exact rn_mono (C_not59F ho nt.1 (ntF b L 6 p).1 0 T N (by omega) hT.1 (by omega)) (fun q hq => ⟨hq.1, (h0.tr hT.2).tr hq.2⟩)
      · intro v1 k v2 n Post X P fl S hk hn h hB hst hf cm
        rw [if_pos (by omega)]
        refine mdF v1 k n Post X P fl S hk hn h hB hst (hf (by omega)) (fun T tf => ?_)
        intro U hU hf
        exact cm U hU (tf.tr hf)
    | inl r1 =>
      obtain ⟨a1, a2, a3, a4, a5⟩ := s1
      refine ⟨.inl (r1.1, r1.2 ++ List.replicate (ntF b L 6 p).1 (-7)), ⟨by dsimp only; omega, a2, ?_, ?_, ?_⟩, ?_, ?_⟩
      · dsimp only
        rw [List.length_append, List.length_replicate]
        omega
      · have eh : Hh 3 w = Hh 4 w := rfl
        rw [eh]
        exact okH_L a4 (okL_not _)
      · obtain ⟨h6, h5, -, -⟩ := a5
        exact ⟨fun _ => h6 (by omega), fun _ => h5 (by omega), fun q => by omega, fun q => by omega⟩
      · intro o ho dd K S hdd h
        have hk := h.2.2.2.2.2.2
        refine clF o ho dd K S (by omega) h _ (fun S0 T h0 hT => ?_)
        refine rn_mono (C_not59 ho nt.1 (ntF b L 6 p).1 0 _ T N (by omega) hT.1 (by rw [List.length_append]; omega) (by omega)) (fun q hq => ⟨?_, (h0.tr hT.2).tr hq.2⟩)
        have := hq.1
        rw [List.append_assoc] at this
        exact this
      · intro v1 k v2 n Post X P fl S hk hn h hB hst hf cm
        rw [if_pos (by omega)]
        refine mdF v1 k n Post X P fl S hk hn h hB hst (hf (by omega)) (fun T tf => ?_)
        intro n' X' Q' fl' T' hn' hT' eX hQ' g1 g2 g3 hB' tf'
        have ep : Q' ++ (List.replicate (ntF b L 6 p).1 3 ++ P) = (Q' ++ List.replicate (ntF b L 6 p).1 3) ++ P := by rw [List.append_assoc]
        rw [ep] at hT' hB'
        refine cm n' X' (Q' ++ List.replicate (ntF b L 6 p).1 3) fl' T' hn' hT' ?_ (fun x hx => ?_) g1 (fun g => by omega) (fun _ => g3 (by omega)) hB' (tf.tr tf')
        · show _ = X ++ mcL (r1.2 ++ List.replicate (ntF b L 6 p).1 (-7))
          rw [mcL_app, mcL_not, ← List.append_assoc, eX, List.append_assoc]
        · rcases List.mem_append.mp hx with hx | hx
          · have := hQ' x hx
            refine ⟨this.1, fun g => this.2 ?_⟩
            rw [lt_ti, iN_ti (by omega)] at g ⊢
            omega
          · rw [(List.mem_replicate.mp hx).2]
            decide
end LVX
