/-! ===== phase 2: rules: the last level of both readers ===== -/
section PTY
variable {N : Nat} {b : Nat → Int32} {L : Nat} {w p : Nat}
theorem XM.p40 {X P : List Int32} {d : Nat} {fl : Nat → Int32} {S : PS} (h : XM b L p X P d fl S) : (S.1 80 13 = 2 ↔ tkd b L p = 2) ∧ (S.1 80 13 = 1 ↔ tkd b L p = 1) ∧ S.1 80 15 = iN (tto b L p - tfr b L p) ∧ (tkd b L p = 2 → S.1 80 16 = tvl b L p) := by
  have h1 := h.1
  refine ⟨?_, ?_, h1.2.2.2.2.2.2.1, h1.2.2.2.2.2.1⟩
  · rw [h1.2.2.2.2.1]; exact mkd_12 2 (Or.inr rfl)
  · rw [h1.2.2.2.2.1]; exact mkd_12 1 (Or.inl rfl)
/-- a fault of the model at an operand -/
theorem bad_op {n : Nat} {Post : PS → Prop} {S T : PS} {f pl : Int32} {z : Nat} (hN : 30000 ≤ N) (hn : 1 ≤ n) (h : XMF b L f pl z T) (hz : z ≤ 1399) (tf : FXm S T) (cm : ∀ U, XMF b L f pl 1400 U → FXm S U → Post U) : KXp N n Post T := by
  obtain ⟨n', rfl⟩ : ∃ n', n = n' + 1 := ⟨n - 1, by omega⟩
  exact KX_bad hN h hz (fun U hU hf => cm U (hU.mono (by omega)) (tf.tr hf))
theorem num_claim (hN : 30000 ≤ N) (hL : L ≤ 700) (hp : p ≤ L) (k2 : tkd b L p = 2) : Claim N b L 7 w p := by
  have t := tto_le (b := b) hp
  have tf := tfr_le (b := b) hp
  have tl := t.2.2 (by omega)
  have n40 : ¬ sgP b L p 40 := fun q => by have := q.1; omega
  have rdp : ∀ o, isRu o → ∀ dd K S, XC b L o p K S → ∀ (Q : PS → Prop), rn (fX7_readNumber N 0 9999 S) (fun r => rn (fX8_add N o r.1 r.2) Q) → rn (fRD N (dd + 1) 6 (iN w) S) Q := by
    intro o ho dd K S h Q fin
    rw [fRD, if_neg (by decide), if_neg (by decide), if_neg (by decide), if_neg (by decide), if_neg (by decide), if_neg (by decide), if_pos rfl]
    unfold fX7_readPart
    rw [h.1.2.2.2.2.1, k2, if_pos (show iN 2 = 2 from rfl), h.2.2.2.1, lt_b, rn_bI]
    refine rn_mono fin (fun r hr => ?_)
    rw [gd_t (ru_ob ho).1, rn_bV]
    exact rn_mono hr (fun T hT => by rw [rn_some]; exact hT)
  by_cases e4 : tto b L p - tfr b L p ≤ 4
  · have rv := tvl_r hp k2 e4
    have n7 : ¬ tvl b L p ≤ -7 := by rw [le_ti, show (-7 : Int32).toInt = -7 from by decide]; omega
    have n0 : ¬ tvl b L p < 0 := by rw [lt_ti, z_ti]; omega
    refine ⟨.inl (tto b L p, [tvl b L p]), ⟨by dsimp only; omega, t.2.1, ?_, ?_, ?_⟩, ?_, ?_⟩
    · dsimp only
      rw [List.length_singleton]
      omega
    · exact (okH_1 n7).mono (by unfold Hh; omega)
    · exact ⟨fun q => by omega, fun q => by omega, fun q => by omega, fun q => by omega⟩
    · intro o ho dd K S hdd h
      obtain ⟨dd', rfl⟩ : ∃ dd', dd = dd' + 1 := ⟨dd - 1, by omega⟩
      have hk := h.2.2.2.2.2.2
      refine rdp o ho dd' K S h _ ?_
      unfold fX7_readNumber
      rw [if_pos h.2.1, h.1.2.2.2.2.1, k2, if_pos (show iN 2 = 2 from rfl), lt_b, C_long h, if_pos e4, bI_s, if_pos rfl, h.1.2.2.2.2.2 k2, if_neg n0, if_pos (by rw [le_ti, show (9999 : Int32).toInt = 9999 from by decide]; exact rv.2), rn_bV]
      refine rn_mono (h.take hN ho) (fun S1 h1 => ?_)
      rw [rn_some]
      exact rn_mono (h1.1.add' ho (by omega)) (fun T hT => ⟨hT.1, h1.2.tr hT.2⟩)
    · intro v1 k v2 n Post X P fl S hk hn h hB hst hf cm
      rw [if_neg (by omega)]
      obtain ⟨k', hk'⟩ : ∃ k', k - 1 = k' + 1 := ⟨k - 2, by omega⟩
      rw [hk']
      refine AF_part h n40 ?_
      unfold BN at hB
      have hh := h.p40
      unfold fX12_part
      rw [h.good, bI_s, if_neg (by decide), if_pos (hh.1.mpr k2), hh.2.2.1, if_pos (by rw [show (4 : Int32) = iN 4 from rfl, iN_le (by omega) (by omega)]; exact e4), rn_bV]
      refine rn_mono (h.puts (by omega)) (fun U hU => ?_)
      rw [hU.1.p40.2.2.2 k2, rn_bV]
      refine rn_mono (hU.1.puts (by rw [List.length_append, List.length_singleton]; omega)) (fun V hV => ?_)
      rw [hV.1.good, bI_s, if_neg (by decide), rn_bV]
      refine rn_mono (hV.1.go hN) (fun T hT => ?_)
      rw [rn_some]
      have ex : X ++ [1] ++ [tvl b L p] = X ++ [1, tvl b L p] := by simp
      rw [ex] at hT
      refine cm n (X ++ [1, tvl b L p]) [] fl T (by dsimp only; omega) hT.1 ?_ (fun x hx => by cases hx) (fun _ _ => rfl) (fun _ => rfl) (fun g => by omega) ?_ ((hU.2.tr hV.2).tr hT.2)
      · show _ = X ++ mcL [tvl b L p]
        rw [List.append_nil, mcL, mcL, if_neg n7, if_neg n0]
        rfl
      · show BN (tto b L p) _ ([] ++ P)
        unfold BN
        rw [List.nil_append, List.length_append]
        show X.length + 2 + 2 * P.length + 2 ≤ _
        omega
  · refine ⟨.inr (2, iN (tfr b L p)), by show (2 : Int32) ≠ 0; decide, ?_, ?_⟩
    · intro o ho dd K S hdd h
      obtain ⟨dd', rfl⟩ : ∃ dd', dd = dd' + 1 := ⟨dd - 1, by omega⟩
      refine rdp o ho dd' K S h _ ?_
      unfold fX7_readNumber
      rw [if_pos h.2.1, h.1.2.2.2.2.1, k2, if_pos (show iN 2 = 2 from rfl), lt_b, C_long h, if_neg e4, bI_s, if_neg (by decide), rn_bI]
      refine rn_mono (h.fail ho (by decide)) (fun r hr => ?_)
      rw [rn_some]
      exact rn_mono (hr.2.1.add ho) (fun T hT => ⟨hT.1, hr.2.2.tr hT.2⟩)
    · intro v1 k v2 n Post X P fl S hk hn h hB hst hf cm
      rw [if_neg (by omega)]
      obtain ⟨k', hk'⟩ : ∃ k', k - 1 = k' + 1 := ⟨k - 2, by omega⟩
      rw [hk']
      refine AF_part h n40 ?_
      unfold BN at hB
      have hh := h.p40
      unfold fX12_part
      rw [h.good, bI_s, if_neg (by decide), if_pos (hh.1.mpr k2), hh.2.2.1, if_neg (by rw [show (4 : Int32) = iN 4 from rfl, iN_le (by omega) (by omega)]; exact e4), rn_bV]
      refine rn_mono (h.wrong (by decide) (by omega)) (fun U hU => ?_)
      rw [rn_bV]
      refine rn_mono (hU.1.puts (by omega)) (fun V hV => ?_)
      rw [rn_bV]
      refine rn_mono (hV.1.puts (by omega)) (fun W hW => ?_)
      rw [hW.1.bad, bI_s, if_pos rfl, rn_some]
      exact bad_op hN (by omega) hW.1 (by omega) ((hU.2.tr hV.2.2).tr hW.2.2) cm
theorem word_claim (hN : 30000 ≤ N) (hL : L ≤ 700) (hp : p ≤ L) (k1 : tkd b L p = 1) : Claim N b L 7 w p := by
  have t := tto_le (b := b) hp
  have tf := tfr_le (b := b) hp
  have tl := t.2.2 (by omega)
  have n40 : ¬ sgP b L p 40 := fun q => by have := q.1; omega
  have n2 : ¬ tkd b L p = 2 := by omega
  have rdp : ∀ o, isRu o → ∀ dd K S, XC b L o p K S → ∀ (Q : PS → Prop), rn (fX7_readValue N S) Q → rn (fRD N (dd + 1) 6 (iN w) S) Q := by
    intro o ho dd K S h Q fin
    rw [fRD, if_neg (by decide), if_neg (by decide), if_neg (by decide), if_neg (by decide), if_neg (by decide), if_neg (by decide), if_pos rfl]
    unfold fX7_readPart
    rw [h.1.2.2.2.2.1, k1, if_neg (show ¬ iN 1 = 2 by decide), if_pos (show iN 1 = 1 from rfl), rn_bV]
    exact rn_mono fin (fun T hT => by rw [rn_some]; exact hT)
  rcases vs_w (b := b) (L := L) (p := p) with ⟨v0, wn⟩ | ⟨v0, v7, ev, w0, w5⟩
  · refine ⟨.inr (3, iN (tfr b L p)), by show (3 : Int32) ≠ 0; decide, ?_, ?_⟩
    · intro o ho dd K S hdd h
      obtain ⟨dd', rfl⟩ : ∃ dd', dd = dd' + 1 := ⟨dd - 1, by omega⟩
      refine rdp o ho dd' K S h _ ?_
      unfold fX7_readValue
      rw [C_vsg hN h, bI_s, if_pos v0, rn_bI]
      exact rn_mono (h.fail ho (by decide)) (fun r hr => by rw [rn_some]; exact hr.2)
    · intro v1 k v2 n Post X P fl S hk hn h hB hst hf cm
      rw [if_neg (by omega)]
      obtain ⟨k', hk'⟩ : ∃ k', k - 1 = k' + 1 := ⟨k - 2, by omega⟩
      rw [hk']
      refine AF_part h n40 ?_
      unfold BN at hB
      have hh := h.p40
      have go : rn (bV (fX12_wrong N 3 S) fun S22 => bV (fX12_puts N 2 S22) fun S25 => bV (fX12_puts N (wI b L p) S25) fun S28 => bI (fX12_isGood N S28) fun x30 S31 => (if x30 = 0 then some S31 else bV (fX12_goes N S31) fun S35 => some S35)) (fun U => KXp N n Post U) := by
        rw [rn_bV]
        refine rn_mono (h.wrong (by decide) (by omega)) (fun U hU => ?_)
        rw [rn_bV]
        refine rn_mono (hU.1.put2 (y := wI b L p) (by omega)) (fun V hV => ?_)
        rw [rn_bV]
        refine rn_mono hV (fun W hW => ?_)
        rw [hW.1, bI_s, if_pos rfl, rn_some]
        exact bad_op hN (by omega) hW.2.1 (by omega) (hU.2.tr hW.2.2) cm
      unfold fX12_part
      rw [h.good, bI_s, if_neg (by decide), if_neg (fun q => n2 (hh.1.mp q)), if_pos (hh.2.1.mpr k1), M_known hN h.1, bI_s]
      by_cases wz : wI b L p < 0
      · rw [if_pos wz]; exact go
      · rw [if_neg wz, if_neg (fun q => wn ⟨Int32.not_lt.mp wz, q⟩)]; exact go
  · refine ⟨.inl (tto b L p, [vsG b L p]), ⟨by dsimp only; omega, t.2.1, ?_, ?_, ?_⟩, ?_, ?_⟩
    · dsimp only
      rw [List.length_singleton]
      omega
    · exact (okH_1 v7).mono (by unfold Hh; omega)
    · exact ⟨fun q => by omega, fun q => by omega, fun q => by omega, fun q => by omega⟩
    · intro o ho dd K S hdd h
      obtain ⟨dd', rfl⟩ : ∃ dd', dd = dd' + 1 := ⟨dd - 1, by omega⟩
      have hk := h.2.2.2.2.2.2
      have so := (ru_ob ho).2.2
      refine rdp o ho dd' K S h _ ?_
      unfold fX7_readValue
      have vz : ¬ vsG b L p = 0 := fun q => by rw [q] at v0; exact absurd v0 (by decide)
      rw [C_vsg hN h, bI_s, if_neg vz, h.2.2.2.1, lt_b, gd_t (ru_ob ho).1, rn_bV]
      refine rn_mono (h.add (q := tto b L p) ho (by omega) t.2.1) (fun S1 h1 => ?_)
      obtain ⟨g1, g2, g3, g4, g5, g6, g7⟩ := h1
      rw [rn_bV]
      refine rn_mono (C_takeN hN g1) (fun T hT => ?_)
      rw [rn_some]
      refine ⟨⟨hT.1, ?_, ?_, ?_, ?_, ?_, ?_⟩, g7.tr (FE.fo2 ho hT.2)⟩
      · rw [hT.2.1 1 (by decide)]; exact g2
      · rw [hT.2.1 1 (by decide)]; exact g3
      · rw [hT.2.2.2]; exact g4
      · rw [hT.2.1 o (by omega)]; exact g5
      · rw [hT.2.1 (sr o 0) (by omega)]; exact g6
      · dsimp only
        rw [List.length_append, List.length_singleton]
        omega
    · intro v1 k v2 n Post X P fl S hk hn h hB hst hf cm
      rw [if_neg (by omega)]
      obtain ⟨k', hk'⟩ : ∃ k', k - 1 = k' + 1 := ⟨k - 2, by omega⟩
      rw [hk']
      refine AF_part h n40 ?_
      unfold BN at hB
      have hh := h.p40
      unfold fX12_part
      rw [h.good, bI_s, if_neg (by decide), if_neg (fun q => n2 (hh.1.mp q)), if_pos (hh.2.1.mpr k1), M_known hN h.1, bI_s, if_neg (Int32.not_lt.mpr w0), if_pos w5, rn_bV]
      refine rn_mono (M_put2 (y := wI b L p) hN (by omega) h) (fun U hU => ?_)
      rw [rn_bV]
      refine rn_mono hU (fun V hV => ?_)
      rw [hV.1, bI_s, if_neg (by decide), rn_bV]
      refine rn_mono hV.2 (fun T hT => ?_)
      rw [rn_some]
      refine cm n (X ++ [2, wI b L p]) [] fl T (by dsimp only; omega) hT.1 ?_ (fun x hx => by cases hx) (fun _ _ => rfl) (fun _ => rfl) (fun g => by omega) ?_ hT.2
      · show _ = X ++ mcL [vsG b L p]
        rw [List.append_nil, mcL, mcL, if_neg v7, if_pos v0, ev]
        rfl
      · show BN (tto b L p) _ ([] ++ P)
        unfold BN
        rw [List.nil_append, List.length_append]
        show X.length + 2 + 2 * P.length + 2 ≤ _
        omega
/-- nothing that can stand here -/
theorem none_claim (hN : 30000 ≤ N) (hL : L ≤ 700) (hp : p ≤ L) (k1 : ¬ tkd b L p = 1) (k2 : ¬ tkd b L p = 2) (n40 : ¬ sgP b L p 40) : Claim N b L 7 w p := by
  have hk3 := tkd_lt (b := b) (L := L) (p := p)
  refine ⟨.inr (1, iN (tfr b L p)), by show (1 : Int32) ≠ 0; decide, ?_, ?_⟩
  · intro o ho dd K S hdd h
    obtain ⟨dd', rfl⟩ : ∃ dd', dd = dd' + 1 := ⟨dd - 1, by omega⟩
    show rn (fRD N (dd' + 1) 6 (iN w) S) _
    rw [fRD, if_neg (by decide), if_neg (by decide), if_neg (by decide), if_neg (by decide), if_neg (by decide), if_neg (by decide), if_pos rfl]
    unfold fX7_readPart
    rw [h.1.2.2.2.2.1, if_neg (by rw [show (2 : Int32) = iN 2 from rfl, iN_eq (by omega) (by omega)]; exact k2), if_neg (by rw [show (1 : Int32) = iN 1 from rfl, iN_eq (by omega) (by omega)]; exact k1), C_isSg h.1 (by decide), if_neg n40, bI_s, if_pos rfl, rn_bI]
    exact rn_mono (h.fail ho (by decide)) (fun r hr => by rw [rn_some]; exact hr.2)
  · intro v1 k v2 n Post X P fl S hk hn h hB hst hf cm
    rw [if_neg (by omega)]
    obtain ⟨k', hk'⟩ : ∃ k', k - 1 = k' + 1 := ⟨k - 2, by omega⟩
    rw [hk']
    refine AF_part h n40 ?_
    unfold BN at hB
    have hh := h.p40
    unfold fX12_part
    rw [h.good, bI_s, if_neg (by decide), if_neg (fun q => k2 (hh.1.mp q)), if_neg (fun q => k1 (hh.2.1.mp q)), rn_bV]
    refine rn_mono (h.wrong (by decide) (by omega)) (fun U hU => ?_)
    rw [hU.1.bad, bI_s, if_pos rfl, rn_some]
    exact bad_op hN (by omega) hU.1 (by omega) hU.2 cm
end PTY
