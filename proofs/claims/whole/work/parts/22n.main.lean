/-! ===== phase 2: rules: brackets; all levels ===== -/
section BRX
variable {N : Nat} {b : Nat → Int32} {L : Nat} {w p : Nat}
theorem XC.sign {o : Nat} {K : List Int32} {S : PS} {c : Int32} (hN : 30000 ≤ N) (ho : isRu o) (hc : 0 ≤ c.toInt ∧ c.toInt < 128) (h : XC b L o p K S) : rn (fX7_readSign N c S) (fun T => FE o S T ∧ (sgP b L p c → XC b L o (tto b L p) K T) ∧ (¬ sgP b L p c → XF b L o 1 (iN (tfr b L p)) T)) := by
  unfold fX7_readSign
  rw [if_pos h.2.1, C_isSg h.1 hc, bI_s]
  by_cases e : sgP b L p c
  · rw [if_pos e, if_neg (by decide), rn_bV]
    exact rn_mono (h.take hN ho) (fun T hT => by rw [rn_some]; exact ⟨hT.2, fun _ => hT.1, fun g => absurd e g⟩)
  · rw [if_neg e, if_pos rfl, rn_bI]
    exact rn_mono (h.fail ho (by decide)) (fun r hr => by rw [rn_some]; exact ⟨hr.2.2, fun g => absurd g e, fun _ => hr.2.1⟩)
theorem XF.sign {o : Nat} {f pl c : Int32} {S : PS} (h : XF b L o f pl S) : fX7_readSign N c S = some S := by
  unfold fX7_readSign
  rw [if_neg (by rw [h.2.1]; exact h.2.2.1)]
theorem sg_tk {c : Int32} (hp : p ≤ L) (h : sgP b L p c) : p < tto b L p ∧ tto b L p ≤ L := by
  have t := tto_le (b := b) hp
  have tf := tfr_le (b := b) hp
  have := t.2.2 (by have := h.1; omega)
  exact ⟨by omega, t.2.1⟩
theorem br_claim (hN : 30000 ≤ N) (hL : L ≤ 700) (hw : w ≤ 5) (hp : p ≤ L) (s40 : sgP b L p 40) (ih : w < 5 → Claim N b L 1 (w + 1) (tto b L p)) : Claim N b L 7 w p := by
  obtain ⟨t1, t2⟩ := sg_tk hp s40
  have k1 : ¬ tkd b L p = 1 := by have := s40.1; omega
  have k2 : ¬ tkd b L p = 2 := by have := s40.1; omega
  have hk3 := tkd_lt (b := b) (L := L) (p := p)
  have rdp : ∀ o, isRu o → ∀ dd K S, XC b L o p K S → ∀ (Q : PS → Prop), (∀ S1, XC b L o (tto b L p) K S1 → FE o S S1 → rn (fRD N dd 0 (iN (w + 1)) S1) (fun S2 => rn (fX7_readSign N 41 S2) Q)) → rn (fRD N (dd + 1) 6 (iN w) S) Q := by
    intro o ho dd K S h Q fin
    rw [fRD, if_neg (by decide), if_neg (by decide), if_neg (by decide), if_neg (by decide), if_neg (by decide), if_neg (by decide), if_pos rfl]
    unfold fX7_readPart
    rw [h.1.2.2.2.2.1, if_neg (by rw [show (2 : Int32) = iN 2 from rfl, iN_eq (by omega) (by omega)]; exact k2), if_neg (by rw [show (1 : Int32) = iN 1 from rfl, iN_eq (by omega) (by omega)]; exact k1), C_isSg h.1 (by decide), if_pos s40, bI_s, if_neg (by decide), rn_bV]
    refine rn_mono (h.take hN ho) (fun S1 h1 => ?_)
    rw [rn_bV, iN_1]
    refine rn_mono (fin S1 h1.1 h1.2) (fun S2 h2 => ?_)
    rw [rn_bV]
    exact rn_mono h2 (fun T hT => by rw [rn_some]; exact hT)
  by_cases w5 : w < 5
  · obtain ⟨R1, s1, c1, m1⟩ := ih w5
    have mdl : ∀ v1 k v2 n Post X P fl S, L - p + 3 ≤ k → L - p + 3 ≤ n → XM b L p X P (w + 1) fl S → BN p X P → (∀ fl1 T, (∀ j, j ≤ w + 1 → fl1 j = fl j) → FXm S T → contM N b L 1 (w + 1) X (14 :: P) fl1 T Post R1) → AFp N v1 (k - 1) v2 n Post S := by
      intro v1 k v2 n Post X P fl S hk hn h hB fin
      have hB' := hB
      unfold BN at hB'
      refine AF_br hN (by omega) h s40 (by omega) (fun T hT tf => ?_)
      have := m1 v1 (k - 1) v2 n Post X (14 :: P) (upd fl (w + 1 + 1) 0) T (by omega) (by omega) hT (by unfold BN; rw [List.length_cons]; omega) (Or.inl (by decide)) (fun _ => upd_at) (fin _ T (fun j hj => by rw [upd_o (by omega)]) tf)
      rw [if_pos (by omega)] at this
      exact this
    cases R1 with
    | inr r1 =>
      refine ⟨.inr r1, s1, ?_, ?_⟩
      · intro o ho dd K S hdd h
        obtain ⟨dd', rfl⟩ : ∃ dd', dd = dd' + 1 := ⟨dd - 1, by omega⟩
        refine rdp o ho dd' K S h _ (fun S1 h1 f1 => ?_)
        refine rn_mono (c1 o ho dd' K S1 (by omega) h1) (fun S2 h2 => ?_)
        rw [h2.1.sign, rn_some]
        exact ⟨h2.1, f1.tr h2.2⟩
      · intro v1 k v2 n Post X P fl S hk hn h hB hst hf cm
        rw [if_neg (by omega)]
        refine mdl v1 k v2 n Post X P fl S hk hn h hB (fun fl1 T _ tf => ?_)
        intro U hU hf
        exact cm U hU (tf.tr hf)
    | inl r1 =>
      obtain ⟨a1, a2, a3, a4, a5⟩ := s1
      by_cases s41 : sgP b L r1.1 41
      · obtain ⟨u1, u2⟩ := sg_tk a2 s41
        refine ⟨.inl (tto b L r1.1, r1.2), ⟨by dsimp only; omega, u2, by dsimp only; omega, ?_, ?_⟩, ?_, ?_⟩
        · refine okH.mono a4 ?_
          unfold Hh
          rw [show hLv 1 = 5 from rfl, show hLv 7 = 0 from rfl]
          omega
        · exact ⟨fun q => by omega, fun q => by omega, fun q => by omega, fun q => by omega⟩
        · intro o ho dd K S hdd h
          obtain ⟨dd', rfl⟩ : ∃ dd', dd = dd' + 1 := ⟨dd - 1, by omega⟩
          refine rdp o ho dd' K S h _ (fun S1 h1 f1 => ?_)
          refine rn_mono (c1 o ho dd' K S1 (by omega) h1) (fun S2 h2 => ?_)
          exact rn_mono (h2.1.sign hN ho (by decide)) (fun T hT => ⟨hT.2.1 s41, (f1.tr h2.2).tr hT.1⟩)
        · intro v1 k v2 n Post X P fl S hk hn h hB hst hf cm
          rw [if_neg (by omega)]
          refine mdl v1 k v2 n Post X P fl S hk hn h hB (fun fl1 T f1 tf => ?_)
          intro n' X' Q' fl' T' hn' hT' eX hQ' g1 g2 g3 hB' tf'
          obtain ⟨n1, rfl⟩ : ∃ n1, n' = n1 + 1 := ⟨n' - 1, by omega⟩
          have hB2 := hB'
          unfold BN at hB2
          have ll := List.length_append (as := Q') (bs := 14 :: P)
          rw [List.length_cons] at ll
          refine K_close (Q := Q') hN (by omega) (by omega) s41 (fun x hx => ?_) (by omega) (by omega) hT' (fun U hU fU => ?_)
          · have := hQ' x hx
            refine ⟨this.1, fun g => this.2 ?_⟩
            rw [lt_ti, iN_ti (by omega)]
            rw [lt_ti, z_ti] at g
            omega
          · rw [Nat.add_sub_cancel] at hU
            refine cm n1 (X' ++ Q') [] fl' U (by dsimp only; omega) hU ?_ (fun x hx => by cases hx) (fun j hj => (g1 j (by omega)).trans (f1 j (by omega))) (fun _ => (g1 (w + 1) (Nat.le_refl _)).trans (f1 (w + 1) (Nat.le_refl _))) (fun g => by omega) ?_ ((tf.tr tf').tr fU)
            · show X' ++ Q' ++ [] = X ++ mcL r1.2
              rw [List.append_nil]
              exact eX
            · show BN (tto b L r1.1) (X' ++ Q') ([] ++ P)
              unfold BN
              rw [List.nil_append, List.length_append]
              omega
      · refine ⟨.inr (1, iN (tfr b L r1.1)), by show (1 : Int32) ≠ 0; decide, ?_, ?_⟩
        · intro o ho dd K S hdd h
          obtain ⟨dd', rfl⟩ : ∃ dd', dd = dd' + 1 := ⟨dd - 1, by omega⟩
          refine rdp o ho dd' K S h _ (fun S1 h1 f1 => ?_)
          refine rn_mono (c1 o ho dd' K S1 (by omega) h1) (fun S2 h2 => ?_)
          exact rn_mono (h2.1.sign hN ho (by decide)) (fun T hT => ⟨hT.2.2 s41, (f1.tr h2.2).tr hT.1⟩)
        · intro v1 k v2 n Post X P fl S hk hn h hB hst hf cm
          rw [if_neg (by omega)]
          refine mdl v1 k v2 n Post X P fl S hk hn h hB (fun fl1 T f1 tf => ?_)
          intro n' X' Q' fl' T' hn' hT' eX hQ' g1 g2 g3 hB' tf'
          obtain ⟨n1, rfl⟩ : ∃ n1, n' = n1 + 2 := ⟨n' - 2, by omega⟩
          have hB2 := hB'
          unfold BN at hB2
          have no : noOp b L r1.1 (w + 1 + 1) fl' := by
            obtain ⟨z6, z5, z2, z1⟩ := a5
            have y6 := z6 (by omega)
            have y5 := z5 (by omega)
            have y2 := z2 (by omega)
            have y1 := z1 (by omega)
            by_cases e4 : (opL b L r1.1).1 = 4
            · exact Or.inr ⟨e4, g3 (by omega) e4⟩
            · refine Or.inl ?_
              rcases op_all (b := b) (L := L) (p := r1.1) with r | r | r | r | r | r | r | r | r <;> rw [r] at y6 y5 y2 y1 e4 ⊢ <;> first | rfl | exact absurd rfl y6 | exact absurd rfl y5 | exact absurd rfl y2 | exact absurd rfl y1 | exact absurd rfl e4
          refine K_exit hN (by omega) (by omega) no (fun g => s41 g.1) (by omega) hT' ?_
          exact R_deep hN (by omega) (by omega) (by omega) (by omega) hT' (fun U hU fU => cm U (hU.mono (by omega)) ((tf.tr tf').tr fU))
  · have e5 : w = 5 := by omega
    subst e5
    refine ⟨.inr (dpF b L (tto b L p), iN (tfr b L (tto b L p))), dpF_0, ?_, ?_⟩
    · intro o ho dd K S hdd h
      obtain ⟨dd', rfl⟩ : ∃ dd', dd = dd' + 1 + 1 := ⟨dd - 2, by omega⟩
      refine rdp o ho (dd' + 1) K S h _ (fun S1 h1 f1 => ?_)
      rw [fRD, if_pos rfl]
      unfold fX7_readExpr
      have kl := tkd_lt (b := b) (L := L) (p := tto b L p)
      rw [if_neg (by decide), h1.1.2.2.2.2.1]
      have fin : ∀ f, f = dpF b L (tto b L p) → rn (bI (fX7_fail N f S1) fun _ S48 => some S48) (fun S2 => rn (fX7_readSign N 41 S2) (postC b L o K S (.inr (dpF b L (tto b L p), iN (tfr b L (tto b L p)))))) := by
        intro f hf
        rw [hf, rn_bI]
        refine rn_mono (h1.fail ho dpF_0) (fun r hr => ?_)
        rw [rn_some, hr.2.1.sign, rn_some]
        exact ⟨hr.2.1, f1.tr hr.2.2⟩
      by_cases e2 : tkd b L (tto b L p) = 2
      · rw [if_pos (by rw [e2]; rfl), lt_b]
        exact fin _ (by unfold dpF; rw [if_pos (Or.inl e2)]; decide)
      · rw [if_neg (by rw [show (2 : Int32) = iN 2 from rfl, iN_eq (by omega) (by omega)]; exact e2)]
        by_cases e1 : tkd b L (tto b L p) = 1
        · rw [if_pos (by rw [e1]; rfl), lt_b]
          exact fin _ (by unfold dpF; rw [if_pos (Or.inr (Or.inl e1))]; decide)
        · rw [if_neg (by rw [show (1 : Int32) = iN 1 from rfl, iN_eq (by omega) (by omega)]; exact e1), C_isSg h1.1 (by decide), bI_s, lt_b, lt_b]
          by_cases e4 : sgP b L (tto b L p) 40
          · refine fin _ ?_
            unfold dpF
            rw [if_pos e4, if_pos (Or.inr (Or.inr e4))]
            decide
          · refine fin _ ?_
            unfold dpF
            have nd : ¬ (tkd b L (tto b L p) = 2 ∨ tkd b L (tto b L p) = 1 ∨ sgP b L (tto b L p) 40) := fun q => by
              rcases q with q | q | q
              · exact e2 q
              · exact e1 q
              · exact e4 q
            rw [if_neg e4, if_neg nd]
            decide
    · intro v1 k v2 n Post X P fl S hk hn h hB hst hf cm
      rw [if_neg (by omega)]
      unfold BN at hB
      obtain ⟨k', hk'⟩ : ∃ k', k - 1 = k' + 1 := ⟨k - 2, by omega⟩
      rw [hk']
      refine AF_brF hN rfl h s40 (by omega) (fun T hT tf => ?_)
      exact bad_op hN (by omega) hT (by omega) tf cm
/-- every level, at every place -/
theorem all_claims (hN : 30000 ≤ N) (hL : L ≤ 700) : ∀ m p, p ≤ L → L - p < m → ∀ w, w ≤ 5 → (∀ l, 1 ≤ l → l ≤ 7 → Claim N b L l w p) ∧ ∀ l, (l = 1 ∨ l = 2 ∨ l = 5 ∨ l = 6) → LoopC N b L l w p
  | 0, p, hp, hm, w, hw => by omega
  | m + 1, p, hp, hm, w, hw => by
    have ih : ∀ q, p < q → q ≤ L → ∀ w, w ≤ 5 → (∀ l, 1 ≤ l → l ≤ 7 → Claim N b L l w q) ∧ ∀ l, (l = 1 ∨ l = 2 ∨ l = 5 ∨ l = 6) → LoopC N b L l w q := fun q h1 h2 => all_claims hN hL m q h2 (by omega)
    have lp : ∀ l, (l = 1 ∨ l = 2 ∨ l = 5 ∨ l = 6) → LoopC N b L l w p := fun l hl => loop_claim hN hL hl hw hp (fun q h1 h2 => (ih q h1 h2 w hw).1 (l + 1) (by omega) (by omega)) (fun q h1 h2 => (ih q h1 h2 w hw).2 l hl)
    have c7 : Claim N b L 7 w p := by
      by_cases k2 : tkd b L p = 2
      · exact num_claim hN hL hp k2
      · by_cases k1 : tkd b L p = 1
        · exact word_claim hN hL hp k1
        · by_cases s40 : sgP b L p 40
          · obtain ⟨t1, t2⟩ := sg_tk hp s40
            exact br_claim hN hL hw hp s40 (fun w5 => (ih (tto b L p) t1 t2 (w + 1) (by omega)).1 1 (by omega) (by omega))
          · exact none_claim hN hL hp k1 k2 s40
    have up : ∀ l, (l = 1 ∨ l = 2 ∨ l = 5 ∨ l = 6) → Claim N b L (l + 1) w p → Claim N b L l w p := fun l hl c => level_claim hN hL hl hw hp c (fun q h1 h2 => (ih q h1 h2 w hw).2 l hl)
    have c6 := up 6 (by omega) c7
    have c5 := up 5 (by omega) c6
    have at4 : ∀ q, p ≤ q → q ≤ L → Claim N b L 5 w q := fun q h1 h2 => by
      by_cases e : q = p
      · rw [e]; exact c5
      · exact (ih q (by omega) h2 w hw).1 5 (by omega) (by omega)
    have c4 := test_claim hN hL hw hp at4
    have at3 : ∀ q, p ≤ q → q ≤ L → Claim N b L 4 w q := fun q h1 h2 => by
      by_cases e : q = p
      · rw [e]; exact c4
      · exact (ih q (by omega) h2 w hw).1 4 (by omega) (by omega)
    have c3 := not_claim hN hL hw hp at3
    have c2 := up 2 (by omega) c3
    have c1 := up 1 (by omega) c2
    refine ⟨fun l h1 h2 => ?_, lp⟩
    have : l = 1 ∨ l = 2 ∨ l = 3 ∨ l = 4 ∨ l = 5 ∨ l = 6 ∨ l = 7 := by omega
    rcases this with rfl | rfl | rfl | rfl | rfl | rfl | rfl
    · exact c1
    · exact c2
    · exact c3
    · exact c4
    · exact c5
    · exact c6
    · exact c7
end BRX
