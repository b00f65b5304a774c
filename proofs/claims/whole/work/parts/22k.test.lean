/-! ===== phase 2: rules: tests ===== -/
section TSX
variable {N : Nat} {b : Nat → Int32} {L : Nat} {w p : Nat}
theorem C_test {o dd : Nat} {K : List Int32} {S : PS} {Q : PS → Prop} (hN : 30000 ≤ N) (ho : isRu o) (fin : rn (fRD N dd 4 (iN w) S) (fun S2 => (∃ fa pl, XF b L o fa pl S2 ∧ Q S2) ∨ (∃ q K2, XC b L o q K2 S2 ∧ (((opL b L q).1 ≠ 4 ∧ Q S2) ∨ ((opL b L q).1 = 4 ∧ rn (fX10_take N S2) (fun S3 => rn (fRD N dd 4 (iN w) S3) (fun S4 => S4.2.2 1 2 = o ∧ rn (fX8_add N o (opL b L q).2 S4) Q))))))) : rn (fRD N (dd + 1) 3 (iN w) S) Q := by
  have ob := (ru_ob ho).1
  rw [fRD, if_neg (by decide), if_neg (by decide), if_neg (by decide), if_pos rfl]
  unfold fX7_readTest
  rw [rn_bV]
  refine rn_mono fin (fun S2 h2 => ?_)
  rcases h2 with ⟨fa, pl, hF, hQ⟩ | ⟨q, K2, hX, h2⟩
  · obtain ⟨q, hq⟩ := hF.1
    have nz : ¬ S2.1 1 3 = 0 := by rw [hF.2.1]; exact hF.2.2.1
    rw [C_isSg hq (by decide), bI_s]
    by_cases s60 : sgP b L q 60
    · rw [if_pos s60, if_neg (by decide), if_neg nz, rn_some]; exact hQ
    · rw [if_neg s60, if_pos rfl, C_isSg hq (by decide), bI_s, lt_b, if_neg nz, rn_some]; exact hQ
  · rw [C_isSg hX.1 (by decide), bI_s]
    by_cases s60 : sgP b L q 60
    · have ec := op_sg.1.mpr s60
      rcases h2 with ⟨g, -⟩ | ⟨-, h3⟩
      · rw [ec] at g; exact absurd rfl g
      · rw [ec] at h3
        rw [if_pos s60, if_neg (by decide), if_pos hX.2.1, if_neg (by decide), rn_bV]
        refine rn_mono h3 (fun S3 h4 => ?_)
        rw [rn_bV]
        refine rn_mono h4 (fun S4 h5 => ?_)
        rw [h5.1, lt_b, gd_t ob, rn_bV]
        exact rn_mono h5.2 (fun S5 h6 => by rw [rn_some]; exact h6)
    · rw [if_neg s60, if_pos rfl, C_isSg hX.1 (by decide), bI_s, lt_b, if_pos hX.2.1]
      by_cases s61 : sgP b L q 61
      · have ec := op_sg.2.1.mpr s61
        rcases h2 with ⟨g, -⟩ | ⟨-, h3⟩
        · rw [ec] at g; exact absurd rfl g
        · rw [ec] at h3
          rw [if_pos s61, if_neg (show ¬ (1 : Int32) = 0 by decide), if_neg (show ¬ (-11 : Int32) = 0 by decide), rn_bV]
          refine rn_mono h3 (fun S3 h4 => ?_)
          rw [rn_bV]
          refine rn_mono h4 (fun S4 h5 => ?_)
          rw [h5.1, lt_b, gd_t ob, rn_bV]
          exact rn_mono h5.2 (fun S5 h6 => by rw [rn_some]; exact h6)
      · rw [if_neg s61, if_pos rfl, if_pos rfl, rn_some]
        rcases h2 with ⟨-, g⟩ | ⟨g, -⟩
        · exact g
        · exfalso
          rcases op_all (b := b) (L := L) (p := q) with r | r | r | r | r | r | r | r | r
          · rw [r] at g; exact absurd g (by decide)
          · rw [r] at g; exact absurd g (by decide)
          · rw [r] at g; exact absurd g (by decide)
          · exact s60 (op_sg.1.mp r)
          · exact s61 (op_sg.2.1.mp r)
          · rw [r] at g; exact absurd g (by decide)
          · rw [r] at g; exact absurd g (by decide)
          · rw [r] at g; exact absurd g (by decide)
          · rw [r] at g; exact absurd g (by decide)
theorem test_claim (hN : 30000 ≤ N) (hL : L ≤ 700) (hw : w ≤ 5) (hp : p ≤ L) (ch : ∀ q, p ≤ q → q ≤ L → Claim N b L 5 w q) : Claim N b L 4 w p := by
  obtain ⟨R1, s1, k1, m1⟩ := ch p (Nat.le_refl _) hp
  have eh : Hh 4 w = Hh 5 w + 1 := by unfold Hh; rw [show hLv 4 = hLv 5 + 1 from rfl]; omega
  have lw : (iN 4).toInt ≤ (iN 5).toInt := by decide
  have N1 : N - 1 + 1 = N := by omega
  cases R1 with
  | inr r1 =>
    refine ⟨.inr r1, s1, ?_, ?_⟩
    · intro o ho dd K S hdd h
      obtain ⟨dd', rfl⟩ : ∃ dd', dd = dd' + 1 := ⟨dd - 1, by omega⟩
      refine C_test (b := b) (L := L) (K := K) hN ho ?_
      exact rn_mono (k1 o ho dd' K S (by omega) h) (fun S2 h2 => Or.inl ⟨r1.1, r1.2, h2.1, h2⟩)
    · intro v1 k v2 n Post X P fl S hk hn h hB hst hf cm
      exact m1 v1 k v2 n Post X P fl S hk hn h hB (stay_up hst lw) (fun g => by omega) cm
  | inl r1 =>
    obtain ⟨a1, a2, a3, a4, a5⟩ := s1
    by_cases e4 : (opL b L r1.1).1 = 4
    · have nz : (opL b L r1.1).1 ≠ 0 := by omega
      obtain ⟨c7, cn, c15, cs, c14⟩ := op_pr nz
      obtain ⟨t1, t2⟩ := op_tk a2 nz
      obtain ⟨R2, s2, k2, m2⟩ := ch (tto b L r1.1) (by omega) t2
      -- the model up to the second sum
      have mdl : ∀ v1 k v2 n Post X P fl S, L - p + 3 ≤ k → L - p + 3 ≤ n → XM b L p X P (w + 1) fl S → BN p X P → stay (iN 4) P → fl (w + 1) = 0 → (∀ fl1 T, (∀ j, j ≤ w → fl1 j = fl j) → fl1 (w + 1) = 1 → FXm S T → contM N b L 5 w (X ++ mcL r1.2) (mo (opL b L r1.1).2 :: P) fl1 T Post R2) → AFp N v1 (k - 1) v2 n Post S := by
        intro v1 k v2 n Post X P fl S hk hn h hB hst hf fin
        refine m1 v1 k v2 n Post X P fl S hk hn h hB (stay_up hst lw) (fun g => by omega) ?_
        intro n' X1 Q1 fl1 T1 hn' hT1 eX hQ1 g1 g2 g3 hB1 tf1
        obtain ⟨n1, rfl⟩ : ∃ n1, n' = n1 + 1 := ⟨n' - 1, by omega⟩
        have lp := List.length_append (as := Q1) (bs := P)
        have hB1' := hB1
        unfold BN at hB1'
        refine K_op (Q := Q1) hN (by omega) (by omega) nz (fun _ => by rw [g2 (by omega)]; exact hf) (by
          rw [e4]
          intro x hx
          have := hQ1 x hx
          refine ⟨this.1, fun g => this.2 ?_⟩
          rw [lt_ti] at g ⊢
          omega) (by rw [e4]; exact hst) (by omega) (by omega) hT1 (fun T t3 t4 => ?_)
        rw [eX] at t3
        have hB2 : BN (tto b L r1.1) (X ++ mcL r1.2) (mo (opL b L r1.1).2 :: P) := by
          unfold BN
          rw [← eX, List.length_append, List.length_cons]
          omega
        have ef : flO (opL b L r1.1).1 (w + 1) fl1 = upd fl1 (w + 1) 1 := by unfold flO; rw [e4, if_neg (by omega), if_pos rfl]
        rw [ef] at t3
        have mo2 := m2 0 N 0 n1 Post (X ++ mcL r1.2) (mo (opL b L r1.1).2 :: P) (upd fl1 (w + 1) 1) T (by omega) (by omega) t3 hB2 (Or.inr (by rw [cs, e4]; decide)) (fun g => by omega) (fin (upd fl1 (w + 1) 1) T (fun j hj => by rw [upd_o (by omega)]; exact g1 j hj) upd_at (tf1.tr t4))
        rw [if_neg (by omega)] at mo2
        rw [e4, if_neg (by omega)]
        have o0 := OP_0 hN (v2 := 0) rfl t3 mo2
        rw [N1] at o0
        exact OP_op o0
      have cls : ∀ o, isRu o → ∀ dd K S, 5 + 7 * (5 - w) ≤ dd → XC b L o p K S → ∀ (Q : PS → Prop), (∀ S3 S4, FE o S S3 → postC b L o (K ++ r1.2) S3 R2 S4 → S4.2.2 1 2 = o ∧ rn (fX8_add N o (opL b L r1.1).2 S4) Q) → rn (fRD N dd 3 (iN w) S) Q := by
        intro o ho dd K S hdd h Q fin
        obtain ⟨dd', rfl⟩ : ∃ dd', dd = dd' + 1 := ⟨dd - 1, by omega⟩
        refine C_test (b := b) (L := L) (K := K) hN ho ?_
        refine rn_mono (k1 o ho dd' K S (by omega) h) (fun S2 h2 => Or.inr ⟨r1.1, K ++ r1.2, h2.1, Or.inr ⟨e4, ?_⟩⟩)
        refine rn_mono (h2.1.take hN ho) (fun S3 h3 => ?_)
        exact rn_mono (k2 o ho dd' (K ++ r1.2) S3 (by omega) h3.1) (fun S4 h4 => fin S3 S4 (h2.2.tr h3.2) h4)
      cases R2 with
      | inr r2 =>
        refine ⟨.inr r2, s2, ?_, ?_⟩
        · intro o ho dd K S hdd h
          refine cls o ho dd K S (by omega) h _ (fun S3 S4 h3 h4 => ⟨h4.1.2.2.2.2.1, ?_⟩)
          exact rn_mono (h4.1.add ho) (fun T hT => ⟨hT.1, (h3.tr h4.2).tr hT.2⟩)
        · intro v1 k v2 n Post X P fl S hk hn h hB hst hf cm
          refine mdl v1 k v2 n Post X P fl S hk hn h hB hst (hf (by omega)) (fun fl1 T _ _ tf => ?_)
          intro U hU hf
          exact cm U hU (tf.tr hf)
      | inl r2 =>
        obtain ⟨z1, z2, z3, z4, z5⟩ := s2
        refine ⟨.inl (r2.1, r1.2 ++ (r2.2 ++ [(opL b L r1.1).2])), ⟨by dsimp only; omega, z2, ?_, ?_, ?_⟩, ?_, ?_⟩
        · dsimp only
          rw [List.length_append, List.length_append, List.length_singleton]
          omega
        · rw [eh]
          exact okH_L (a4.mono (by omega)) (okL_op (D := []) c7 cn c15 z4 okL_0)
        · obtain ⟨h6, h5, -, -⟩ := z5
          exact ⟨fun _ => h6 (by omega), fun _ => h5 (by omega), fun q => by omega, fun q => by omega⟩
        · intro o ho dd K S hdd h
          have hk := h.2.2.2.2.2.2
          refine cls o ho dd K S (by omega) h _ (fun S3 S4 h3 h4 => ⟨h4.1.2.2.2.1, ?_⟩)
          refine rn_mono (h4.1.add' ho (by rw [List.length_append, List.length_append]; omega)) (fun T hT => ⟨?_, (h3.tr h4.2).tr hT.2⟩)
          have := hT.1
          rw [List.append_assoc, List.append_assoc] at this
          exact this
        · intro v1 k v2 n Post X P fl S hk hn h hB hst hf cm
          refine mdl v1 k v2 n Post X P fl S hk hn h hB hst (hf (by omega)) (fun fl1 T f1 f5 tf => ?_)
          intro n' X' Q' fl' T' hn' hT' eX hQ' g1 g2 g3 hB' tf'
          have ep : Q' ++ (mo (opL b L r1.1).2 :: P) = (Q' ++ [mo (opL b L r1.1).2]) ++ P := by simp
          rw [ep] at hT' hB'
          refine cm n' X' (Q' ++ [mo (opL b L r1.1).2]) fl' T' hn' hT' ?_ (fun x hx => ?_) (fun j hj => (g1 j hj).trans (f1 j hj)) (fun g => by omega) (fun _ _ => (g2 (by omega)).trans f5) hB' (tf.tr tf')
          · show _ = X ++ mcL (r1.2 ++ (r2.2 ++ [(opL b L r1.1).2]))
            rw [mcL_app, mcL_app, mcL_op c7, ← List.append_assoc, eX]
            simp
          · rcases List.mem_append.mp hx with hx | hx
            · have := hQ' x hx
              refine ⟨this.1, fun g => this.2 ?_⟩
              rw [lt_ti] at g ⊢
              omega
            · rw [List.mem_singleton.mp hx]
              exact ⟨c14, by rw [cs, e4]; decide⟩
    · refine ⟨.inl r1, ⟨a1, a2, a3, a4.mono (by rw [eh]; omega), ?_⟩, ?_, ?_⟩
      · obtain ⟨h6, h5, -, -⟩ := a5
        exact ⟨fun _ => h6 (by omega), fun _ => h5 (by omega), fun q => by omega, fun q => by omega⟩
      · intro o ho dd K S hdd h
        obtain ⟨dd', rfl⟩ : ∃ dd', dd = dd' + 1 := ⟨dd - 1, by omega⟩
        refine C_test (b := b) (L := L) (K := K) hN ho ?_
        exact rn_mono (k1 o ho dd' K S (by omega) h) (fun S2 h2 => Or.inr ⟨r1.1, K ++ r1.2, h2.1, Or.inl ⟨e4, h2⟩⟩)
      · intro v1 k v2 n Post X P fl S hk hn h hB hst hf cm
        refine m1 v1 k v2 n Post X P fl S hk hn h hB (stay_up hst lw) (fun g => by omega) ?_
        intro n' X' Q' fl' T' hn' hT' eX hQ' g1 g2 g3 hB' tf'
        refine cm n' X' Q' fl' T' hn' hT' eX (fun x hx => ?_) g1 (fun g => by omega) (fun _ g => absurd g e4) hB' tf'
        have := hQ' x hx
        refine ⟨this.1, fun g => this.2 ?_⟩
        rw [lt_ti] at g ⊢
        omega
end TSX
