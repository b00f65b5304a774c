/-! ===== phase 2: rules: a loop of both readers ===== -/
section LPX
variable {N : Nat} {b : Nat → Int32} {L : Nat} {l w p : Nat}
theorem op_pr (h : (opL b L p).1 ≠ 0) : (opL b L p).2 ≤ -7 ∧ (opL b L p).2 ≠ -7 ∧ -15 ≤ (opL b L p).2 ∧ stS (mo (opL b L p).2) = iN (opL b L p).1 ∧ mo (opL b L p).2 < 14 := by
  rcases op_all (b := b) (L := L) (p := p) with g | g | g | g | g | g | g | g | g
  · rw [g] at h; exact absurd rfl h
  all_goals (rw [g]; decide)
theorem op_tk (hp : p ≤ L) (h : (opL b L p).1 ≠ 0) : p < tto b L p ∧ tto b L p ≤ L := by
  have t := tto_le (b := b) hp
  have tf := tfr_le (b := b) hp
  have nz : ¬ tkd b L p = 0 := by
    intro e
    apply h
    have nw : ∀ k, ¬ wdP b L p k := fun k q => by have := q.1; omega
    have ns : ∀ c, ¬ sgP b L p c := fun c q => by have := q.1; omega
    unfold opL
    rw [if_neg (nw 10), if_neg (nw 9), if_neg (ns 60), if_neg (ns 61), if_neg (ns 43), if_neg (ns 45), if_neg (ns 42), if_neg (ns 47)]
  have := t.2.2 nz
  exact ⟨by omega, t.2.1⟩
theorem mcL_op {c : Int32} (h : c ≤ -7) : mcL [c] = [mo c] := by
  rw [mcL, mcL, if_pos h]
  rfl
theorem NT_dn (hl : l = 1 ∨ l = 2 ∨ l = 5 ∨ l = 6) (h : NTq b L (l + 1) p) (e : (opL b L p).1 ≠ l) : NTq b L l p := by
  obtain ⟨h6, h5, h2, h1⟩ := h
  rcases hl with rfl | rfl | rfl | rfl
  · exact ⟨fun _ => h6 (by omega), fun _ => h5 (by omega), fun _ => h2 (by omega), fun _ => e⟩
  · exact ⟨fun _ => h6 (by omega), fun _ => h5 (by omega), fun _ => e, fun q => by omega⟩
  · exact ⟨fun _ => h6 (by omega), fun _ => e, fun q => by omega, fun q => by omega⟩
  · exact ⟨fun _ => e, fun q => by omega, fun q => by omega, fun q => by omega⟩
theorem hLv_s (hl : l = 1 ∨ l = 2 ∨ l = 5 ∨ l = 6) : hLv l = hLv (l + 1) + 1 := by
  rcases hl with rfl | rfl | rfl | rfl <;> decide
theorem loop_claim (hN : 30000 ≤ N) (hL : L ≤ 700) (hl : l = 1 ∨ l = 2 ∨ l = 5 ∨ l = 6) (hw : w ≤ 5) (hp : p ≤ L) (ihC : ∀ q, p < q → q ≤ L → Claim N b L (l + 1) w q) (ihL : ∀ q, p < q → q ≤ L → LoopC N b L l w q) : LoopC N b L l w p := by
  by_cases e : (opL b L p).1 = l
  · have nz : (opL b L p).1 ≠ 0 := by omega
    obtain ⟨c7, cn, c15, cs, c14⟩ := op_pr nz
    obtain ⟨t1, t2⟩ := op_tk hp nz
    obtain ⟨R1, s1, k1, m1⟩ := ihC (tto b L p) t1 t2
    have l1 : l + 1 - 1 = l := by omega
    have lw : iN l < iN (l + 1) := by rw [iN_lt (by omega) (by omega)]; omega
    -- the model comes to the operand
    have toOp : ∀ n Post X Q P fl S, L - p + 3 ≤ n → XM b L p X (Q ++ P) (w + 1) fl S → BN p X (Q ++ P) → (∀ x, x ∈ Q → x < 14 ∧ ¬ stS x < iN l) → stay (iN l) P →
        (∀ n1 fl1 T, L - tto b L p + 3 ≤ n1 → XM b L (tto b L p) (X ++ Q) (mo (opL b L p).2 :: P) (w + 1) fl1 T → BN (tto b L p) (X ++ Q) (mo (opL b L p).2 :: P) → (∀ j, j ≤ w → fl1 j = fl j) → (5 ≤ l → fl1 = fl) → FXm S T → contM N b L (l + 1) w (X ++ Q) (mo (opL b L p).2 :: P) fl1 T Post R1) → KXp N n Post S := by
      intro n Post X Q P fl S hn h hB hQ hst fin
      obtain ⟨n1, rfl⟩ : ∃ n1, n = n1 + 1 := ⟨n - 1, by omega⟩
      unfold BN at hB
      have lp := List.length_append (as := Q) (bs := P)
      refine K_op (Q := Q) hN (by omega) (by omega) nz (fun g => by omega) (by rw [e]; exact hQ) (by rw [e]; exact hst) (by omega) (by omega) h (fun T t3 t4 => ?_)
      have hB2 : BN (tto b L p) (X ++ Q) (mo (opL b L p).2 :: P) := by
        unfold BN
        rw [List.length_append, List.length_cons]
        omega
      have hst2 : stay (iN (l + 1)) (mo (opL b L p).2 :: P) := Or.inr (by rw [cs, e]; exact lw)
      have cm := fin n1 (flO (opL b L p).1 (w + 1) fl) T (by omega) t3 hB2 (fun j hj => by
        unfold flO
        split
        · rw [upd_o (by omega)]
        · split
          · rw [upd_o (by omega)]
          · rfl) (fun g => by
        unfold flO
        rw [e, if_neg (by omega), if_neg (by omega)]) t4
      rw [e]
      by_cases l2 : l ≤ 2
      · have mo1 := m1 1 N 0 n1 Post (X ++ Q) (mo (opL b L p).2 :: P) (flO (opL b L p).1 (w + 1) fl) T (by omega) (by omega) t3 hB2 hst2 (fun _ => by unfold flO; rw [e, if_pos l2, upd_at]) cm
        rw [if_pos (by omega)] at mo1
        rw [if_pos l2]
        exact OP_op mo1
      · have mo1 := m1 0 N 0 n1 Post (X ++ Q) (mo (opL b L p).2 :: P) (flO (opL b L p).1 (w + 1) fl) T (by omega) (by omega) t3 hB2 hst2 (fun g => by omega) cm
        rw [if_neg (by omega)] at mo1
        rw [if_neg l2]
        have o0 := OP_0 hN (v2 := 0) rfl t3 mo1
        rw [show N - 1 + 1 = N from by omega] at o0
        exact OP_op o0
    cases R1 with
    | inr r1 =>
      refine ⟨.inr r1, fun _ => s1, ?_, ?_⟩
      · intro o ho dd f i K S hdd hf hi h
        obtain ⟨f', rfl⟩ : ∃ f', f = f' + 1 := ⟨f - 1, by omega⟩
        refine lpC_op hN ho hl h e (by omega) ?_
        refine rn_mono (h.take hN ho) (fun S1 h1 => ?_)
        have ck := k1 o ho dd K S1 (by omega) h1.1
        rw [l1] at ck
        refine rn_mono ck (fun S2 h2 => ⟨h2.1.2.2.2.2.1, ?_⟩)
        refine rn_mono (h2.1.add ho) (fun S3 h3 => ?_)
        obtain ⟨f'', rfl⟩ : ∃ f'', f' = f'' + 1 := ⟨f' - 1, by omega⟩
        exact lpC_bad hl h3.1 ⟨h3.1, ((h1.2.tr h2.2).tr h3.2)⟩
      · intro n Post X Q P fl S hn h hB hQ hst hnt h4 cm
        refine toOp n Post X Q P fl S hn h hB hQ hst (fun n1 fl1 T _ _ _ _ _ tf => ?_)
        intro U hU hf
        exact cm U hU (tf.tr hf)
    | inl r1 =>
      obtain ⟨a1, a2, a3, a4, a5⟩ := s1
      obtain ⟨R2, s2, k2, m2⟩ := ihL r1.1 (by omega) a2
      have s2' := s2 a5
      -- both readers up to the loop behind the operand
      have cls : ∀ o, isRu o → ∀ dd f i K S, 8 - l + 7 * (5 - w) ≤ dd → L - p < f → i < p → XC b L o p K S → rn (lpC N (fRD N dd) l (iN w) f (iN i) S) (fun T => ∃ S3, FE o S S3 ∧ postC b L o (K ++ r1.2 ++ [(opL b L p).2]) S3 R2 T) := by
        intro o ho dd f i K S hdd hf hi h
        obtain ⟨f', rfl⟩ : ∃ f', f = f' + 1 := ⟨f - 1, by omega⟩
        refine lpC_op hN ho hl h e (by omega) ?_
        refine rn_mono (h.take hN ho) (fun S1 h1 => ?_)
        have ck := k1 o ho dd K S1 (by omega) h1.1
        rw [l1] at ck
        have hk := h.2.2.2.2.2.2
        refine rn_mono ck (fun S2 h2 => ⟨h2.1.2.2.2.1, ?_⟩)
        refine rn_mono (h2.1.add' ho (by rw [List.length_append]; omega)) (fun S3 h3 => ?_)
        exact rn_mono (k2 o ho dd f' (i + 1) _ S3 hdd (by omega) (by omega) h3.1) (fun T hT => ⟨S3, (h1.2.tr h2.2).tr h3.2, hT⟩)
      have mdl : ∀ n Post X Q P fl S, L - p + 3 ≤ n → XM b L p X (Q ++ P) (w + 1) fl S → BN p X (Q ++ P) → (∀ x, x ∈ Q → x < 14 ∧ ¬ stS x < iN l) → stay (iN l) P → (∀ fl2 T, (∀ j, j ≤ w → fl2 j = fl j) → (5 ≤ l → fl2 (w + 1) = fl (w + 1)) → FXm S T → contM N b L l w ((X ++ Q) ++ mcL r1.2 ++ [mo (opL b L p).2]) P fl2 T Post R2) → KXp N n Post S := by
        intro n Post X Q P fl S hn h hB hQ hst fin
        refine toOp n Post X Q P fl S hn h hB hQ hst (fun n1 fl1 T hn1 hT hBT f1 f5 tf => ?_)
        intro n' X1 Q1 fl2 T2 hn' hT2 eX hQ1 g1 g2 g3 hB2 tf2
        have ep : Q1 ++ (mo (opL b L p).2 :: P) = (Q1 ++ [mo (opL b L p).2]) ++ P := by simp
        rw [ep] at hT2 hB2
        refine m2 n' Post X1 (Q1 ++ [mo (opL b L p).2]) P fl2 T2 hn' hT2 hB2 (fun x hx => ?_) hst a5 (fun g => g3 (by omega)) ?_
        · rcases List.mem_append.mp hx with hx | hx
          · have := hQ1 x hx
            refine ⟨this.1, fun g => this.2 ?_⟩
            rw [lt_ti] at g lw ⊢
            omega
          · rw [List.mem_singleton.mp hx]
            exact ⟨c14, by rw [cs, e]; exact fun g => by rw [lt_ti] at g; omega⟩
        · have ey : X1 ++ (Q1 ++ [mo (opL b L p).2]) = (X ++ Q) ++ mcL r1.2 ++ [mo (opL b L p).2] := by
            rw [← List.append_assoc, eX]
          rw [ey]
          exact fin fl2 T2 (fun j hj => (g1 j hj).trans (f1 j hj)) (fun g => (g2 (by omega)).trans (by rw [f5 g])) (tf.tr tf2)
      cases R2 with
      | inr r2 =>
        refine ⟨.inr r2, fun _ => s2', ?_, ?_⟩
        · intro o ho dd f i K S hdd hf hi h
          exact rn_mono (cls o ho dd f i K S hdd hf hi h) (fun T ⟨S3, hS3, hT⟩ => ⟨hT.1, hS3.tr hT.2⟩)
        · intro n Post X Q P fl S hn h hB hQ hst hnt h4 cm
          refine mdl n Post X Q P fl S hn h hB hQ hst (fun fl2 T _ _ tf => ?_)
          intro U hU hf
          exact cm U hU (tf.tr hf)
      | inl r2 =>
        obtain ⟨z1, z2, z3, z4, z5⟩ := s2'
        refine ⟨.inl (r2.1, r1.2 ++ (opL b L p).2 :: r2.2), fun _ => ⟨by dsimp only; omega, z2, ?_, ?_, z5⟩, ?_, ?_⟩
        · dsimp only
          rw [List.length_append, List.length_cons]
          omega
        · have eh : Hh l w = Hh (l + 1) w + 1 := by unfold Hh; rw [hLv_s hl]; omega
          rw [eh] at z4 ⊢
          exact okL_op c7 cn c15 a4 z4
        · intro o ho dd f i K S hdd hf hi h
          refine rn_mono (cls o ho dd f i K S hdd hf hi h) (fun T ⟨S3, hS3, hT⟩ => ⟨?_, hS3.tr hT.2⟩)
          have := hT.1
          have el : K ++ r1.2 ++ [(opL b L p).2] ++ r2.2 = K ++ (r1.2 ++ (opL b L p).2 :: r2.2) := by simp
          rw [el] at this
          exact this
        · intro n Post X Q P fl S hn h hB hQ hst hnt h4 cm
          refine mdl n Post X Q P fl S hn h hB hQ hst (fun fl2 T f1 f5 tf => ?_)
          intro n' X' Q' fl' T' hn' hT' eX hQ' g1 g2 g3 hB' tf'
          refine cm n' X' Q' fl' T' hn' hT' ?_ hQ' (fun j hj => (g1 j hj).trans (f1 j hj)) (fun g => (g2 g).trans (f5 g)) g3 hB' (tf.tr tf')
          rw [eX]
          have em : mcL (r1.2 ++ (opL b L p).2 :: r2.2) = mcL r1.2 ++ ([mo (opL b L p).2] ++ mcL r2.2) := by
            rw [mcL_app, show (opL b L p).2 :: r2.2 = [(opL b L p).2] ++ r2.2 from rfl, mcL_app, mcL_op c7]
          show _ = _ ++ mcL (r1.2 ++ (opL b L p).2 :: r2.2)
          rw [em]
          simp
  · refine ⟨.inl (p, []), fun hnt => ⟨Nat.le_refl _, hp, Nat.zero_le _, okL_0, NT_dn hl hnt e⟩, ?_, ?_⟩
    · intro o ho dd f i K S hdd hf hi h
      obtain ⟨f', rfl⟩ : ∃ f', f = f' + 1 := ⟨f - 1, by omega⟩
      refine lpC_no hN hl h e ⟨?_, FE.rfl⟩
      dsimp only
      rw [List.append_nil]
      exact h
    · intro n Post X Q P fl S hn h hB hQ hst hnt h4 cm
      refine cm n X Q fl S hn h ?_ hQ (fun _ _ => rfl) (fun _ => rfl) h4 hB FXm.rfl
      show X ++ Q = (X ++ Q) ++ mcL []
      rw [mcL, List.append_nil]
end LPX
