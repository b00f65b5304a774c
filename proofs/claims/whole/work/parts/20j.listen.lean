/-! ===== phase 2: listen, in the model ===== -/
def FLs (S T : PS) : Prop := FM (fun a => hcM a ∨ a = 106 ∨ a = 107) hfM S T ∧ ∀ k, k < 64 → T.1 91 k = S.1 91 k
theorem FLs.rfl {S : PS} : FLs S S := ⟨FM.rfl, fun _ _ => Eq.refl _⟩
theorem FLs.tr {S T U : PS} (h : FLs S T) (h' : FLs T U) : FLs S U := ⟨h.1.tr h'.1, fun k hk => (h'.2 k hk).trans (h.2 k hk)⟩
theorem FLs.fg {S T : PS} (h : FG S T) : FLs S T := ⟨h.1.mono (fun _ ha => ha.elim Or.inl (fun e => Or.inr (Or.inl e))) (fun _ hk => hk), h.2⟩
theorem FLs.fp {S T : PS} (h : FLs S T) : FP S T :=
  ⟨⟨fun a ha => h.1.1 a (by unfold pm at ha; omega) (by unfold pm at ha; unfold hcM; omega), h.2, fun k hk => h.1.2.1 k (by unfold pf at hk; unfold hfM; omega)⟩,
   fun a ha => ⟨h.1.1 a (by omega) (by unfold hcM; omega), by rw [h.1.2.2], by rw [h.1.2.2]⟩⟩
theorem FLs.hm {m : Nat} {H : Nat → Nat → Int32} {S T : PS} (h : FLs S T) (hh : HMd m H S) : HMd m H T := by
  unfold HMd
  rw [h.1.1 105 (by decide) (by unfold hcM; omega), h.1.2.1 49 (by unfold hfM; omega)]
  exact hh
theorem FLs.u7 {S T : PS} {r : Nat → Int32} (u : UR S T 107 r) : FLs S T := ⟨FM.rfl.uq u (Or.inr (Or.inr (Eq.refl 107))) (by decide), fun k _ => by rw [u.2.1 91 (by decide)]⟩
/-- the kinds that the model has laid down -/
def KD (V : Cv) (A : Rw) (Q : Nat → Bool) (k : Nat) (S : PS) : Prop := ∀ i, i < 40 → ∀ s, s < 512 → S.1 107 (512 * i + s) = if snF V A Q i s k = true then 1 else 0
section LIM
variable {N m : Nat} {V : Cv} {A : Rw} {H : Nat → Nat → Int32} {Q : Nat → Bool} {S : PS}
theorem M_lis18 {w : Int32} (hN : 30000 ≤ N) : rn (fX12_listen_18 N w N 0 S) (fun r => KD V A Q 0 r.2 ∧ FLs S r.2) := by
  refine forG (f := fun f' j s => fX12_listen_18 N w f' (iN j) s) 20480 (J := fun j W => (∀ k, k < j → W.1 107 k = 0) ∧ FLs S W) ?_ ?_ N 0 S (by omega) ⟨fun k h => by omega, FLs.rfl⟩ (by omega)
  · rintro f' W ⟨g1, g2⟩
    simp only [fX12_listen_18]
    rw [if_pos (show (20480 : Int32) ≤ iN 20480 from Int32.le_refl _), rn_some]
    refine ⟨fun i hi s hs => ?_, g2⟩
    rw [g1 _ (by omega), snF]
    rfl
  · rintro f' j W hj ⟨g1, g2⟩ ih
    have ij : inr (iN j) 20480 := inr_iN hj (by omega)
    have xj : ix (iN j) = j := ix_iN (by omega)
    simp only [fX12_listen_18]
    rw [if_neg (by rw [show (20480 : Int32) = iN 20480 from rfl, iN_le (by omega) (by omega)]; omega), gd_t ij, xj]
    refine rn_u (fun Y u => ?_)
    rw [rn_lt, iN_1]
    refine ih Y ⟨fun k hk => ?_, g2.tr (FLs.u7 u)⟩
    rw [u.1]
    by_cases e : k = j
    · rw [e, upd_at]
    · rw [upd_o e]; exact g1 k (by omega)
theorem M_lis61 {w v2 : Int32} {v : Nat} {σ : Nat → Nat} (hN : 30000 ≤ N) (hQ : Q v = true) (hs : ∀ i, i < 40 → S.1 106 i = iN (σ i) ∧ σ i < 512 ∧ tpK V (ledS A (v / 10) (gsX v)) (i + 1) = iN (σ i)) (hK : KD V A Q v S) : rn (fX12_listen_61 N w v2 N 0 S) (fun r => KD V A Q (v + 1) r.2 ∧ FLs S r.2) := by
  refine forG (f := fun f' j s => fX12_listen_61 N w v2 f' (iN j) s) 40 (J := fun j W => (∀ i, i < j → ∀ s, s < 512 → W.1 107 (512 * i + s) = if snF V A Q i s (v + 1) = true then 1 else 0) ∧ (∀ i, j ≤ i → i < 40 → ∀ s, s < 512 → W.1 107 (512 * i + s) = if snF V A Q i s v = true then 1 else 0) ∧ W.1 106 = S.1 106 ∧ FLs S W) ?_ ?_ N 0 S (by omega) ⟨fun i hi => by omega, fun i _ hi => hK i hi, rfl, FLs.rfl⟩ (by omega)
  · rintro f' W ⟨g1, -, g2, g3⟩
    simp only [fX12_listen_61]
    rw [if_pos (show (40 : Int32) ≤ iN 40 from Int32.le_refl _), rn_some]
    exact ⟨g1, g3⟩
  · rintro f' j W hj ⟨g1, g1', g2, g3⟩ ih
    obtain ⟨e1, e2, e3⟩ := hs j hj
    have ij : inr (iN j) 40 := inr_iN hj (by omega)
    have xj : ix (iN j) = j := ix_iN (by omega)
    have ek : (512 : Int32) * iN j + iN (σ j) = iN (512 * j + σ j) := by
      rw [show (512 : Int32) = iN 512 from rfl, iN_mul, iN_add]
    have ik : inr (iN (512 * j + σ j)) 20480 := inr_iN (by omega) (by omega)
    have xk : ix (iN (512 * j + σ j)) = 512 * j + σ j := ix_iN (by omega)
    simp only [fX12_listen_61]
    rw [if_neg (by rw [show (40 : Int32) = iN 40 from rfl, iN_le (by omega) (by omega)]; omega), gd_t ij, xj, g2, e1, ek, gd_t ik, xk]
    refine rn_u (fun Y u => ?_)
    rw [rn_lt, iN_1]
    refine ih Y ⟨fun i hi s hs' => ?_, fun i hi hi2 s hs' => ?_, by rw [u.2.1 106 (by decide)]; exact g2, g3.tr (FLs.u7 u)⟩
    · rw [u.1]
      by_cases ei : i = j
      · subst ei
        by_cases es : s = σ i
        · have sn : snF V A Q i s (v + 1) = true := by rw [snF_s]; exact if_pos ⟨hQ, by rw [es]; exact e3⟩
          rw [if_pos sn, es, upd_at]
        · have sn : snF V A Q i s (v + 1) = snF V A Q i s v := by
            rw [snF_s]
            refine if_neg (fun g => es ?_)
            have g2 := g.2
            rw [e3, iN_eq (by omega) (by omega)] at g2
            exact g2.symm
          rw [sn, upd_o (by omega)]
          exact g1' i (Nat.le_refl _) hj s hs'
      · rw [upd_o (by omega)]
        exact g1 i (by omega) s hs'
    · rw [u.1, upd_o (by omega)]
      exact g1' i (by omega) hi2 s hs'
theorem M_lis117 {w v2 v3 : Int32} {i k : Nat} (hN : 30000 ≤ N) (hi : i < 40) (hK : KD V A Q k S) : fX12_listen_117 N w v2 v3 (iN i) N 0 0 S = some (iN (ulN V A Q k i), iN 512, S) := by
  have key : ∀ d j f', j + d = 512 → d < f' → fX12_listen_117 N w v2 v3 (iN i) f' (iN (sumN (fun s => if snF V A Q i s k = true then 1 else 0) j)) (iN j) S = some (iN (sumN (fun s => if snF V A Q i s k = true then 1 else 0) 512), iN 512, S) := by
    intro d
    induction d with
    | zero =>
      intro j f' hj hf
      obtain ⟨f'', rfl⟩ : ∃ f'', f' = f'' + 1 := ⟨f' - 1, by omega⟩
      have e : j = 512 := by omega
      subst e
      rw [fX12_listen_117, if_pos (show (512 : Int32) ≤ iN 512 from Int32.le_refl _)]
    | succ d ih =>
      intro j f' hj hf
      obtain ⟨f'', rfl⟩ : ∃ f'', f' = f'' + 1 := ⟨f' - 1, by omega⟩
      have ek : (512 : Int32) * iN i + iN j = iN (512 * i + j) := by
        rw [show (512 : Int32) = iN 512 from rfl, iN_mul, iN_add]
      have ik : inr (iN (512 * i + j)) 20480 := inr_iN (by omega) (by omega)
      have xk : ix (iN (512 * i + j)) = 512 * i + j := ix_iN (by omega)
      have ev : S.1 107 (512 * i + j) = iN (if snF V A Q i j k = true then 1 else 0) := by
        rw [hK i hi j (by omega)]
        split <;> rfl
      have nx := ih (j + 1) f'' (by omega) (by omega)
      rw [sumN_s] at nx
      rw [fX12_listen_117, if_neg (by rw [show (512 : Int32) = iN 512 from rfl, iN_le (by omega) (by omega)]; omega), ek, gd_t ik, xk, ev, lt_b, lt_b, iN_1, iN_add]
      exact nx
  have := key 512 0 N (by omega) (by omega)
  rw [sumN] at this
  exact this
end LIM
section LI3
variable {N : Nat} {V : Cv} {M : Mi} {S : PS}
theorem M_listen {w : Int32} (q : QM N V M.1 S) (hh : HMd M.2.2.1 M.2.2.2 S) (hv : WH V.1 M.2.2.1 M.2.2.2) : rn (fX12_listen N w S) (fun r => MA k1 (aListen V M w) r.1 (r.2.1 80 0) ∧ FP S r.2) := by
  have hF : FP S (u2 S.1 80 0 0, S.2) := zFP
  have q0 := q.fp hF
  have hz := z0 (S := S)
  have hh0 : HMd M.2.2.1 M.2.2.2 (u2 S.1 80 0 0, S.2) := by
    unfold HMd
    rw [hF.1.1 105 (by simp [pm]), hF.1.2.2 49 (by simp [pf])]
    exact hh
  unfold aListen fX12_listen
  refine rn_l (fun T eT => ?_)
  rw [← eT] at q0 hF hz hh0
  clear eT
  have hN := q0.1
  have hw := q0.2.2.1
  have hn := hw.1
  have h80 : T.1 80 1 = iN V.1 := q0.2.2.2.2.1
  by_cases h2 : btw w 0 1
  · rw [iw_t hz h2, bI_s, if_neg (by decide), if_pos h2, rn_bT]
    refine rn_mono (M_lis18 (V := V) (A := M.1) (Q := gsB V M.1 M.2.2.1 M.2.2.2) hN) (fun U hU => ?_)
    rw [rn_lt, rn_lt, rn_bT]
    have mid : rn (fX12_listen_40 N w N 0 U.2) (fun r => KD V M.1 (gsB V M.1 M.2.2.1 M.2.2.2) (10 * V.1) r.2 ∧ FLs T r.2) := by
      refine forG (f := fun f' j s => fX12_listen_40 N w f' (iN j) s) (10 * V.1) (J := fun j W => KD V M.1 (gsB V M.1 M.2.2.1 M.2.2.2) j W ∧ FLs T W) ?_ ?_ N 0 U.2 (by omega) hU (by omega)
      · rintro f' W ⟨g1, g3⟩
        have m1 : W.1 80 1 = iN V.1 := by rw [g3.1.2.1 1 (by unfold hfM; omega)]; exact h80
        have o10 : (10 : Int32) * iN V.1 = iN (10 * V.1) := iN_mul 10 V.1
        simp only [fX12_listen_40]
        rw [m1, o10, if_pos (Int32.le_refl _), rn_some]
        exact ⟨g1, g3⟩
      · rintro f' j W hj ⟨g1, g3⟩ ih
        have m1 : W.1 80 1 = iN V.1 := by rw [g3.1.2.1 1 (by unfold hfM; omega)]; exact h80
        have o10 : (10 : Int32) * iN V.1 = iN (10 * V.1) := iN_mul 10 V.1
        simp only [fX12_listen_40]
        rw [m1, o10, if_neg (by rw [iN_le (by omega) (by omega)]; omega), rn_bI]
        refine rn_mono (M_guess (q0.fp g3.fp) (g3.hm hh0) hv hj) (fun r hr => ?_)
        obtain ⟨r1, r2, r3, r4⟩ := hr
        have gk : KD V M.1 (gsB V M.1 M.2.2.1 M.2.2.2) j r.2 := by
          unfold KD
          rw [r4.1.1 107 (by decide) (by unfold hcM; omega)]
          exact g1
        have F4 := g3.tr (FLs.fg r4)
        rcases r1 with e | e
        · have ng : ¬ gsB V M.1 M.2.2.1 M.2.2.2 j = true := fun g => by have := r2.mpr g; rw [e] at this; exact n01 this
          rw [if_pos e, rn_lt, iN_1]
          refine ih r.2 ⟨fun i hi s hs => ?_, F4⟩
          have sn : snF V M.1 (gsB V M.1 M.2.2.1 M.2.2.2) i s (j + 1) = snF V M.1 (gsB V M.1 M.2.2.1 M.2.2.2) i s j := by
            rw [snF_s]
            exact if_neg (fun g => ng g.1)
          rw [sn]
          exact gk i hi s hs
        · have yg := r2.mp e
          have gp : gsP V M.1 M.2.2.1 M.2.2.2 j := of_decide_eq_true yg
          have wB : WF V.1 (ledS M.1 (j / 10) (gsX j)) := by
            refine led_WF hw (by omega) ?_
            unfold gsX
            rcases gp.1 with e | e
            · rw [if_pos e]; exact Or.inl rfl
            · rw [if_neg (by omega)]; exact Or.inr ⟨j % 10, rfl, e⟩
          rw [if_neg (show ¬ r.1 = 0 by rw [e]; decide), rn_bT]
          refine rn_mono (M_lis61 (σ := fun i => (tpK V (ledS M.1 (j / 10) (gsX j)) (i + 1)).toBitVec.toNat) hN yg (fun i hi => ?_) gk) (fun r' hr' => ?_)
          · obtain ⟨s, a, b, -⟩ := tpK_bt q0.2.1 wB i
            refine ⟨(r3 e i hi).trans (iN_self _), ?_, iN_self _⟩
            show (tpK V (ledS M.1 (j / 10) (gsX j)) (i + 1)).toBitVec.toNat < 512
            rw [b]
            show (BitVec.ofNat 32 s).toNat < 512
            rw [BitVec.toNat_ofNat, Nat.mod_eq_of_lt (by omega)]
            exact a
          · rw [rn_lt, rn_lt, rn_lt, iN_1]
            exact ih r'.2 ⟨hr'.1, F4.tr hr'.2⟩
    refine rn_mono mid (fun X hX => ?_)
    obtain ⟨x1, x2⟩ := hX
    rw [rn_lt, rn_lt]
    generalize X.2 = Z at x1 x2
    generalize hu : ulN V M.1 (gsB V M.1 M.2.2.1 M.2.2.2) (10 * V.1) = u
    have key : ∀ d j f', j + d = 40 → d < f' → fX12_listen_104 N w f' (lisF u j).1 (lisF u j).2 (iN j) Z = some ((lisF u 40).1, (lisF u 40).2, iN 40, Z) := by
      intro d
      induction d with
      | zero =>
        intro j f' hj hf
        obtain ⟨f'', rfl⟩ : ∃ f'', f' = f'' + 1 := ⟨f' - 1, by omega⟩
        have e : j = 40 := by omega
        subst e
        rw [fX12_listen_104, if_pos (show (40 : Int32) ≤ iN 40 from Int32.le_refl _)]
      | succ d ih =>
        intro j f' hj hf
        obtain ⟨f'', rfl⟩ : ∃ f'', f' = f'' + 1 := ⟨f' - 1, by omega⟩
        have nx := ih (j + 1) f'' (by omega) (by omega)
        rw [lisF_s] at nx
        rw [fX12_listen_104, if_neg (by rw [show (40 : Int32) = iN 40 from rfl, iN_le (by omega) (by omega)]; omega), M_lis117 hN (by omega) x1, hu]
        show (if (lisF u j).2 < iN (u j) then lt ((iN j + 1) : Int32) fun x49 => lt (iN j + 1 : Int32) fun x50 => fX12_listen_104 N w f'' x49 (iN (u j)) x50 Z else lt (iN j + 1 : Int32) fun x51 => fX12_listen_104 N w f'' (lisF u j).1 (lisF u j).2 x51 Z) = _
        by_cases e : iN (u j) ≤ (lisF u j).2
        · rw [if_pos e] at nx
          rw [if_neg (Int32.not_lt.mpr e), lt_b, iN_1]
          exact nx
        · rw [if_neg e] at nx
          rw [if_pos (Int32.not_le.mp e), lt_b, lt_b, iN_1]
          exact nx
    have k0 := key 40 0 N (by omega) (by omega)
    rw [lisF] at k0
    rw [show fX12_listen_104 N w N (-1) 0 0 Z = fX12_listen_104 N w N (-1) 0 (iN 0) Z from rfl, k0]
    generalize lisF u 40 = r
    rw [rn_bT, rn_some, rn_lt, rn_lt, rn_lt, rn_lt, rn_lt, rn_some]
    exact ⟨⟨(x2.1.2.1 0 (by unfold hfM; omega)).trans hz, rfl⟩, hF.tr x2.fp⟩
  · rw [iw_f hz h2, bI_s, if_pos rfl, if_neg h2, rn_some]
    exact ⟨MAx (T := T) (x := 1) (by decide), hF.tr zFP⟩
end LI3
