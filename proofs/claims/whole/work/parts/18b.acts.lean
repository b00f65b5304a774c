/-! ===== phase 2: acts kept and taken back, on both sides ===== -/
def undM (M : Mi) : Mi := (M.2.1.2 (M.2.1.1 - 1), (M.2.1.1 - 1, M.2.1.2), M.2.2)
theorem undM_WM {n : Nat} {M : Mi} (h : WM n M) (h0 : 0 < M.2.1.1) : WM n (undM M) := by
  obtain ⟨h1, ⟨h2, h3⟩, h4⟩ := h
  refine ⟨h3 _ (by omega), ⟨by show M.2.1.1 - 1 ≤ 40; omega, fun j hj => ?_⟩, h4⟩
  have hj' : j < M.2.1.1 - 1 := hj
  exact h3 j (by omega)
section KP
variable {N n : Nat} {M : Mi} {S : PS}
theorem heard_cg {T : PS} (hm : CMi 18 8 34 10 36 37 M S) (e10 : T.1 10 = S.1 10) (e36 : T.1 36 = S.1 36) (e37 : T.1 37 = S.1 37) : (T.1 10 3 = iN M.2.2.1 ∧ (∃ f, bt (T.1 10 2) f ∧ ∀ i, i < M.2.2.1 → f i = M.2.2.2 i 2) ∧ ∀ i, i < M.2.2.1 → T.1 36 i = M.2.2.2 i 0 ∧ T.1 37 i = M.2.2.2 i 1) := by
  rw [e10, e36, e37]
  exact hm.2.2
theorem C_keep (hK : M.2.1.1 ≤ 40) (hm : CMi 18 8 34 10 36 37 M S) : rn (fX0_keep N 8 18 S) (fun U => CMi 18 8 34 10 36 37 (kpM M) U ∧ FC (fun a => a = 8 ∨ a = 34) S U) := by
  have hm' := hm
  obtain ⟨h1, ⟨h2, h3⟩, h4⟩ := hm
  have hsr : sr 8 0 = 34 := rfl
  have h40 : (40 : Int32) = iN 40 := rfl
  by_cases e : M.2.1.1 = 40
  · have hS : S.1 8 1 = 40 := by rw [h2, e]; rfl
    have hg : ((0 ≤ (48 : Int32) ∧ 0 ≤ (0 : Int32) ∧ 0 ≤ (((1920 : Int32) - 48) : Int32)) ∧ ix 48 + ix ((1920 : Int32) - 48) ≤ 1920 ∧ ix 0 + ix ((1920 : Int32) - 48) ≤ 1920) := by decide
    have y0 : ix (0 : Int32) = 0 := by decide
    have y48 : ix (48 : Int32) = 48 := by decide
    have y18 : ix ((1920 : Int32) - 48) = 1872 := by decide
    unfold fX0_keep
    rw [gd_t ob8, if_pos hS, gd_t ob8, gd_t ob8, gd_t ob8, hsr, gd_t ar34, gd_t ar34, gd_t ar34, gd_t hg, y0, y48, y18]
    refine rn_r (fun T1 e1 => ?_)
    rw [gd_t ob8, gd_t ob8]
    refine rn_u (fun T2 e2 => ?_)
    have t1 : T1.1 8 1 = 40 := by rw [e1.2.1 8 (by decide)]; exact hS
    have t2 : T2.1 8 1 = iN 39 := by rw [e2.1, upd_at, t1]; decide
    have em : T2.1 8 1 * 48 = iN (48 * 39) := by rw [t2]; decide
    rw [gd_t ob8, gd_t ob8, gd_t ob18, em, rn_bV]
    have c2 : CU 18 M.1 T2 := (h1.ur is18 e1 (by unfold cuC; omega)).ur is18 e2 (by unfold cuC; omega)
    refine rn_mono (C_save (by omega) c2) (fun T3 hT3 => ?_)
    obtain ⟨s1, s2, s3⟩ := hT3
    rw [gd_t ob8, gd_t ob8]
    refine rn_u (fun T4 e4 => ?_)
    rw [rn_some]
    have hF : FC (fun a => a = 8 ∨ a = 34) S T4 := (((FC.rfl.ur e1 (Or.inr rfl)).ur e2 (Or.inl rfl)).tr (s3.mono (fun a ha => Or.inr ha))).ur e4 (Or.inl rfl)
    have e34 : T4.1 34 = T3.1 34 := e4.2.1 34 (by decide)
    have e31 : T3.1 8 1 = iN 39 := by rw [s3.1 8 (by decide)]; exact t2
    have kp : kpM M = (M.1, (40, fun j => if j = 39 then M.1 else M.2.1.2 (j + 1)), M.2.2) := by unfold kpM; rw [if_pos e]
    rw [kp]
    have hh := heard_cg hm' (hF.1 10 (by decide)) (hF.1 36 (by decide)) (hF.1 37 (by decide))
    refine ⟨⟨?_, ⟨?_, fun j hj => ?_⟩, hh⟩, hF⟩
    · exact h1.fr is18 hF.1 (fun a ha hc => by unfold cuC at ha; omega)
    · rw [e4.1, upd_at, e31]
      exact (by decide : iN 39 + 1 = iN 40)
    · have hj' : j < 40 := hj
      show AR (T4.1 34) (48 * j) (if j = 39 then M.1 else M.2.1.2 (j + 1))
      rw [e34]
      by_cases ej : j = 39
      · rw [if_pos ej, ej]; exact s1
      · rw [if_neg ej]
        refine (h3 (j + 1) (by omega)).cg (fun i hi => ?_)
        rw [s2 _ (by omega), e2.2.1 34 (by decide), e1.1]
        unfold va_cpy
        rw [if_pos (by omega)]
        have ei : 48 + (48 * j + i - 0) = 48 * (j + 1) + i := by omega
        rw [ei]
  · have hS : ¬ S.1 8 1 = 40 := by rw [h2, h40, iN_eq (by omega) (by omega)]; exact e
    have em : S.1 8 1 * 48 = iN (48 * M.2.1.1) := by
      rw [h2]
      have : (48 : Int32) = iN 48 := rfl
      rw [this, iN_mul, Nat.mul_comm]
    unfold fX0_keep
    rw [gd_t ob8, if_neg hS, gd_t ob8, gd_t ob8, gd_t ob18, hsr, em, rn_bV]
    refine rn_mono (C_save (by omega) h1) (fun T3 hT3 => ?_)
    obtain ⟨s1, s2, s3⟩ := hT3
    rw [gd_t ob8, gd_t ob8]
    refine rn_u (fun T4 e4 => ?_)
    rw [rn_some]
    have hF : FC (fun a => a = 8 ∨ a = 34) S T4 := (s3.mono (fun a ha => Or.inr ha)).ur e4 (Or.inl rfl)
    have e34 : T4.1 34 = T3.1 34 := e4.2.1 34 (by decide)
    have e31 : T3.1 8 1 = iN M.2.1.1 := by rw [s3.1 8 (by decide)]; exact h2
    have kp : kpM M = (M.1, (M.2.1.1 + 1, fun j => if j = M.2.1.1 then M.1 else M.2.1.2 j), M.2.2) := by unfold kpM; rw [if_neg e]
    rw [kp]
    have hh := heard_cg hm' (hF.1 10 (by decide)) (hF.1 36 (by decide)) (hF.1 37 (by decide))
    refine ⟨⟨?_, ⟨?_, fun j hj => ?_⟩, hh⟩, hF⟩
    · exact h1.fr is18 hF.1 (fun a ha hc => by unfold cuC at ha; omega)
    · rw [e4.1, upd_at, e31, iN_1]
    · have hj' : j < M.2.1.1 + 1 := hj
      show AR (T4.1 34) (48 * j) (if j = M.2.1.1 then M.1 else M.2.1.2 j)
      rw [e34]
      by_cases ej : j = M.2.1.1
      · rw [if_pos ej, ej]; exact s1
      · rw [if_neg ej]
        exact (h3 j (by omega)).cg (fun i hi => s2 _ (by omega))
theorem C_back (hK : M.2.1.1 ≤ 40) (h0 : 0 < M.2.1.1) (hm : CMi 18 8 34 10 36 37 M S) : rn (fX0_takeBack N 8 18 S) (fun U => CMi 18 8 34 10 36 37 (undM M) U ∧ U.1 8 1 = iN (M.2.1.1 - 1) ∧ FC (fun a => a = 8 ∨ a = 18 ∨ (50 ≤ a ∧ a < 55)) S U) := by
  have hm' := hm
  obtain ⟨h1, ⟨h2, h3⟩, h4⟩ := hm
  have hsr : sr 8 0 = 34 := rfl
  obtain ⟨k, hk⟩ : ∃ k, M.2.1.1 = k + 1 := ⟨M.2.1.1 - 1, by omega⟩
  have hS : ¬ S.1 8 1 ≤ 0 := by rw [h2, show (0 : Int32) = iN 0 from rfl, iN_le (by omega) (by omega)]; omega
  unfold fX0_takeBack
  rw [gd_t ob8, if_neg hS, gd_t ob8, gd_t ob8]
  refine rn_u (fun T1 e1 => ?_)
  have t1 : T1.1 8 1 = iN k := by rw [e1.1, upd_at, h2, hk, iN_s1]
  have em : T1.1 8 1 * 48 = iN (48 * k) := by
    rw [t1]
    have : (48 : Int32) = iN 48 := rfl
    rw [this, iN_mul, Nat.mul_comm]
  rw [gd_t ob8, gd_t ob8, gd_t ob18, hsr, em, rn_bV]
  have hA : AR (T1.1 34) (48 * k) (M.2.1.2 k) := by rw [e1.2.1 34 (by decide)]; exact h3 k (by omega)
  refine rn_mono (C_load (by omega) hA) (fun T2 hT2 => ?_)
  rw [rn_some]
  have hF : FC (fun a => a = 8 ∨ a = 18 ∨ (50 ≤ a ∧ a < 55)) S T2 := (FC.rfl.ur e1 (Or.inl rfl)).tr (hT2.2.mono (fun a ha => Or.inr ha))
  have un : undM M = (M.2.1.2 k, (k, M.2.1.2), M.2.2) := by unfold undM; rw [hk, Nat.add_sub_cancel]
  have ek : M.2.1.1 - 1 = k := by omega
  rw [un, ek]
  have t2 : T2.1 8 1 = iN k := by rw [hT2.2.1 8 (by decide)]; exact t1
  have hh := heard_cg hm' (hF.1 10 (by decide)) (hF.1 36 (by decide)) (hF.1 37 (by decide))
  refine ⟨⟨hT2.1, ⟨t2, fun j hj => ?_⟩, hh⟩, t2, hF⟩
  have hj' : j < k := hj
  show AR (T2.1 34) (48 * j) (M.2.1.2 j)
  rw [hF.1 34 (by decide)]
  exact h3 j (by omega)
/-- the model's row into the acts -/
theorem M_kp52 {k : Nat} {T : PS} (hN : 30000 ≤ N) (hk : k < 40) (h33 : T.1 80 33 = iN k) : rn (fX12_keeps_52 N N 0 T) (fun q => (∀ i, i < 64 → q.2.1 92 (64 * k + i) = T.1 91 i) ∧ (∀ i, (i < 64 * k ∨ 64 * k + 64 ≤ i) → q.2.1 92 i = T.1 92 i) ∧ FM (fun a => a = 92) (fun _ => False) T q.2) := by
  refine forG (f := fun m j s => fX12_keeps_52 N m (iN j) s) 64 (J := fun j U => (∀ i, i < j → U.1 92 (64 * k + i) = T.1 91 i) ∧ (∀ i, (i < 64 * k ∨ 64 * k + 64 ≤ i) → U.1 92 i = T.1 92 i) ∧ FM (fun a => a = 92) (fun _ => False) T U) ?_ ?_ N 0 T (Nat.zero_le _) ⟨fun i hi => by omega, fun _ _ => rfl, FM.rfl⟩ (by omega)
  · rintro m U ⟨g1, g2, g3⟩
    simp only [fX12_keeps_52]
    rw [if_pos (show (64 : Int32) ≤ iN 64 from Int32.le_refl _), rn_some]
    exact ⟨g1, g2, g3⟩
  · rintro m j U hj ⟨g1, g2, g3⟩ ih
    have hii : ¬ (64 : Int32) ≤ iN j := by rw [show (64 : Int32) = iN 64 from rfl, iN_le (by omega) (by omega)]; omega
    have i1 : inr (iN j) 128 := inr_iN (by omega) (by omega)
    have x1 : ix (iN j) = j := ix_iN (by omega)
    have u33 : U.1 80 33 = iN k := (g3.2.1 33 id).trans h33
    have o2 : 64 * U.1 80 33 + iN j = iN (64 * k + j) := by rw [u33, show (64 : Int32) = iN 64 from rfl, iN_mul, iN_add]
    have i2 : inr (iN (64 * k + j)) 2560 := inr_iN (by omega) (by omega)
    have x2 : ix (iN (64 * k + j)) = 64 * k + j := ix_iN (by omega)
    simp only [fX12_keeps_52, if_neg hii, gd_t i1, o2, gd_t i2, x1, x2, iN_1]
    refine rn_u (fun U2 e2 => ?_)
    rw [rn_lt]
    refine ih U2 ⟨fun i hi => ?_, fun i hi => ?_, ⟨fun a ha hb => (e2.2.1 a hb).trans (g3.1 a ha hb), fun q hq => (congrFun (e2.2.1 80 (by decide)) q).trans (g3.2.1 q hq), e2.2.2.trans g3.2.2⟩⟩
    · rw [e2.1]
      by_cases ei : i = j
      · subst ei; rw [upd_at]; rw [g3.1 91 (by decide) (by decide)]
      · rw [upd_o (by omega)]; exact g1 i (by omega)
    · rw [e2.1, upd_o (by omega)]; exact g2 i hi
theorem M_kp12 {T : PS} (hN : 30000 ≤ N) : rn (fX12_keeps_12 N N 64 T) (fun q => (∀ i, i < 2496 → q.2.1 92 i = T.1 92 (i + 64)) ∧ FM (fun a => a = 92) (fun _ => False) T q.2) := by
  refine forG (f := fun m j s => fX12_keeps_12 N m (iN j) s) 2560 (J := fun j U => 64 ≤ j ∧ (∀ i, i < j - 64 → U.1 92 i = T.1 92 (i + 64)) ∧ (∀ i, j - 64 ≤ i → U.1 92 i = T.1 92 i) ∧ FM (fun a => a = 92) (fun _ => False) T U) ?_ ?_ N 64 T (by omega) ⟨by omega, fun i hi => by omega, fun _ _ => rfl, FM.rfl⟩ (by omega)
  · rintro m U ⟨g0, g1, g2, g3⟩
    simp only [fX12_keeps_12]
    rw [if_pos (show (2560 : Int32) ≤ iN 2560 from Int32.le_refl _), rn_some]
    exact ⟨fun i hi => g1 i (by omega), g3⟩
  · rintro m j U hj ⟨g0, g1, g2, g3⟩ ih
    have hii : ¬ (2560 : Int32) ≤ iN j := by rw [show (2560 : Int32) = iN 2560 from rfl, iN_le (by omega) (by omega)]; omega
    have i1 : inr (iN j) 2560 := inr_iN (by omega) (by omega)
    have x1 : ix (iN j) = j := ix_iN (by omega)
    have o2 : iN j - 64 = iN (j - 64) := by
      have : iN j = iN (j - 64) + iN 64 := by rw [iN_add]; congr 1; omega
      rw [this, show (64 : Int32) = iN 64 from rfl, Int32.add_sub_cancel]
    have i2 : inr (iN (j - 64)) 2560 := inr_iN (by omega) (by omega)
    have x2 : ix (iN (j - 64)) = j - 64 := ix_iN (by omega)
    simp only [fX12_keeps_12, if_neg hii, gd_t i1, o2, gd_t i2, x1, x2, iN_1]
    refine rn_u (fun U2 e2 => ?_)
    rw [rn_lt]
    refine ih U2 ⟨by omega, fun i hi => ?_, fun i hi => ?_, ⟨fun a ha hb => (e2.2.1 a hb).trans (g3.1 a ha hb), fun q hq => (congrFun (e2.2.1 80 (by decide)) q).trans (g3.2.1 q hq), e2.2.2.trans g3.2.2⟩⟩
    · rw [e2.1]
      by_cases ei : i = j - 64
      · subst ei
        have ej : j - 64 + 64 = j := by omega
        rw [upd_at, g2 j (by omega), ej]
      · rw [upd_o ei]; exact g1 i (by omega)
    · rw [e2.1, upd_o (by omega)]; exact g2 i (by omega)
theorem UR_u {T : PS} {a k : Nat} {x : Int32} : UR T (u2 T.1 a k x, T.2) a (upd (T.1 a) k x) := ⟨u2_at, fun _ hb => u2_o hb, rfl⟩
/-- the model's minutes in a state -/
def MMS (n : Nat) (M : Mi) (S : PS) : Prop := MMi n (S.1 91) (S.1 92) (S.1 105) (S.1 80 33) (S.1 80 49) M
theorem UR80 {T T' : PS} {k : Nat} {x : Int32} (u : UR T T' 80 (upd (T.1 80) k x)) : T'.1 80 k = x ∧ ∀ j, j ≠ k → T'.1 80 j = T.1 80 j := ⟨by rw [u.1, upd_at], fun j hj => by rw [u.1, upd_o hj]⟩
theorem FM.ur {cs fs : Nat → Prop} {S T T' : PS} {k : Nat} {x : Int32} (h : FM cs fs S T) (u : UR T T' 80 (upd (T.1 80) k x)) (hk : fs k) : FM cs fs S T' :=
  ⟨fun a ha hb => (u.2.1 a ha).trans (h.1 a ha hb), fun j hj => ((UR80 u).2 j (fun e => hj (by rw [e]; exact hk))).trans (h.2.1 j hj), u.2.2.trans h.2.2⟩
theorem M_keeps (hN : 30000 ≤ N) (hn : n ≤ 9) (hK : M.2.1.1 ≤ 40) (hm : MMS n M S) : rn (fX12_keeps N S) (fun U => MMS n (kpM M) U ∧ FM (fun a => a = 92) (fun k => k = 33) S U) := by
  obtain ⟨h1, ⟨h2, h3⟩, h4⟩ := hm
  unfold fX12_keeps
  by_cases e : M.2.1.1 = 40
  · rw [if_pos (show S.1 80 33 = 40 by rw [h2, e]; rfl)]
    simp only [rn_bT, rn_lt]
    refine rn_mono (M_kp12 hN) (fun q hq => ?_)
    obtain ⟨s1, s2⟩ := hq
    have e1 : UR q.2 (u2 q.2.1 80 33 (q.2.1 80 33 - 1), q.2.2) 80 (upd (q.2.1 80) 33 (q.2.1 80 33 - 1)) := UR_u
    revert e1
    generalize (u2 q.2.1 80 33 (q.2.1 80 33 - 1), q.2.2) = T1
    intro e1
    have t33 : T1.1 80 33 = iN 39 := by rw [(UR80 e1).1, s2.2.1 33 id, h2, e]; decide
    have f1 : FM (fun a => a = 92) (fun k => k = 33) S T1 := (s2.mono (fun _ h => h) (fun _ h => h.elim)).ur e1 rfl
    refine rn_mono (M_kp52 (k := 39) hN (by omega) t33) (fun r hr => ?_)
    obtain ⟨r1, r2, r3⟩ := hr
    have e2 : UR r.2 (u2 r.2.1 80 33 (r.2.1 80 33 + 1), r.2.2) 80 (upd (r.2.1 80) 33 (r.2.1 80 33 + 1)) := UR_u
    revert e2
    generalize (u2 r.2.1 80 33 (r.2.1 80 33 + 1), r.2.2) = T2
    intro e2
    rw [rn_some]
    have f2 : FM (fun a => a = 92) (fun k => k = 33) S T2 := (f1.tr (r3.mono (fun _ h => h) (fun _ h => h.elim))).ur e2 rfl
    have kp : kpM M = (M.1, (40, fun j => if j = 39 then M.1 else M.2.1.2 (j + 1)), M.2.2) := by unfold kpM; rw [if_pos e]
    rw [kp]
    refine ⟨⟨?_, ⟨?_, fun j hj => ?_⟩, ?_⟩, f2⟩
    · rw [f2.1 91 (by decide) (by decide)]; exact h1
    · rw [(UR80 e2).1, r3.2.1 33 id, t33]
      exact (by decide : iN 39 + 1 = iN 40)
    · have hj' : j < 40 := hj
      show MF (T2.1 92) (64 * j) n (if j = 39 then M.1 else M.2.1.2 (j + 1))
      rw [e2.2.1 92 (by decide)]
      by_cases ej : j = 39
      · rw [if_pos ej, ej]
        refine h1.cg hn (fun i hi => ?_)
        rw [r1 i hi, Nat.zero_add, f1.1 91 (by decide) (by decide)]
      · rw [if_neg ej]
        refine (h3 (j + 1) (by omega)).cg hn (fun i hi => ?_)
        have ei : 64 * j + i + 64 = 64 * (j + 1) + i := by omega
        rw [r2 _ (by omega), e1.2.1 92 (by decide), s1 _ (by omega), ei]
    · rw [f2.1 105 (by decide) (by decide), f2.2.1 49 (by decide)]; exact h4
  · rw [if_neg (show ¬ S.1 80 33 = 40 by rw [h2, show (40 : Int32) = iN 40 from rfl, iN_eq (by omega) (by omega)]; exact e)]
    simp only [rn_bT, rn_lt]
    refine rn_mono (M_kp52 (k := M.2.1.1) hN (by omega) h2) (fun r hr => ?_)
    obtain ⟨r1, r2, r3⟩ := hr
    have e2 : UR r.2 (u2 r.2.1 80 33 (r.2.1 80 33 + 1), r.2.2) 80 (upd (r.2.1 80) 33 (r.2.1 80 33 + 1)) := UR_u
    revert e2
    generalize (u2 r.2.1 80 33 (r.2.1 80 33 + 1), r.2.2) = T2
    intro e2
    rw [rn_some]
    have f2 : FM (fun a => a = 92) (fun k => k = 33) S T2 := (r3.mono (fun _ h => h) (fun _ h => h.elim)).ur e2 rfl
    have kp : kpM M = (M.1, (M.2.1.1 + 1, fun j => if j = M.2.1.1 then M.1 else M.2.1.2 j), M.2.2) := by unfold kpM; rw [if_neg e]
    rw [kp]
    refine ⟨⟨?_, ⟨?_, fun j hj => ?_⟩, ?_⟩, f2⟩
    · rw [f2.1 91 (by decide) (by decide)]; exact h1
    · rw [(UR80 e2).1, r3.2.1 33 id, h2, iN_1]
    · have hj' : j < M.2.1.1 + 1 := hj
      show MF (T2.1 92) (64 * j) n (if j = M.2.1.1 then M.1 else M.2.1.2 j)
      rw [e2.2.1 92 (by decide)]
      by_cases ej : j = M.2.1.1
      · rw [if_pos ej, ej]
        refine h1.cg hn (fun i hi => ?_)
        rw [r1 i hi, Nat.zero_add]
      · rw [if_neg ej]
        exact (h3 j (by omega)).cg hn (fun i hi => r2 _ (by omega))
    · rw [f2.1 105 (by decide) (by decide), f2.2.1 49 (by decide)]; exact h4
theorem M_un26 {k : Nat} {T : PS} (hN : 30000 ≤ N) (hk : k < 40) (h33 : T.1 80 33 = iN k) : rn (fX12_undo_26 N N 0 T) (fun q => (∀ i, i < 64 → q.2.1 91 i = T.1 92 (64 * k + i)) ∧ FM (fun a => a = 91) (fun _ => False) T q.2) := by
  refine forG (f := fun m j s => fX12_undo_26 N m (iN j) s) 64 (J := fun j U => (∀ i, i < j → U.1 91 i = T.1 92 (64 * k + i)) ∧ FM (fun a => a = 91) (fun _ => False) T U) ?_ ?_ N 0 T (Nat.zero_le _) ⟨fun i hi => by omega, FM.rfl⟩ (by omega)
  · rintro m U ⟨g1, g3⟩
    simp only [fX12_undo_26]
    rw [if_pos (show (64 : Int32) ≤ iN 64 from Int32.le_refl _), rn_some]
    exact ⟨g1, g3⟩
  · rintro m j U hj ⟨g1, g3⟩ ih
    have hii : ¬ (64 : Int32) ≤ iN j := by rw [show (64 : Int32) = iN 64 from rfl, iN_le (by omega) (by omega)]; omega
    have i1 : inr (iN j) 128 := inr_iN (by omega) (by omega)
    have x1 : ix (iN j) = j := ix_iN (by omega)
    have u33 : U.1 80 33 = iN k := (g3.2.1 33 id).trans h33
    have o2 : 64 * U.1 80 33 + iN j = iN (64 * k + j) := by rw [u33, show (64 : Int32) = iN 64 from rfl, iN_mul, iN_add]
    have i2 : inr (iN (64 * k + j)) 2560 := inr_iN (by omega) (by omega)
    have x2 : ix (iN (64 * k + j)) = 64 * k + j := ix_iN (by omega)
    simp only [fX12_undo_26, if_neg hii, gd_t i1, o2, gd_t i2, x1, x2, iN_1]
    refine rn_u (fun U2 e2 => ?_)
    rw [rn_lt]
    refine ih U2 ⟨fun i hi => ?_, ⟨fun a ha hb => (e2.2.1 a hb).trans (g3.1 a ha hb), fun q hq => (congrFun (e2.2.1 80 (by decide)) q).trans (g3.2.1 q hq), e2.2.2.trans g3.2.2⟩⟩
    rw [e2.1]
    by_cases ei : i = j
    · subst ei; rw [upd_at, g3.1 92 (by decide) (by decide)]
    · rw [upd_o (by omega)]; exact g1 i (by omega)
theorem M_undo (hN : 30000 ≤ N) (hn : n ≤ 9) (hK : M.2.1.1 ≤ 40) (hm : MMS n M S) : rn (fX12_undo N S) (fun q => q.1 = (if M.2.1.1 = 0 then -1 else iN (M.2.1.1 - 1)) ∧ MMS n (if M.2.1.1 = 0 then M else undM M) q.2 ∧ FM (fun a => a = 91) (fun k => k = 33 ∨ k = 0) S q.2) := by
  obtain ⟨h1, ⟨h2, h3⟩, h4⟩ := hm
  unfold fX12_undo
  refine rn_u (fun T1 e1 => ?_)
  have f1 : FM (fun a => a = 91) (fun k => k = 33 ∨ k = 0) S T1 := FM.rfl.ur e1 (Or.inr rfl)
  have t33 : T1.1 80 33 = iN M.2.1.1 := by rw [(UR80 e1).2 33 (by decide)]; exact h2
  by_cases e : M.2.1.1 = 0
  · rw [if_pos (by rw [t33, e]; rfl), if_pos e, if_pos e, rn_some]
    refine ⟨rfl, ⟨?_, ⟨t33, fun j hj => by omega⟩, ?_⟩, f1⟩
    · rw [e1.2.1 91 (by decide)]; exact h1
    · rw [e1.2.1 105 (by decide), (UR80 e1).2 49 (by decide)]; exact h4
  · obtain ⟨k, hk⟩ : ∃ k, M.2.1.1 = k + 1 := ⟨M.2.1.1 - 1, by omega⟩
    rw [if_neg (by rw [t33, show (0 : Int32) = iN 0 from rfl, iN_eq (by omega) (by omega)]; exact e), if_neg e, if_neg e]
    refine rn_u (fun T2 e2 => ?_)
    have u33 : T2.1 80 33 = iN k := by rw [(UR80 e2).1, t33, hk, iN_s1]
    have f2 := f1.ur e2 (Or.inl rfl)
    simp only [rn_bT, rn_lt, rn_some]
    refine rn_mono (M_un26 hN (by omega) u33) (fun r hr => ?_)
    obtain ⟨r1, r2⟩ := hr
    have f3 := f2.tr (r2.mono (fun _ h => h) (fun _ h => h.elim))
    have ek : M.2.1.1 - 1 = k := by omega
    have un : undM M = (M.2.1.2 k, (k, M.2.1.2), M.2.2) := by unfold undM; rw [ek]
    rw [ek, un]
    have v33 : r.2.1 80 33 = iN k := (r2.2.1 33 id).trans u33
    refine ⟨v33, ⟨?_, ⟨v33, fun j hj => ?_⟩, ?_⟩, f3⟩
    · refine (h3 k (by omega)).cg hn (fun i hi => ?_)
      rw [Nat.zero_add, r1 i hi, f2.1 92 (by decide) (by decide)]
    · have hj' : j < k := hj
      rw [f3.1 92 (by decide) (by decide)]
      exact h3 j (by omega)
    · rw [f3.1 105 (by decide) (by decide), f3.2.1 49 (by decide)]; exact h4
end KP
