/-! ===== phase 2: the class clears the cave that it reads into ===== -/
def A0 : Rw := fun k _ => if k = 0 then 1 else if k = 2 ∨ k = 3 then -1 else 0
def V0 : Cv := (0, fun _ => 0, none, none)
section CLR
variable {N : Nat} {S : PS}
theorem okr_n : okr none := fun L h => by cases h
theorem V0_W : WV V0 A0 := by
  have ok : okr none := okr_n
  have sp : SPR (fun _ => (0 : Int32)) := fun c hc => by
    show 0 ≤ (0 : Int32).toInt ∧ (0 : Int32).toInt ≤ 20
    decide
  refine ⟨⟨by decide, fun c hc => ?_⟩, sp, rfl, fun k hk => ⟨rfl, rfl, rfl⟩, ok, ok⟩
  refine ⟨?_, ?_, Or.inl rfl, Or.inl rfl, ?_, Or.inl rfl, Or.inl rfl, fun _ => ⟨rfl, rfl, rfl, rfl, rfl, rfl, rfl⟩⟩
  · show 1 ≤ (1 : Int32).toInt ∧ (1 : Int32).toInt ≤ 30
    decide
  · show 0 ≤ (0 : Int32).toInt ∧ (0 : Int32).toInt < (1 : Int32).toInt
    decide
  · show 0 ≤ (0 : Int32).toInt ∧ (0 : Int32).toInt ≤ 1000000000
    decide
theorem C_cu0 {o : Nat} (hN : 30000 ≤ N) (ho : isCu o) : rn (fX2_clear N o S) (fun T => CU o A0 T ∧ FC (cuC o) S T) := by
  have ob := ho.ob
  have ar : ∀ k, k < 5 → arr (sr o k) 1 9 := fun k hk => ho.ar (by omega)
  have ne : ∀ j k, j < 5 → k < 5 → j ≠ k → sr o j ≠ sr o k := fun j k hj hk h => by rw [ho.sr (by omega), ho.sr (by omega)]; omega
  have nn : ∀ k, k < 5 → sr o k ≠ o := fun k hk => by have := ho.rg; rw [ho.sr (by omega)]; omega
  have inC : ∀ k, k < 5 → cuC o (sr o k) := fun k hk => Or.inr (by rw [ho.sr (by omega)]; omega)
  unfold fX2_clear
  rw [gd_t ob, rn_bV]
  refine rn_mono (C_fill (m := 9) hN (ar 0 (by omega)) (by omega)) (fun T0 h0 => ?_)
  rw [gd_t ob, rn_bV]
  refine rn_mono (C_fill (m := 9) hN (ar 1 (by omega)) (by omega)) (fun T1 h1 => ?_)
  rw [gd_t ob, rn_bV]
  refine rn_mono (C_fill (m := 9) hN (ar 2 (by omega)) (by omega)) (fun T2 h2 => ?_)
  rw [gd_t ob, rn_bV]
  refine rn_mono (C_fill (m := 9) hN (ar 3 (by omega)) (by omega)) (fun T3 h3 => ?_)
  rw [gd_t ob, rn_bV]
  refine rn_mono (C_fill (m := 9) hN (ar 4 (by omega)) (by omega)) (fun T4 h4 => ?_)
  rw [gd_t ob]
  refine rn_u (fun T5 u5 => ?_)
  rw [gd_t ob]
  refine rn_u (fun T6 u6 => ?_)
  rw [gd_t ob]
  refine rn_u (fun T7 u7 => ?_)
  rw [rn_some]
  have e : ∀ a, a ≠ o → T7.1 a = T4.1 a := fun a ha => by rw [u7.2.1 a ha, u6.2.1 a ha, u5.2.1 a ha]
  refine ⟨⟨fun k hk c hc => ?_, ?_, ?_, ?_⟩, ⟨fun a ha => ?_, ?_⟩⟩
  · rw [e _ (nn k hk)]
    have : k = 0 ∨ k = 1 ∨ k = 2 ∨ k = 3 ∨ k = 4 := by omega
    rcases this with rfl | rfl | rfl | rfl | rfl
    · rw [h4.2.2.1 _ (ne 0 4 (by omega) (by omega) (by omega)), h3.2.2.1 _ (ne 0 3 (by omega) (by omega) (by omega)), h2.2.2.1 _ (ne 0 2 (by omega) (by omega) (by omega)), h1.2.2.1 _ (ne 0 1 (by omega) (by omega) (by omega)), h0.1 c hc]; rfl
    · rw [h4.2.2.1 _ (ne 1 4 (by omega) (by omega) (by omega)), h3.2.2.1 _ (ne 1 3 (by omega) (by omega) (by omega)), h2.2.2.1 _ (ne 1 2 (by omega) (by omega) (by omega)), h1.1 c hc]; rfl
    · rw [h4.2.2.1 _ (ne 2 4 (by omega) (by omega) (by omega)), h3.2.2.1 _ (ne 2 3 (by omega) (by omega) (by omega)), h2.1 c hc]; rfl
    · rw [h4.2.2.1 _ (ne 3 4 (by omega) (by omega) (by omega)), h3.1 c hc]; rfl
    · rw [h4.1 c hc]; rfl
  · rw [u7.1, upd_o (by decide), u6.1, upd_o (by decide), u5.1, upd_at]; rfl
  · rw [u7.1, upd_o (by decide), u6.1, upd_at]; exact bt_congr bt_0 (fun c _ => rfl)
  · rw [u7.1, upd_at]; exact bt_congr bt_0 (fun c _ => rfl)
  · have na : ∀ k, k < 5 → a ≠ sr o k := fun k hk g => ha (by rw [g]; exact inC k hk)
    rw [e a (fun g => ha (Or.inl g)), h4.2.2.1 a (na 4 (by omega)), h3.2.2.1 a (na 3 (by omega)), h2.2.2.1 a (na 2 (by omega)), h1.2.2.1 a (na 1 (by omega)), h0.2.2.1 a (na 0 (by omega))]
  · rw [u7.2.2, u6.2.2, u5.2.2, h4.2.2.2, h3.2.2.2, h2.2.2.2, h1.2.2.2, h0.2.2.2]
theorem C_ru0 {r : Nat} (hr : isRu r) : rn (fX8_clear N r S) (fun T => T.1 r 2 = 0 ∧ T.1 r 3 = 0 ∧ FC (fun a => a = r) S T) := by
  have ob := (ru_ob hr).1
  unfold fX8_clear
  rw [gd_t ob]
  refine rn_u (fun U u => ?_)
  rw [gd_t ob]
  refine rn_u (fun W w => ?_)
  rw [rn_some]
  exact ⟨by rw [w.1, upd_o (by decide), u.1, upd_at], by rw [w.1, upd_at], (FC.ur (cs := fun a => a = r) (FC.ur (cs := fun a => a = r) FC.rfl u rfl) w rfl)⟩
theorem cuC_rd {c a : Nat} (h : c = 12 ∨ c = 13) (ha : cuC (sr c 1) a) : rdC c a := by
  rcases h with rfl | rfl
  · have s1 : sr 12 1 = 21 := rfl
    rw [s1] at ha
    rcases ha with g | g
    · exact Or.inr (Or.inr (Or.inl ⟨rfl, Or.inr (Or.inr (Or.inl g))⟩))
    · exact Or.inr (Or.inr (Or.inl ⟨rfl, Or.inr (Or.inr (Or.inr (Or.inl (by omega))))⟩))
  · have s1 : sr 13 1 = 22 := rfl
    rw [s1] at ha
    rcases ha with g | g
    · exact Or.inr (Or.inr (Or.inr ⟨rfl, Or.inr (Or.inr (Or.inl g))⟩))
    · exact Or.inr (Or.inr (Or.inr ⟨rfl, Or.inr (Or.inr (Or.inr (Or.inl (by omega))))⟩))
theorem C_clear {c : Nat} (hN : 30000 ≤ N) (hc : c = 12 ∨ c = 13) (h1 : S.2.2 1 1 = c) : rn (fX1_clear N c S) (fun T => CVs c V0 A0 T ∧ FRd c S T ∧ T.1 1 = S.1 1 ∧ T.1 2 = S.1 2 ∧ T.2 = S.2) := by
  obtain ⟨r1, r2, r3, r4, r5, -⟩ := cvR hc
  obtain ⟨m1, m2, m3, m4, m5, m6, m7⟩ := cuC_ru hc
  obtain ⟨n1, n2, n3, n4', n5, n6, n7⟩ := cv_ne hc
  unfold fX1_clear
  rw [gd_t r1, rn_bV]
  refine rn_mono (C_fill (m := 9) hN r3 (by omega)) (fun T0 h0 => ?_)
  rw [gd_t r1, gd_t r2.ob, rn_bV]
  refine rn_mono (C_cu0 hN r2) (fun T1 t1 => ?_)
  rw [gd_t r1, gd_t (ru_ob r4).1, rn_bV]
  refine rn_mono (C_ru0 r4) (fun T2 t2 => ?_)
  rw [gd_t r1, gd_t (ru_ob r5).1, rn_bV]
  refine rn_mono (C_ru0 r5) (fun T3 t3 => ?_)
  rw [gd_t r1]
  refine rn_u (fun T4 u4 => ?_)
  rw [rn_some]
  have e2 : T4.2 = S.2 := by rw [u4.2.2, t3.2.2.2, t2.2.2.2, t1.2.2, h0.2.2.2]
  have ea : ∀ a, a ≠ c → a ≠ sr c 3 → a ≠ sr c 2 → ¬ cuC (sr c 1) a → a ≠ sr c 0 → T4.1 a = S.1 a := fun a a1 a2 a3 a4 a5 => by rw [u4.2.1 a a1, t3.2.2.1 a a2, t2.2.2.1 a a3, t1.2.1 a a4, h0.2.2.1 a a5]
  have nc1 : ¬ cuC (sr c 1) 1 := fun g => (m1 1 g).1 rfl
  have nc2 : ¬ cuC (sr c 1) 2 := fun g => (m1 2 g).2.1 rfl
  refine ⟨⟨hc, by rw [e2]; exact h1, by rw [u4.1, upd_at]; rfl, fun k hk => ?_, ?_, ⟨?_, fun _ => ?_⟩, ⟨?_, fun _ => ?_⟩⟩, ⟨fun a ha => ?_, by rw [e2], fun a k _ => by rw [e2]⟩, ?_, ?_, e2⟩
  · rw [u4.2.1 _ n1.symm, t3.2.2.1 _ m3.2.2.2.1, t2.2.2.1 _ m3.2.2.1, t1.2.1 _ n7, h0.1 k hk]; rfl
  · refine t1.1.fr r2 (cs := fun a => a = c ∨ a = sr c 2 ∨ a = sr c 3) (fun a ha => ?_) (fun a ha g => ?_)
    · rw [u4.2.1 a (fun g => ha (Or.inl g)), t3.2.2.1 a (fun g => ha (Or.inr (Or.inr g))), t2.2.2.1 a (fun g => ha (Or.inr (Or.inl g)))]
    · rcases g with g | g | g
      · rw [g] at ha; exact n6 ha
      · exact (m1 a ha).2.2.1 g
      · exact (m1 a ha).2.2.2.1 g
  · show T4.1 (sr c 2) 3 = 0
    rw [u4.2.1 _ m2.2.2.1.symm, t3.2.2.1 _ m4.2.2.1]; exact t2.2.1
  · rw [u4.2.1 _ m2.2.2.1.symm, t3.2.2.1 _ m4.2.2.1]; exact t2.1
  · show T4.1 (sr c 3) 3 = 0
    rw [u4.2.1 _ m2.2.2.2.1.symm]; exact t3.2.1
  · rw [u4.2.1 _ m2.2.2.2.1.symm]; exact t3.1
  · exact ea a (fun g => ha (by rw [g]; exact (rd_in hc).1)) (fun g => ha (by rw [g]; exact (rd_in hc).2.2.2.2.2.2.2.2.2.1)) (fun g => ha (by rw [g]; exact (rd_in hc).2.2.2.2.2.2.2.2.1)) (fun g => ha (cuC_rd hc g)) (fun g => ha (by rw [g]; exact (rd_in hc).2.1))
  · exact ea 1 m2.1.symm m5.1.symm m4.1.symm nc1 m3.1.symm
  · exact ea 2 m2.2.1.symm m5.2.1.symm m4.2.1.symm nc2 m3.2.1.symm
end CLR
