/-! ===== phase 2: one call on both sides ===== -/
/-- the state of both, whole -/
def IV (S : PS) : Prop := ∃ G, GW G ∧ GZ G ∧ IC G S ∧ IM G S
theorem bH_l {β : Type} {x : Int32} {S : PS} {f : Int32 → PS → Option β} {fN fI : PS → Option β} : bH (some (.inl x, S)) f fN fI = f x S := rfl
section ONE
variable {N : Nat} {G G' : Gs} {S : PS} {mC : Option ((Int32 ⊕ String) × PS)} {mM : PS → Option (Int32 × PS)} {a : Int32 ⊕ String} {kk : String → Int32} {fN fI : PS → Option (Int32 × PS)}
theorem one_x (hg : GW G) (hg' : GW G') (hz' : GZ G') (him : IM G S) (hC : rn mC (fun q => q.1 = a ∧ IC G' q.2 ∧ MS S q.2)) (hM : ∀ T, IM G T → rn (mM T) (fun q => MA kk a q.1 (q.2.1 80 0) ∧ IM G' q.2 ∧ CS T q.2))
    (hE : ∀ E, a = .inr E → kk E ≠ 0 ∧ ∀ T : PS, (if E = nNSE then fN T else if E = nIAE then fI T else none) = some (kk E, T)) :
    rn (bI (bH mC (fun x4 S2 => lt ((S2.1, u2L S2.2.1 111 0 x4.toInt64, S2.2.2) : PS) fun S5 => some (0, S5)) fN fI) fun x1 S2 => bI (mM S2) fun x4 S5 => bI (fX12_thrown N S5) fun x7 S8 => (if x7 = x1 then (if x1 = 0 then (if (lg_cmp (S8.2.1 111 0) x4.toInt64) = 0 then some S8 else none) else some S8) else none)) IV := by
  rw [rn_bI, rn_bH]
  refine rn_mono hC (fun q hq => ?_)
  obtain ⟨h1, h2, h3⟩ := hq
  refine ⟨fun x hx => ?_, fun E hE' => ?_⟩
  · rw [rn_lt, rn_some, rn_bI]
    rw [hx] at h1
    have hi : IM G (q.2.1, u2L q.2.2.1 111 0 x.toInt64, q.2.2.2) := IM_out (IM_pm hg him (MS_pm h3))
    refine rn_mono (hM _ hi) (fun r hr => ?_)
    obtain ⟨m1, m2, m3⟩ := hr
    rw [← h1] at m1
    rw [rn_bI, fX12_thrown, rn_some]
    have e1 : r.2.1 80 0 = 0 := m1.1
    have e2 : r.1 = x := m1.2
    have e3 : r.2.2.1 111 0 = x.toInt64 := by rw [(m3 111 (by omega)).2.1]; exact u2L_at (f := q.2.2.1) (a := 111) (k := 0)
    simp only [e1, e2, e3, lg_eq, if_true, rn_some]
    exact ⟨G', hg', hz', IC_pc (IC_out h2) (CS_pc m3), m2⟩
  · rw [hE'] at h1
    obtain ⟨e1, e2⟩ := hE E h1.symm
    rw [e2, rn_some, rn_bI]
    have hi : IM G q.2 := IM_pm hg him (MS_pm h3)
    refine rn_mono (hM _ hi) (fun r hr => ?_)
    obtain ⟨m1, m2, m3⟩ := hr
    rw [← h1] at m1
    have e3 : r.2.1 80 0 = kk E := m1
    rw [rn_bI, fX12_thrown, rn_some]
    simp only [e3, if_true, if_neg e1, rn_some]
    exact ⟨G', hg', hz', IC_pc h2 (CS_pc m3), m2⟩
/-- the three ways to throw -/
theorem kxN (h : ∀ E, a = .inr E → E = nNSE) : ∀ E, a = .inr E → k1 E ≠ 0 ∧ ∀ T : PS, (if E = nNSE then (fun S2 : PS => some ((1 : Int32), S2)) T else if E = nIAE then (fun _ : PS => (none : Option (Int32 × PS))) T else none) = some (k1 E, T) := fun E e => by
  rw [h E e]
  exact ⟨by unfold k1; decide, fun T => if_pos rfl⟩
theorem kxI (h : ∀ E, a = .inr E → E = nIAE) : ∀ E, a = .inr E → k1 E ≠ 0 ∧ ∀ T : PS, (if E = nNSE then (fun _ : PS => (none : Option (Int32 × PS))) T else if E = nIAE then (fun S2 : PS => some ((1 : Int32), S2)) T else none) = some (k1 E, T) := fun E e => by
  rw [h E e]
  refine ⟨by unfold k1; decide, fun T => ?_⟩
  rw [if_neg nNI.symm, if_pos rfl]
  rfl
theorem kxB (h : ∀ E, a = .inr E → E = nNSE ∨ E = nIAE) : ∀ E, a = .inr E → k2 E ≠ 0 ∧ ∀ T : PS, (if E = nNSE then (fun S2 : PS => some ((1 : Int32), S2)) T else if E = nIAE then (fun S2 : PS => some ((2 : Int32), S2)) T else none) = some (k2 E, T) := fun E e => by
  rcases h E e with g | g
  · rw [g]
    unfold k2
    rw [if_pos rfl]
    exact ⟨by decide, fun T => if_pos rfl⟩
  · rw [g]
    unfold k2
    rw [if_neg nNI.symm]
    refine ⟨by decide, fun T => ?_⟩
    rw [if_neg nNI.symm, if_pos rfl]
/-- a question -/
theorem one_ask (hg : GW G) (hz : GZ G) (hic : IC G S) (him : IM G S) (hC : rn mC (fun r => r.1 = a ∧ FQ S r.2)) (hM : ∀ T, IM G T → rn (mM T) (fun r => MA kk a r.1 (r.2.1 80 0) ∧ FP T r.2))
    (hE : ∀ E, a = .inr E → kk E ≠ 0 ∧ ∀ T : PS, (if E = nNSE then fN T else if E = nIAE then fI T else none) = some (kk E, T)) :
    rn (bI (bH mC (fun x4 S2 => lt ((S2.1, u2L S2.2.1 111 0 x4.toInt64, S2.2.2) : PS) fun S5 => some (0, S5)) fN fI) fun x1 S2 => bI (mM S2) fun x4 S5 => bI (fX12_thrown N S5) fun x7 S8 => (if x7 = x1 then (if x1 = 0 then (if (lg_cmp (S8.2.1 111 0) x4.toInt64) = 0 then some S8 else none) else some S8) else none)) IV :=
  one_x hg hg hz him (rn_mono hC (fun q hq => ⟨hq.1, IC_pc hic hq.2.1, hq.2.2⟩)) (fun T hT => rn_mono (hM T hT) (fun q hq => ⟨hq.1, IM_pm hg hT hq.2.1, hq.2.2⟩)) hE
/-- a yes or no -/
theorem one_b (hg : GW G) (hg' : GW G') (hz' : GZ G') (him : IM G S) (ha : a = .inl 0 ∨ a = .inl 1 ∨ a = .inr nNSE) (hC : rn mC (fun q => q.1 = a ∧ IC G' q.2 ∧ MS S q.2)) (hM : ∀ T, IM G T → rn (mM T) (fun q => MA k1 a q.1 (q.2.1 80 0) ∧ IM G' q.2 ∧ CS T q.2)) :
    rn (bI (bH mC (fun x4 S2 => (if x4 = 0 then lt ((S2.1, u2L S2.2.1 111 0 0, S2.2.2) : PS) fun S6 => some ((0 : Int32), S6) else lt ((S2.1, u2L S2.2.1 111 0 1, S2.2.2) : PS) fun S7 => some (0, S7))) (fun S2 => some (1, S2)) (fun _ => none)) fun x1 S2 => bI (mM S2) fun x4 S5 => bI (fX12_thrown N S5) fun x7 S8 => (if x7 = x1 then (if x1 = 0 then (if x4 = 0 then (if (lg_cmp (S8.2.1 111 0) 0) = 0 then some S8 else none) else (if (lg_cmp (S8.2.1 111 0) 1) = 0 then some S8 else none)) else some S8) else none)) IV := by
  rw [rn_bI, rn_bH]
  refine rn_mono hC (fun q hq => ?_)
  obtain ⟨h1, h2, h3⟩ := hq
  refine ⟨fun x hx => ?_, fun E hE' => ?_⟩
  · rw [hx] at h1
    have good : ∀ y : Int64, rn (bI (mM (q.2.1, u2L q.2.2.1 111 0 y, q.2.2.2)) fun x4 S5 => bI (fX12_thrown N S5) fun x7 S8 => (if x7 = 0 then (if (0 : Int32) = 0 then (if x4 = 0 then (if (lg_cmp (S8.2.1 111 0) 0) = 0 then some S8 else none) else (if (lg_cmp (S8.2.1 111 0) 1) = 0 then some S8 else none)) else some S8) else none)) IV ∨ ¬ (if x = 0 then y = 0 else y = 1) := by
      intro y
      by_cases hy : (if x = 0 then y = 0 else y = 1)
      · left
        have hi : IM G (q.2.1, u2L q.2.2.1 111 0 y, q.2.2.2) := IM_out (IM_pm hg him (MS_pm h3))
        rw [rn_bI]
        refine rn_mono (hM _ hi) (fun r hr => ?_)
        obtain ⟨m1, m2, m3⟩ := hr
        rw [← h1] at m1
        rw [rn_bI, fX12_thrown, rn_some]
        have e1 : r.2.1 80 0 = 0 := m1.1
        have e2 : r.1 = x := m1.2
        have e3 : r.2.2.1 111 0 = y := by rw [(m3 111 (by omega)).2.1]; exact u2L_at (f := q.2.2.1) (a := 111) (k := 0)
        have iv : IV r.2 := ⟨G', hg', hz', IC_pc (IC_out h2) (CS_pc m3), m2⟩
        rw [if_pos e1, if_pos rfl, e2, e3]
        by_cases x0 : x = 0
        · rw [if_pos x0] at hy ⊢
          rw [hy, lg_eq, if_pos rfl, rn_some]; exact iv
        · rw [if_neg x0] at hy ⊢
          rw [hy, lg_eq, if_pos rfl, rn_some]; exact iv
      · right; exact hy
    by_cases x0 : x = 0
    · rw [if_pos x0, rn_lt, rn_some]
      rcases good 0 with g | g
      · exact g
      · exact absurd (by rw [if_pos x0]) g
    · rw [if_neg x0, rn_lt, rn_some]
      rcases good 1 with g | g
      · exact g
      · exact absurd (by rw [if_neg x0]) g
  · rw [hE'] at h1
    have eE : E = nNSE := by
      rcases ha with g | g | g
      · rw [g] at h1; cases h1
      · rw [g] at h1; cases h1
      · rw [g] at h1; cases h1; rfl
    rw [eE, if_pos rfl, rn_some, rn_bI]
    have hi : IM G q.2 := IM_pm hg him (MS_pm h3)
    refine rn_mono (hM _ hi) (fun r hr => ?_)
    obtain ⟨m1, m2, m3⟩ := hr
    rw [← h1] at m1
    have e3 : r.2.1 80 0 = 1 := m1
    rw [rn_bI, fX12_thrown, rn_some, if_pos e3, if_neg (show ¬ ((1 : Int32) = 0) from by decide), rn_some]
    exact ⟨G', hg', hz', IC_pc h2 (CS_pc m3), m2⟩
/-- a plain number -/
theorem one_p {mC : Option (Int32 × PS)} {v : Int32} (hg : GW G) (hg' : GW G') (hz' : GZ G') (him : IM G S) (hC : rn mC (fun q => q.1 = v ∧ IC G' q.2 ∧ MS S q.2)) (hM : ∀ T, IM G T → rn (mM T) (fun q => q.1 = v ∧ IM G' q.2 ∧ CS T q.2)) :
    rn (bI mC fun x1 S2 => bI (mM S2) fun x4 S5 => (if x1 = x4 then some S5 else none)) IV := by
  rw [rn_bI]
  refine rn_mono hC (fun q hq => ?_)
  obtain ⟨h1, h2, h3⟩ := hq
  rw [rn_bI]
  refine rn_mono (hM _ (IM_pm hg him (MS_pm h3))) (fun r hr => ?_)
  obtain ⟨m1, m2, m3⟩ := hr
  rw [if_pos (h1.trans m1.symm), rn_some]
  exact ⟨G', hg', hz', IC_pc h2 (CS_pc m3), m2⟩
/-- no answer -/
theorem one_v {mC : Option PS} {mV : PS → Option PS} (hg : GW G) (hg' : GW G') (hz' : GZ G') (him : IM G S) (hC : rn mC (fun q => IC G' q ∧ MS S q)) (hM : ∀ T, IM G T → rn (mV T) (fun q => IM G' q ∧ CS T q)) :
    rn (bV mC fun S2 => bV (mV S2) fun S5 => some S5) IV := by
  rw [rn_bV]
  refine rn_mono hC (fun q hq => ?_)
  obtain ⟨h2, h3⟩ := hq
  rw [rn_bV]
  refine rn_mono (hM _ (IM_pm hg him (MS_pm h3))) (fun r hr => ?_)
  obtain ⟨m2, m3⟩ := hr
  rw [rn_some]
  exact ⟨G', hg', hz', IC_pc h2 (CS_pc m3), m2⟩
theorem qc (hN : 30000 ≤ N) (hg : GW G) (h : IC G S) : QC N G.1 G.2.1.1 S := ⟨hN, hg.1, hg.2.1.1, h.2.1.1, by obtain ⟨p, h1, -⟩ := h.1; exact ⟨p, h1⟩⟩
theorem qm (hN : 30000 ≤ N) (hg : GW G) (h : IM G S) : QM N G.1 G.2.1.1 S := ⟨hN, hg.1, hg.2.1.1, h.2.1.1, h.1⟩
theorem ite_x {P : String → Prop} {c : Prop} {i : Decidable c} {x y : Int32 ⊕ String} (hx : ∀ E, x = .inr E → P E) (hy : ∀ E, y = .inr E → P E) : ∀ E, (@ite _ c i x y) = .inr E → P E := by
  by_cases h : c
  · rw [if_pos h]; exact hx
  · rw [if_neg h]; exact hy
theorem inl_x {P : String → Prop} {v : Int32} : ∀ E, (.inl v : Int32 ⊕ String) = .inr E → P E := fun E e => (by cases e)
theorem inr_x {P : String → Prop} {n : String} (h : P n) : ∀ E, (.inr n : Int32 ⊕ String) = .inr E → P E := fun E e => (by cases e; exact h)
end ONE
