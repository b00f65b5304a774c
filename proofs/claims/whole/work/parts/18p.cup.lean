/-! ===== phase 2: cup ===== -/
def cupV (V : Cv) (A : Rw) (c : Nat) (k : Int32) : Int32 :=
  if k = 0 then A 0 c else if k = 1 then A 1 c else if k = 2 then V.2.1 c else if k = 3 then intoS A c 0 else if k = 4 then intoS A c 1 else if k = 5 then A 4 c else if k = 6 then A 5 c else if k = 7 then dpS V.1 A c else A 0 c - A 1 c
def aCup (V : Cv) (A : Rw) (c k : Int32) : Int32 ⊕ String := if inr c V.1 then (if btw k 0 8 then .inl (cupV V A (ix c) k) else .inr nNSE) else .inr nNSE
section CUP
variable {N : Nat} {V : Cv} {A : Rw} {S : PS}
theorem C_cup {c k : Int32} (q : QC N V A S) : rn (fX11_cup N c k S) (fun r => r.1 = aCup V A c k ∧ FQ S r.2) := by
  obtain ⟨hN, hs, hw, hcu, p, hp⟩ := q
  have hn := hw.1
  unfold aCup fX11_cup
  by_cases h1 : inr c V.1
  · obtain ⟨d, hd, rfl⟩ := inr_c h1
    have xd : ix (iN d) = d := ix_iN (by omega)
    have i9 : inr (iN d) 9 := inr_iN (by omega) (by omega)
    have d9 : d < 9 := by omega
    rw [nc_t hp hn hd, bU_l, if_pos h1]
    by_cases h2 : btw k 0 8
    · rw [nw_t h2, bU_l, if_pos h2]
      have e0 : S.1 50 d = A 0 d := hcu.1 0 (by omega) d d9
      have e1 : S.1 51 d = A 1 d := hcu.1 1 (by omega) d d9
      have e4 : S.1 54 d = A 4 d := hcu.1 4 (by omega) d d9
      have h01 := (hw.2 d d9).2.2.2.2.2.1
      unfold cupV
      rw [xd]
      by_cases k0 : k = 0
      · rw [if_pos k0, if_pos k0, gd_t i9, rn_some, e0]; exact ⟨rfl, FQ.rfl⟩
      rw [if_neg k0, if_neg k0]
      by_cases k1 : k = 1
      · rw [if_pos k1, if_pos k1, gd_t i9, rn_some, e1]; exact ⟨rfl, FQ.rfl⟩
      rw [if_neg k1, if_neg k1]
      by_cases k2 : k = 2
      · have po := p_ob hp.1
        rw [if_pos k2, if_pos k2, hp.2.1, lt_b, gd_t po.1, gd_t po.2.1, gd_t i9, rn_some, hp.2.2.2.1 d d9]
        exact ⟨rfl, FQ.rfl⟩
      rw [if_neg k2, if_neg k2]
      by_cases k3 : k = 3
      · rw [if_pos k3, if_pos k3, C_intoD d9 hcu (Or.inl rfl), bI_s, rn_some]; exact ⟨rfl, FQ.rfl⟩
      rw [if_neg k3, if_neg k3]
      by_cases k4 : k = 4
      · rw [if_pos k4, if_pos k4, C_intoD d9 hcu (Or.inr rfl), bI_s, rn_some]; exact ⟨rfl, FQ.rfl⟩
      rw [if_neg k4, if_neg k4]
      by_cases k5 : k = 5
      · rw [if_pos k5, if_pos k5, gd_t i9, rn_some, e4]; exact ⟨rfl, FQ.rfl⟩
      rw [if_neg k5, if_neg k5]
      by_cases k6 : k = 6
      · have ex : (if A 5 d = 0 then (0 : Int32) else 1) = A 5 d := by rcases h01 with e | e <;> rw [e] <;> decide
        rw [if_pos k6, if_pos k6, plug_bt is18 hcu d9, bI_s, lt_b, rn_some, ex]; exact ⟨rfl, FQ.rfl⟩
      rw [if_neg k6, if_neg k6]
      by_cases k7 : k = 7
      · rw [if_pos k7, if_pos k7, rn_bI]
        refine rn_mono (C_deepS hN hd hw hcu) (fun r hr => ?_)
        rw [rn_some]
        exact ⟨by rw [hr.1], FQ.fc hr.2 (fun a ha => by unfold pc ceC; omega)⟩
      rw [if_neg k7, if_neg k7, gd_t i9, gd_t i9, rn_some, e0, e1]
      exact ⟨rfl, FQ.rfl⟩
    · rw [nw_f h2, bU_r, if_neg h2, rn_some]
      exact ⟨rfl, FQ.rfl⟩
  · rw [nc_f hp hn h1, bU_r, if_neg h1, rn_some]
    exact ⟨rfl, FQ.rfl⟩
end CUP
