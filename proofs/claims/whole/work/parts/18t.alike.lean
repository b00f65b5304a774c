/-! ===== phase 2: roots in the model; couples that are alike ===== -/
theorem bt_fun {x : Int32} {f g : Nat → Int32} (h : bt x f) (h' : bt x g) {c : Nat} (hc : c < 9) : f c = g c := by
  rw [← bt_has h hc, ← bt_has h' hc]
theorem bl01 {A : Rw} {c d : Nat} : blS A c d = 0 ∨ blS A c d = 1 := by
  unfold blS
  by_cases q : A 2 c = iN d ∨ A 3 c = iN d
  · exact Or.inr (if_pos q)
  · exact Or.inl (if_neg q)
theorem orS_0 {A : Rw} {d : Nat} : ∀ k, orS A k d = 0 ↔ ∀ i, i < k → blS A i d = 0
  | 0 => ⟨fun _ i hi => by omega, fun _ => by rw [orS]⟩
  | k + 1 => by
    rw [orS_s]
    have ih := orS_0 (A := A) (d := d) k
    by_cases e : orS A k d = 0
    · rw [if_pos e]
      refine ⟨fun h i hi => ?_, fun h => h k (by omega)⟩
      by_cases ei : i = k
      · rw [ei]; exact h
      · exact ih.mp e i (by omega)
    · rw [if_neg e]
      refine ⟨fun h => absurd h (by decide), fun h => absurd (ih.mpr (fun i hi => h i (by omega))) e⟩
theorem bl_out {n : Nat} {A : Rw} {i d : Nat} (hw : WF n A) (h1 : n ≤ i) (h2 : i < 9) (hd : d < 9) : blS A i d = 0 := by
  have h := (hw.2 i h2).2.2.2.2.2.2.2 h1
  unfold blS
  rw [h.2.2.1, h.2.2.2.1, if_neg]
  intro q
  rcases q with q | q <;> exact iN_n1 (show d < 2147483648 by omega) q.symm
def rtS (n : Nat) (A : Rw) (c : Nat) : Int32 := if orS A 9 c = 0 then (if c < n then 1 else 0) else 0
theorem M_roots {N n : Nat} {A : Rw} {S : PS} (hN : 30000 ≤ N) (hw : WF n A) (hm : S.1 80 1 = iN n) (h : MR 0 n A S) : ∃ x, bt x (rtS n A) ∧ fX12_roots N S = some (x, S) := by
  have hn := hw.1
  have key : ∀ k c x m, c + k = n → bt x (fun i => if i < c then rtS n A i else 0) → k < m → ∃ y, bt y (fun i => if i < n then rtS n A i else 0) ∧ fX12_roots_4 N m x (iN c) S = some (y, iN n, S) := by
    intro k
    induction k with
    | zero =>
      intro c x m hc hx hm'
      obtain ⟨m', rfl⟩ : ∃ m', m = m' + 1 := ⟨m - 1, by omega⟩
      have e : c = n := by omega
      subst e
      refine ⟨x, hx, ?_⟩
      rw [fX12_roots_4, hm, if_pos (Int32.le_refl _)]
    | succ k ih =>
      intro c x m hc hx hm'
      obtain ⟨m', rfl⟩ : ∃ m', m = m' + 1 := ⟨m - 1, by omega⟩
      have hii : ¬ iN n ≤ iN c := by rw [iN_le (by omega) (by omega)]; omega
      obtain ⟨g, bg, eg⟩ := M_givers (d := c) hN hn hm h
      rw [fX12_roots_4, hm, if_neg hii, eg, bI_s, lt_b, lt_b, lt_b, iN_1]
      refine ih (c + 1) _ m' (by omega) ?_ (by omega)
      have hg : g = 0 ↔ orS A 9 c = 0 := by
        rw [orS_0]
        constructor
        · intro e i hi
          by_cases ei : i < n
          · have := bt_fun bg (by rw [e]; exact bt_0) (show i < 9 by omega)
            rw [if_pos ei] at this
            exact this
          · exact bl_out hw (by omega) hi (by omega)
        · intro e
          refine bt_uniq bg bt_0 (fun i hi => ?_)
          rw [e i hi]
          split <;> rfl
      by_cases e : g = 0
      · have e9 := hg.mp e
        rw [if_pos e]
        refine bt_congr (bt_or hx (show c < 9 by omega)) (fun i hi => ?_)
        by_cases ei : i = c
        · rw [ei, if_pos (by omega), upd_at]
          unfold rtS
          rw [if_pos e9, if_pos (by omega)]
        · rw [upd_o ei]
          by_cases el : i < c
          · rw [if_pos (by omega), if_pos el]
          · rw [if_neg (by omega), if_neg el]
      · have e9 : ¬ orS A 9 c = 0 := fun q => e (hg.mpr q)
        have z2 : x ||| (0 : Int32) = x := by simp
        rw [if_neg e, z2]
        refine bt_congr hx (fun i hi => ?_)
        by_cases ei : i = c
        · rw [ei, if_pos (by omega), if_neg (by omega)]
          unfold rtS
          rw [if_neg e9]
        · by_cases el : i < c
          · rw [if_pos (by omega), if_pos el]
          · rw [if_neg (by omega), if_neg el]
  have hb : bt 0 (fun i => if i < 0 then rtS n A i else 0) := bt_congr bt_0 (fun i _ => if_neg (by omega))
  obtain ⟨y, hy, e⟩ := key n 0 0 N (by omega) hb (by omega)
  refine ⟨y, bt_congr hy (fun i hi => ?_), ?_⟩
  · by_cases ei : i < n
    · rw [if_pos ei]
    · rw [if_neg ei]
      unfold rtS
      rw [if_neg ei]
      split <;> rfl
  · unfold fX12_roots
    rw [show fX12_roots_4 N N 0 0 S = fX12_roots_4 N N 0 (iN 0) S from rfl, e]
    rfl
/-- two cups that are alike -/
def alE (sp : Nat → Int32) (A : Rw) (i j : Nat) : Int32 := if A 0 i = A 0 j ∧ A 1 i = A 1 j ∧ sp i = sp j then 1 else 0
theorem alE_y {sp : Nat → Int32} {A : Rw} {i j : Nat} (h0 : A 0 i = A 0 j) (h1 : A 1 i = A 1 j) (h2 : sp i = sp j) : alE sp A i j = 1 := if_pos ⟨h0, h1, h2⟩
theorem alE_n {sp : Nat → Int32} {A : Rw} {i j : Nat} (h : ¬ (A 0 i = A 0 j ∧ A 1 i = A 1 j ∧ sp i = sp j)) : alE sp A i j = 0 := if_neg h
theorem alE_c {sp : Nat → Int32} {A : Rw} {i j : Nat} : alE sp A i j = alE sp A j i := by
  by_cases h : A 0 i = A 0 j ∧ A 1 i = A 1 j ∧ sp i = sp j
  · rw [alE_y h.1 h.2.1 h.2.2, alE_y h.1.symm h.2.1.symm h.2.2.symm]
  · rw [alE_n h, alE_n (fun q => h ⟨q.1.symm, q.2.1.symm, q.2.2.symm⟩)]
def alT (sp : Nat → Int32) (A : Rw) (n : Nat) : Int32 := sumS (fun i => sumS (alE sp A i) i) n
def alU (sp : Nat → Int32) (A : Rw) (i j : Nat) : Int32 := if i < j then alE sp A i j else 0
theorem sumS_0 : ∀ n, sumS (fun _ => 0) n = 0
  | 0 => by rw [sumS]
  | n + 1 => by rw [sumS_s, sumS_0 n]; rfl
theorem alU_z {sp : Nat → Int32} {A : Rw} {i k : Nat} (h : k ≤ i + 1) : sumS (alU sp A i) k = 0 := by
  rw [sumS_cg k (g := fun _ => 0) (fun c hc => by unfold alU; rw [if_neg (by omega)]), sumS_0]
theorem al_eq {sp : Nat → Int32} {A : Rw} : ∀ n, sumS (fun i => sumS (alU sp A i) n) n = alT sp A n
  | 0 => by unfold alT; rw [sumS, sumS]
  | n + 1 => by
    have ih := al_eq (sp := sp) (A := A) n
    unfold alT at *
    rw [sumS_s, alU_z (Nat.le_refl _), Int32.add_zero, sumS_s, ← ih, ← sumS_add (f := fun i => sumS (alU sp A i) n) (g := fun i => alE sp A n i) (h := fun i => sumS (alU sp A i) n + alE sp A n i) (fun _ => rfl)]
    refine sumS_cg n (fun i hi => ?_)
    show sumS (alU sp A i) (n + 1) = _
    rw [sumS_s]
    unfold alU
    rw [if_pos hi, alE_c]
section ALK
variable {N n p : Nat} {lk fr : Option (List Int32)} {sp : Nat → Int32} {A : Rw} {S : PS}
theorem M_alike (hN : 30000 ≤ N) (hn : n ≤ 9) (hm : S.1 80 1 = iN n) (hs : ∀ c, c < n → S.1 81 c = sp c) (h : MR 0 n A S) : fX12_alike N S = some (alT sp A n, S) := by
  have inn : ∀ c, c < n → ∀ v j, j ≤ c → ∀ m, c < m + j → fX12_alike_14 N (iN c) m (v + sumS (alE sp A c) j) (iN j) S = some (v + sumS (alE sp A c) c, iN c, S) := by
    intro c hc v j hj m
    induction m generalizing j with
    | zero => intro h; omega
    | succ m ih =>
      intro hmm
      rw [fX12_alike_14]
      by_cases e : j = c
      · rw [e, if_pos (Int32.le_refl _)]
      · have o : ∀ b : Nat, b ≤ 60 → ∀ d, d < 9 → iN b + iN d = iN (0 + b + d) ∧ inr (iN (0 + b + d)) 128 ∧ ix (iN (0 + b + d)) = 0 + b + d := fun b hb d hd => ⟨by rw [iN_add, Nat.zero_add], inr_iN (by omega) (by omega), ix_iN (by omega)⟩
        have hj2 : j < n := by omega
        have a1 := o 1 (by omega) c (by omega)
        have a2 := o 1 (by omega) j (by omega)
        have b1 := o 10 (by omega) c (by omega)
        have b2 := o 10 (by omega) j (by omega)
        have q1 : (1 : Int32) + iN c = iN (0 + 1 + c) := a1.1
        have q2 : (1 : Int32) + iN j = iN (0 + 1 + j) := a2.1
        have q3 : (10 : Int32) + iN c = iN (0 + 10 + c) := b1.1
        have q4 : (10 : Int32) + iN j = iN (0 + 10 + j) := b2.1
        have ic : inr (iN c) 9 := inr_iN (by omega) (by omega)
        have ij : inr (iN j) 9 := inr_iN (by omega) (by omega)
        have xc : ix (iN c) = c := ix_iN (by omega)
        have xj : ix (iN j) = j := ix_iN (by omega)
        have fin : ∀ z, z = alE sp A c j → fX12_alike_14 N (iN c) m (v + sumS (alE sp A c) j + z) (iN (j + 1)) S = some (v + sumS (alE sp A c) c, iN c, S) := by
          intro z hz
          rw [hz, Int32.add_assoc, ← sumS_s]
          exact ih (j + 1) (by omega) (by omega)
        rw [if_neg (by rw [iN_le (by omega) (by omega)]; omega), q1, q2, gd_t a1.2.1, gd_t a2.2.1, a1.2.2, a2.2.2, (h.2 c hc).1, (h.2 j hj2).1]
        by_cases e0 : A 0 c = A 0 j
        · rw [if_pos e0, q3, q4, gd_t b1.2.1, gd_t b2.2.1, b1.2.2, b2.2.2, (h.2 c hc).2.1, (h.2 j hj2).2.1]
          by_cases e1 : A 1 c = A 1 j
          · rw [if_pos e1, gd_t ic, gd_t ij, xc, xj, hs c hc, hs j hj2, lt_b, lt_b, lt_b, iN_1]
            refine fin _ ?_
            by_cases e2 : sp c = sp j
            · rw [if_pos e2, alE_y e0 e1 e2]
            · rw [if_neg e2, alE_n (fun q => e2 q.2.2)]
          · rw [if_neg e1, lt_b, lt_b, iN_1]
            exact fin _ (alE_n (fun q => e1 q.2.1)).symm
        · rw [if_neg e0, lt_b, lt_b, iN_1]
          exact fin _ (alE_n (fun q => e0 q.1)).symm
  have key : ∀ c, c ≤ n → ∀ m, n < m + c → fX12_alike_4 N m (alT sp A c) (iN c) S = some (alT sp A n, iN n, S) := by
    intro c hc m
    induction m generalizing c with
    | zero => intro h; omega
    | succ m ih =>
      intro hmm
      rw [fX12_alike_4, hm]
      by_cases e : c = n
      · rw [e, if_pos (Int32.le_refl _)]
      · have := inn c (by omega) (alT sp A c) 0 (by omega) N (by omega)
        rw [sumS, Int32.add_zero] at this
        rw [if_neg (by rw [iN_le (by omega) (by omega)]; omega), show fX12_alike_14 N (iN c) N (alT sp A c) 0 S = fX12_alike_14 N (iN c) N (alT sp A c) (iN 0) S from rfl, this]
        show fX12_alike_4 N m (alT sp A c + sumS (alE sp A c) c) (iN c + 1) S = _
        have e2 : alT sp A c + sumS (alE sp A c) c = alT sp A (c + 1) := by unfold alT; rw [sumS_s]
        rw [e2, iN_1]
        exact ih (c + 1) (by omega) (by omega)
  have := key 0 (by omega) N (by omega)
  unfold fX12_alike
  rw [show fX12_alike_4 N N 0 0 S = fX12_alike_4 N N (alT sp A 0) (iN 0) S from rfl, this]
  rfl
theorem C_alike (hN : 30000 ≤ N) (hn : n ≤ 9) (hp : CE p n lk fr sp S) (h : CU 18 A S) : fX11_alikeCouples N S = some (alT sp A n, S) := by
  have po := p_ob hp.1
  have e50 : ∀ c, c < 9 → S.1 50 c = A 0 c := fun c hc => h.1 0 (by omega) c hc
  have e51 : ∀ c, c < 9 → S.1 51 c = A 1 c := fun c hc => h.1 1 (by omega) c hc
  have inn : ∀ c, c < n → ∀ v j, c < j → j ≤ n → ∀ m, n < m + j → fX11_alikeCouples_31 N (iN c) m (v + sumS (alU sp A c) j) (iN j) S = some (v + sumS (alU sp A c) n, iN n, S) := by
    intro c hc v j hcj hj m
    induction m generalizing j with
    | zero => intro h; omega
    | succ m ih =>
      intro hmm
      rw [fX11_alikeCouples_31, hp.2.1, lt_b, gd_t po.1, hp.2.2.1]
      by_cases e : j = n
      · rw [e, if_pos (Int32.le_refl _)]
      · have ic : inr (iN c) 9 := inr_iN (by omega) (by omega)
        have ij : inr (iN j) 9 := inr_iN (by omega) (by omega)
        have xc : ix (iN c) = c := ix_iN (by omega)
        have xj : ix (iN j) = j := ix_iN (by omega)
        have fin : ∀ z, z = alE sp A c j → fX11_alikeCouples_31 N (iN c) m (v + sumS (alU sp A c) j + z) (iN (j + 1)) S = some (v + sumS (alU sp A c) n, iN n, S) := by
          intro z hz
          have e2 : alE sp A c j = alU sp A c j := by unfold alU; rw [if_pos hcj]
          rw [hz, e2, Int32.add_assoc, ← sumS_s]
          exact ih (j + 1) (by omega) (by omega) (by omega)
        have fin0 : alE sp A c j = 0 → fX11_alikeCouples_31 N (iN c) m (v + sumS (alU sp A c) j) (iN (j + 1)) S = some (v + sumS (alU sp A c) n, iN n, S) := by
          intro hz
          have := fin 0 hz.symm
          rw [Int32.add_zero] at this
          exact this
        rw [if_neg (by rw [iN_le (by omega) (by omega)]; omega), gd_t ic, gd_t ij, xc, xj, e50 c (by omega), e50 j (by omega)]
        by_cases e0 : A 0 c = A 0 j
        · rw [if_pos e0, gd_t ic, gd_t ij, e51 c (by omega), e51 j (by omega), lt_b]
          by_cases e1 : A 1 c = A 1 j
          · rw [if_pos e1, if_neg (by decide)]
            rw [lt_b, gd_t po.1, gd_t po.2.1, gd_t ic, lt_b, gd_t po.1, gd_t po.2.1, gd_t ij, hp.2.2.2.1 c (by omega), hp.2.2.2.1 j (by omega)]
            by_cases e2 : sp c = sp j
            · rw [if_pos e2, lt_b, lt_b, iN_1]
              exact fin 1 (alE_y e0 e1 e2).symm
            · rw [if_neg e2, lt_b, iN_1]
              exact fin0 (alE_n (fun q => e2 q.2.2))
          · rw [if_neg e1, if_pos rfl, lt_b, iN_1]
            exact fin0 (alE_n (fun q => e1 q.2.1))
        · rw [if_neg e0, if_pos rfl, lt_b, iN_1]
          exact fin0 (alE_n (fun q => e0 q.1))
  have key : ∀ c, c ≤ n → ∀ m, n < m + c → fX11_alikeCouples_12 N m (sumS (fun i => sumS (alU sp A i) n) c) (iN c) S = some (sumS (fun i => sumS (alU sp A i) n) n, iN n, S) := by
    intro c hc m
    induction m generalizing c with
    | zero => intro h; omega
    | succ m ih =>
      intro hmm
      rw [fX11_alikeCouples_12, hp.2.1, lt_b, gd_t po.1, hp.2.2.1]
      by_cases e : c = n
      · rw [e, if_pos (Int32.le_refl _)]
      · have := inn c (by omega) (sumS (fun i => sumS (alU sp A i) n) c) (c + 1) (by omega) (by omega) N (by omega)
        rw [alU_z (Nat.le_refl _), Int32.add_zero] at this
        rw [if_neg (by rw [iN_le (by omega) (by omega)]; omega), lt_b, iN_1, this]
        show fX11_alikeCouples_12 N m (sumS (fun i => sumS (alU sp A i) n) c + sumS (alU sp A c) n) (iN (c + 1)) S = _
        have e2 : sumS (fun i => sumS (alU sp A i) n) c + sumS (alU sp A c) n = sumS (fun i => sumS (alU sp A i) n) (c + 1) := by rw [sumS_s]
        rw [e2]
        exact ih (c + 1) (by omega) (by omega)
  have := key 0 (by omega) N (by omega)
  unfold fX11_alikeCouples
  rw [show fX11_alikeCouples_12 N N 0 0 S = fX11_alikeCouples_12 N N (sumS (fun i => sumS (alU sp A i) n) 0) (iN 0) S from rfl, this, al_eq]
  rfl
end ALK
