/-! ===== phase 2: nth ===== -/
theorem fnd_is {P : Nat → Bool} : ∀ {m k j : Nat}, k ≤ j → j < k + m → P j = true → (∀ i, k ≤ i → i < j → ¬ P i = true) → fnd P m k = some j
  | 0, k, j, h1, h2, _, _ => by omega
  | m + 1, k, j, h1, h2, h3, h4 => by
    by_cases e : k = j
    · subst e; exact fnd_t h3
    · rw [fnd_f (h4 k (Nat.le_refl _) (by omega))]
      exact fnd_is (by omega) (by omega) h3 (fun i hi hj => h4 i (by omega) hj)
theorem fnd_no {P : Nat → Bool} : ∀ {m k : Nat}, (∀ i, k ≤ i → i < k + m → ¬ P i = true) → fnd P m k = none
  | 0, k, _ => by rw [fnd]
  | m + 1, k, h => by
    rw [fnd_f (h k (Nat.le_refl _) (by omega))]
    exact fnd_no (fun i h1 h2 => h i (by omega) (by omega))
def nthP (V : Cv) (A : Rw) (c : Nat) (z : Int) (h : Nat) : Bool := decide (z ≤ (tnS V.2.1 A h c : Int))
def nthS (V : Cv) (A : Rw) (c : Nat) (z : Int32) : Int32 := rfn (fnd (nthP V A c z.toInt) 1000000 1)
def aNth (V : Cv) (A : Rw) (c z : Int32) : Int32 ⊕ String := if inr c V.1 then (if btw z 1 100000000 then .inl (nthS V A (ix c) z) else .inr nIAE) else .inr nNSE
theorem nth_c {V : Cv} {A : Rw} {c lo : Nat} {z : Int32} (h0 : lo ≤ 1000000) (h1 : (tnS V.2.1 A lo c : Int) < z.toInt) (h2 : ∀ h, h ≤ 1000000 → lo + 1 ≤ h → z.toInt ≤ (tnS V.2.1 A h c : Int)) :
    (if 1000000 ≤ iN lo then (-1) else (iN lo + 1)) = nthS V A c z := by
  have lo_f : ∀ i, i ≤ lo → ¬ nthP V A c z.toInt i = true := by
    intro i hi q
    have q2 := of_decide_eq_true q
    have := tnS_mo (sp := V.2.1) (A := A) (y := c) hi
    omega
  unfold nthS
  by_cases e : lo = 1000000
  · rw [if_pos (by rw [show (1000000 : Int32) = iN 1000000 from rfl, iN_le (by omega) (by omega)]; omega), fnd_no (fun i _ hi => lo_f i (by omega))]
    rfl
  · rw [if_neg (by rw [show (1000000 : Int32) = iN 1000000 from rfl, iN_le (by omega) (by omega)]; omega), fnd_is (j := lo + 1) (by omega) (by omega) (decide_eq_true (h2 (lo + 1) (by omega) (Nat.le_refl _))) (fun i _ hi => lo_f i (by omega)), iN_1]
    rfl
theorem nth_m {V : Cv} {A : Rw} {c lo : Nat} {z : Int32} (h0 : 1 ≤ lo) (h3 : lo ≤ 1000001) (h1 : ∀ h, 1 ≤ h → h < lo → (tnS V.2.1 A h c : Int) < z.toInt) (h2 : lo ≤ 1000000 → z.toInt ≤ (tnS V.2.1 A lo c : Int)) :
    (if iN lo ≤ 1000000 then iN lo else (-1)) = nthS V A c z := by
  have lo_f : ∀ i, 1 ≤ i → i < lo → ¬ nthP V A c z.toInt i = true := by
    intro i hi hl q
    have q2 := of_decide_eq_true q
    have := h1 i hi hl
    omega
  unfold nthS
  by_cases e : lo ≤ 1000000
  · rw [if_pos (by rw [show (1000000 : Int32) = iN 1000000 from rfl, iN_le (by omega) (by omega)]; omega), fnd_is (j := lo) h0 (by omega) (decide_eq_true (h2 e)) (fun i a b => lo_f i a b)]
    rfl
  · rw [if_neg (by rw [show (1000000 : Int32) = iN 1000000 from rfl, iN_le (by omega) (by omega)]; omega), fnd_no (fun i a b => lo_f i a (by omega))]
    rfl
theorem k_half : ∀ k : Fin 20, iN (2 ^ (k.val + 1)) >>> ((1 : Int32) &&& 31) = iN (2 ^ k.val) := by decide +kernel
theorem k_half0 : iN (2 ^ 0) >>> ((1 : Int32) &&& 31) = 0 := by decide +kernel
section NTH
variable {N : Nat} {V : Cv} {A : Rw} {S : PS}
theorem C_nth18 {d : Nat} {z : Int32} (hd : d < V.1) : ∀ k lo m S, QC N V A S → k ≤ 19 → lo + 2 ^ k ≤ 2000000 → lo ≤ 1000000 → (tnS V.2.1 A lo d : Int) < z.toInt → (∀ h, h ≤ 1000000 → lo + 2 ^ (k + 1) ≤ h → z.toInt ≤ (tnS V.2.1 A h d : Int)) → k + 1 < m →
    rn (fX11_nth_18 N (iN d) z m (iN lo) (iN (2 ^ k)) S) (fun r => (if 1000000 ≤ r.1 then (-1) else (r.1 + 1)) = nthS V A d z ∧ FQ S r.2.2) := by
  intro k
  induction k with
  | zero =>
    intro lo m S q hk hb hl h1 h2 hm
    obtain ⟨m', rfl⟩ : ∃ m', m = m' + 1 := ⟨m - 1, by omega⟩
    obtain ⟨m'', rfl⟩ : ∃ m'', m' = m'' + 1 := ⟨m' - 1, by omega⟩
    have hw := q.2.2.1
    have hn := hw.1
    have i9 : inr (iN d) 9 := inr_iN (by omega) (by omega)
    have xd : ix (iN d) = d := ix_iN (by omega)
    have ex : ∀ lo S', lo ≤ 1000000 → (tnS V.2.1 A lo d : Int) < z.toInt → (∀ h, h ≤ 1000000 → lo + 1 ≤ h → z.toInt ≤ (tnS V.2.1 A h d : Int)) → FQ S S' → rn (fX11_nth_18 N (iN d) z (m'' + 1) (iN lo) 0 S') (fun r => (if 1000000 ≤ r.1 then (-1) else (r.1 + 1)) = nthS V A d z ∧ FQ S r.2.2) := by
      intro lo S' a1 a2 a3 a4
      rw [fX11_nth_18, if_pos (Int32.le_refl _), rn_some]
      exact ⟨nth_c a1 a2 a3, a4⟩
    rw [fX11_nth_18, if_neg (by decide), lt_b, iN_add, k_half0]
    by_cases e : 1000000 < lo + 2 ^ 0
    · rw [if_pos (by rw [show (1000000 : Int32) = iN 1000000 from rfl, iN_lt (by omega) (by omega)]; exact e), lt_b]
      exact ex lo S hl h1 (fun h a b => by omega) FQ.rfl
    · rw [if_neg (by rw [show (1000000 : Int32) = iN 1000000 from rfl, iN_lt (by omega) (by omega)]; exact e), lt_b, rn_bV]
      have hh : lo + 2 ^ 0 ≤ 1000000 := by omega
      refine rn_mono q.reck (fun U hU => ?_)
      have tm := tn_max (h := lo + 2 ^ 0) hw q.2.1 hh (show d < 9 by omega)
      rw [gd_t i9, xd, (hU.1 d hd).2, ti_N hw q.2.1 hh (by omega)]
      by_cases e2 : z ≤ iN (tnS V.2.1 A (lo + 2 ^ 0) d)
      · rw [if_pos e2, rn_lt]
        rw [le_ti, iN_ti (by omega)] at e2
        refine ex lo U hl h1 (fun h a b => ?_) hU.2.2
        have := tnS_mo (sp := V.2.1) (A := A) (y := d) (show lo + 2 ^ 0 ≤ h by simpa using b)
        omega
      · rw [if_neg e2, rn_lt]
        rw [le_ti, iN_ti (by omega)] at e2
        refine ex (lo + 2 ^ 0) U hh (by omega) (fun h a b => h2 h a ?_) hU.2.2
        have e3 : (2 : Nat) ^ (0 + 1) = 2 ^ 0 + 1 := by decide
        omega
  | succ k ih =>
    intro lo m S q hk hb hl h1 h2 hm
    obtain ⟨m', rfl⟩ : ∃ m', m = m' + 1 := ⟨m - 1, by omega⟩
    have hw := q.2.2.1
    have hn := hw.1
    have i9 : inr (iN d) 9 := inr_iN (by omega) (by omega)
    have xd : ix (iN d) = d := ix_iN (by omega)
    have p1 : 2 ^ (k + 1) = 2 * 2 ^ k := by rw [Nat.pow_succ]; omega
    have p2 : 2 ^ (k + 1 + 1) = 2 * 2 ^ (k + 1) := Nat.pow_succ'
    have p0 : 1 ≤ 2 ^ k := Nat.one_le_two_pow
    have ng : ¬ iN (2 ^ (k + 1)) ≤ 0 := by
      rw [show (0 : Int32) = iN 0 from rfl, iN_le (by omega) (by omega)]
      omega
    rw [fX11_nth_18, if_neg ng, lt_b, iN_add, k_half ⟨k, by omega⟩]
    by_cases e : 1000000 < lo + 2 ^ (k + 1)
    · rw [if_pos (by rw [show (1000000 : Int32) = iN 1000000 from rfl, iN_lt (by omega) (by omega)]; exact e), lt_b]
      exact ih lo m' S q (by omega) (by omega) hl h1 (fun h a b => by omega) (by omega)
    · rw [if_neg (by rw [show (1000000 : Int32) = iN 1000000 from rfl, iN_lt (by omega) (by omega)]; exact e), lt_b, rn_bV]
      have hh : lo + 2 ^ (k + 1) ≤ 1000000 := by omega
      refine rn_mono q.reck (fun U hU => ?_)
      have tm := tn_max (h := lo + 2 ^ (k + 1)) hw q.2.1 hh (show d < 9 by omega)
      rw [gd_t i9, xd, (hU.1 d hd).2, ti_N hw q.2.1 hh (by omega)]
      by_cases e2 : z ≤ iN (tnS V.2.1 A (lo + 2 ^ (k + 1)) d)
      · rw [if_pos e2, rn_lt]
        rw [le_ti, iN_ti (by omega)] at e2
        refine rn_mono (ih lo m' U (q.fq hU.2.2) (by omega) (by omega) hl h1 (fun h a b => ?_) (by omega)) (fun r hr => ⟨hr.1, hU.2.2.tr hr.2⟩)
        have := tnS_mo (sp := V.2.1) (A := A) (y := d) b
        omega
      · rw [if_neg e2, rn_lt]
        rw [le_ti, iN_ti (by omega)] at e2
        refine rn_mono (ih (lo + 2 ^ (k + 1)) m' U (q.fq hU.2.2) (by omega) (by omega) hh (by omega) (fun h a b => h2 h a (by omega)) (by omega)) (fun r hr => ⟨hr.1, hU.2.2.tr hr.2⟩)
theorem C_nth {c z : Int32} (q : QC N V A S) : rn (fX11_nth N c z S) (fun r => r.1 = aNth V A c z ∧ FQ S r.2) := by
  have q' := q
  obtain ⟨hN, hs, hw, hcu, p, hp⟩ := q'
  have hn := hw.1
  unfold aNth fX11_nth
  by_cases h1 : inr c V.1
  · obtain ⟨d, hd, rfl⟩ := inr_c h1
    have xd : ix (iN d) = d := ix_iN (by omega)
    rw [nc_t hp hn hd, bU_l, if_pos h1]
    by_cases h2 : btw z 1 100000000
    · rw [nr_t h2, bU_l, if_pos h2, rn_bT, xd]
      have hz : 1 ≤ z.toInt := by have := h2.1; rw [le_ti, o_ti] at this; exact this
      have h20 : (2 : Nat) ^ 20 = 1048576 := by decide
      have h19 : (2 : Nat) ^ 19 = 524288 := by decide
      rw [show fX11_nth_18 N (iN d) z N 0 524288 S = fX11_nth_18 N (iN d) z N (iN 0) (iN (2 ^ 19)) S from by rw [h19]; rfl]
      refine rn_mono (C_nth18 hd 19 0 N S q (by omega) (by omega) (by omega) (by rw [tn_0 hw (by omega)]; omega) (fun h a b => by omega) (by omega)) (fun r hr => ?_)
      rw [rn_lt, rn_lt, rn_lt, rn_lt, rn_some, hr.1]
      exact ⟨rfl, hr.2⟩
    · rw [nr_f h2, bU_r, if_neg h2, rn_some]
      exact ⟨rfl, FQ.rfl⟩
  · rw [nc_f hp hn h1, bU_r, if_neg h1, rn_some]
    exact ⟨rfl, FQ.rfl⟩
theorem M_nth38 {d : Nat} {z : Int32} (hd : d < V.1) : ∀ k lo hi m S, QM N V A S → hi < lo + 2 ^ k → 1 ≤ lo → lo ≤ hi → hi ≤ 1000001 → (∀ h, 1 ≤ h → h < lo → (tnS V.2.1 A h d : Int) < z.toInt) → (hi ≤ 1000000 → z.toInt ≤ (tnS V.2.1 A hi d : Int)) → k < m →
    rn (fX12_nth_38 N (iN d) z m (iN lo) (iN hi) S) (fun r => (if r.1 ≤ 1000000 then r.1 else (-1)) = nthS V A d z ∧ r.2.2.1 80 0 = S.1 80 0 ∧ FP S r.2.2) := by
  intro k
  induction k with
  | zero =>
    intro lo hi m S q hk h1 h2 h3 h4 h5 hm
    obtain ⟨m', rfl⟩ : ∃ m', m = m' + 1 := ⟨m - 1, by omega⟩
    have e : lo = hi := by
      have : (2 : Nat) ^ 0 = 1 := rfl
      omega
    subst e
    rw [fX12_nth_38, if_pos (Int32.le_refl _), rn_some]
    exact ⟨nth_m h1 h3 h4 h5, rfl, FP.rfl⟩
  | succ k ih =>
    intro lo hi m S q hk h1 h2 h3 h4 h5 hm
    obtain ⟨m', rfl⟩ : ∃ m', m = m' + 1 := ⟨m - 1, by omega⟩
    have hw := q.2.2.1
    have hn := hw.1
    have i9 : inr (iN d) 9 := inr_iN (by omega) (by omega)
    have xd : ix (iN d) = d := ix_iN (by omega)
    by_cases e : lo = hi
    · subst e
      rw [fX12_nth_38, if_pos (Int32.le_refl _), rn_some]
      exact ⟨nth_m h1 h3 h4 h5, rfl, FP.rfl⟩
    · have p1 : 2 ^ (k + 1) = 2 * 2 ^ k := by rw [Nat.pow_succ]; omega
      have em : iN lo + ((iN hi - iN lo) / 2) = iN (lo + (hi - lo) / 2) := by
        rw [iN_sub h2, show (2 : Int32) = iN 2 from rfl, iN_div (by omega) (by omega) (by omega), iN_add]
      rw [fX12_nth_38, if_neg (by rw [iN_le (by omega) (by omega)]; omega), lt_b, em, rn_bV]
      have hmid : lo + (hi - lo) / 2 < hi ∧ lo ≤ lo + (hi - lo) / 2 ∧ hi < lo + (hi - lo) / 2 + 1 + 2 ^ k ∧ lo + (hi - lo) / 2 < lo + 2 ^ k := by omega
      generalize lo + (hi - lo) / 2 = mid at *
      refine rn_mono q.flo (fun U hU => ?_)
      have hh : mid ≤ 1000000 := by omega
      have tm := tn_max (h := mid) hw q.2.1 hh (show d < 9 by omega)
      have u0 : U.1 80 0 = S.1 80 0 := hU.2.1.2.1 0 id
      rw [gd_t i9, xd, (hU.1 d hd).2.1, ti_N hw q.2.1 hh (by omega)]
      by_cases e2 : iN (tnS V.2.1 A mid d) < z
      · rw [if_pos e2, lt_b, iN_1]
        rw [lt_ti, iN_ti (by omega)] at e2
        refine rn_mono (ih (mid + 1) hi m' U (q.fp hU.2.2) (by omega) (by omega) (by omega) h3 (fun h a b => ?_) h5 (by omega)) (fun r hr => ⟨hr.1, hr.2.1.trans u0, hU.2.2.tr hr.2.2⟩)
        have := tnS_mo (sp := V.2.1) (A := A) (y := d) (show h ≤ mid by omega)
        omega
      · rw [if_neg e2]
        rw [lt_ti, iN_ti (by omega)] at e2
        exact rn_mono (ih lo mid m' U (q.fp hU.2.2) (by omega) h1 (by omega) (by omega) h4 (fun _ => by omega) (by omega)) (fun r hr => ⟨hr.1, hr.2.1.trans u0, hU.2.2.tr hr.2.2⟩)
theorem M_nth {c z : Int32} (q : QM N V A S) : rn (fX12_nth N c z S) (fun r => MA k2 (aNth V A c z) r.1 (r.2.1 80 0) ∧ FP S r.2) := by
  have hF : FP S (u2 S.1 80 0 0, S.2) := zFP
  have q0 := q.fp hF
  have hz := z0 (S := S)
  unfold aNth fX12_nth
  refine rn_l (fun T eT => ?_)
  rw [← eT] at q0 hF hz
  clear eT
  have q1 := q0
  obtain ⟨hN, hs, hw, hmr, hme⟩ := q0
  have hn := hw.1
  have h80 : T.1 80 1 = iN V.1 := hme.1
  by_cases h1 : inr c V.1
  · obtain ⟨d, hd, rfl⟩ := inr_c h1
    have xd : ix (iN d) = d := ix_iN (by omega)
    rw [ic_t hz hn h80 hd, bI_s, if_neg (by decide), if_pos h1]
    by_cases h2 : btw z 1 100000000
    · rw [wi_t h2, bI_s, rt_t hz (by decide), bI_s, if_neg (by decide), if_pos h2, rn_bT, xd]
      have h20 : (2 : Nat) ^ 20 = 1048576 := by decide
      rw [show fX12_nth_38 N (iN d) z N 1 1000001 T = fX12_nth_38 N (iN d) z N (iN 1) (iN 1000001) T from rfl]
      refine rn_mono (M_nth38 hd 20 1 1000001 N T q1 (by omega) (by omega) (by omega) (by omega) (fun h a b => by omega) (fun h => by omega) (by omega)) (fun r hr => ?_)
      rw [rn_lt, rn_lt, rn_lt, rn_lt, rn_some, hr.1]
      exact ⟨⟨hr.2.1.trans hz, rfl⟩, hF.tr hr.2.2⟩
    · rw [wi_f h2, bI_s, rt_f hz (by decide), bI_s, if_pos rfl, if_neg h2, rn_some]
      exact ⟨MAx (T := T) (x := 2) (by decide), hF.tr zFP⟩
  · rw [ic_f hz hn h80 h1, bI_s, if_pos rfl, if_neg h1, rn_some]
    exact ⟨MAx (T := T) (x := 1) (by decide), hF.tr zFP⟩
end NTH
