/-! ===== phase 2: tier, in the model; the question ===== -/
theorem sh_bt {x : Int32} {f : Nat → Int32} {a b : Nat} (h : bt x f) (ha : a < 9) (hb : b < 9) : bt (x ||| (((x >>> (iN b &&& 31)) &&& 1) <<< (iN a &&& 31))) (fun i => if i = a ∧ f b = 1 then 1 else f i) := by
  have hh := bt_has h hb
  rcases bt_01 h hb with e | e
  · have z : ((0 : Int32) <<< (iN a &&& 31)) = 0 := by simp
    have z2 : x ||| (0 : Int32) = x := by simp
    rw [hh.trans e, z, z2]
    exact bt_congr h (fun i _ => if_neg (fun q => by have := q.2; rw [e] at this; exact absurd this (by decide)))
  · rw [hh.trans e]
    refine bt_congr (bt_or h ha) (fun i _ => ?_)
    by_cases ei : i = a
    · rw [ei, upd_at, if_pos ⟨rfl, e⟩]
    · rw [upd_o ei, if_neg (fun q => ei q.1)]
def le1 (f g : Nat → Int32) : Prop := ∀ i, i < 9 → f i = 1 → g i = 1
theorem le1.rfl {f : Nat → Int32} : le1 f f := fun _ _ h => h
theorem le1.tr {f g h : Nat → Int32} (a : le1 f g) (b : le1 g h) : le1 f h := fun i hi q => b i hi (a i hi q)
/-- one pair is heeded: a gives into j -/
def hdP (w : Int32) (A : Rw) (f f' : Nat → Int32) (a j : Nat) : Prop := blS A a j = 1 → (w = 0 → f j = 1 → f' a = 1) ∧ (¬ w = 0 → f a = 1 → f' j = 1)
theorem hdP.mono {w : Int32} {A : Rw} {f g f' g' : Nat → Int32} {a j : Nat} (h : hdP w A f f' a j) (ha : a < 9) (hj : j < 9) (h1 : le1 g f) (h2 : le1 f' g') : hdP w A g g' a j :=
  fun e => ⟨fun e0 q => h2 a ha ((h e).1 e0 (h1 j hj q)), fun e0 q => h2 j hj ((h e).2 e0 (h1 a ha q))⟩
section TIM
variable {N n c : Nat} {A : Rw} {S : PS} {v1 v4 w : Int32}
theorem M_t55 {a : Nat} {g : Nat → Int32} (hn : n ≤ 9) (ha : a < n) (hm : S.1 80 1 = iN n) (h : MR 0 n A S) (hg : ∀ t s, t < 9 → s < 9 → nxR w A t s = 1 → g s = 1 → g t = 1) :
    ∀ k b x f m, b + k = n → bt x f → le1 f g → k < m → ∃ y f', bt y f' ∧ le1 f f' ∧ le1 f' g ∧ (∀ j, b ≤ j → j < n → hdP w A f f' a j) ∧ fX12_tier_55 N v1 w v4 (iN a) m x (iN b) S = some (y, iN n, S)
  | 0, b, x, f, m, hb, hx, hl, hm' => by
    obtain ⟨m', rfl⟩ : ∃ m', m = m' + 1 := ⟨m - 1, by omega⟩
    have e : b = n := by omega
    subst e
    refine ⟨x, f, hx, le1.rfl, hl, fun j h1 h2 => by omega, ?_⟩
    rw [fX12_tier_55, hm, if_pos (Int32.le_refl _)]
  | k + 1, b, x, f, m, hb, hx, hl, hm' => by
    obtain ⟨m', rfl⟩ : ∃ m', m = m' + 1 := ⟨m - 1, by omega⟩
    have hii : ¬ iN n ≤ iN b := by rw [iN_le (by omega) (by omega)]; omega
    rw [fX12_tier_55, hm, if_neg hii, M_below hn ha h, bI_s]
    rcases bl01 (A := A) (c := a) (d := b) with e | e
    · rw [if_pos e, lt_b, iN_1]
      obtain ⟨y, f', h1, h2, h3, h4, h5⟩ := M_t55 hn ha hm h hg k (b + 1) x f m' (by omega) hx hl (by omega)
      refine ⟨y, f', h1, h2, h3, fun j q1 q2 => ?_, h5⟩
      by_cases ej : j = b
      · intro q; rw [ej, e] at q; exact absurd q (by decide)
      · exact h4 j (by omega) q2
    · rw [if_neg (by rw [e]; decide), lt_b, lt_b, lt_b, iN_1]
      have fin : ∀ x2 f2, bt x2 f2 → le1 f f2 → le1 f2 g → hdP w A f f2 a b → ∃ y f', bt y f' ∧ le1 f f' ∧ le1 f' g ∧ (∀ j, b ≤ j → j < n → hdP w A f f' a j) ∧ fX12_tier_55 N v1 w v4 (iN a) m' x2 (iN (b + 1)) S = some (y, iN n, S) := by
        intro x2 f2 hx2 l1 l2 hd
        obtain ⟨y, f', h1, h2, h3, h4, h5⟩ := M_t55 hn ha hm h hg k (b + 1) x2 f2 m' (by omega) hx2 l2 (by omega)
        refine ⟨y, f', h1, l1.tr h2, h3, fun j q1 q2 => ?_, h5⟩
        by_cases ej : j = b
        · rw [ej]; exact hd.mono (by omega) (by omega) le1.rfl h2
        · exact (h4 j (by omega) q2).mono (by omega) (by omega) l1 le1.rfl
      have ha9 : a < 9 := by omega
      have hb9 : b < 9 := by omega
      by_cases e0 : w = 0
      · rw [if_pos e0]
        refine fin _ _ (sh_bt hx ha9 hb9) (fun i hi q => ?_) (fun i hi q => ?_) (fun _ => ⟨fun _ q => if_pos ⟨rfl, q⟩, fun q => absurd e0 q⟩)
        · split
          · rfl
          · exact q
        · by_cases ei : i = a ∧ f b = 1
          · rw [ei.1]
            exact hg a b ha9 hb9 (by unfold nxR; rw [if_pos e0]; exact e) (hl b hb9 ei.2)
          · rw [if_neg ei] at q
            exact hl i hi q
      · rw [if_neg e0]
        refine fin _ _ (sh_bt hx hb9 ha9) (fun i hi q => ?_) (fun i hi q => ?_) (fun _ => ⟨fun q => absurd q e0, fun _ q => if_pos ⟨rfl, q⟩⟩)
        · split
          · rfl
          · exact q
        · by_cases ei : i = b ∧ f a = 1
          · rw [ei.1]
            exact hg b a hb9 ha9 (by unfold nxR; rw [if_neg e0]; exact e) (hl a ha9 ei.2)
          · rw [if_neg ei] at q
            exact hl i hi q
theorem M_t43 {g : Nat → Int32} (hN : 30000 ≤ N) (hn : n ≤ 9) (hm : S.1 80 1 = iN n) (h : MR 0 n A S) (hg : ∀ t s, t < 9 → s < 9 → nxR w A t s = 1 → g s = 1 → g t = 1) :
    ∀ k a x f m, a + k = n → bt x f → le1 f g → k < m → ∃ y f', bt y f' ∧ le1 f f' ∧ le1 f' g ∧ (∀ i, a ≤ i → i < n → ∀ j, j < n → hdP w A f f' i j) ∧ fX12_tier_43 N v1 w v4 m x (iN a) S = some (y, iN n, S)
  | 0, b, x, f, m, hb, hx, hl, hm' => by
    obtain ⟨m', rfl⟩ : ∃ m', m = m' + 1 := ⟨m - 1, by omega⟩
    have e : b = n := by omega
    subst e
    refine ⟨x, f, hx, le1.rfl, hl, fun j h1 h2 => by omega, ?_⟩
    rw [fX12_tier_43, hm, if_pos (Int32.le_refl _)]
  | k + 1, a, x, f, m, hb, hx, hl, hm' => by
    obtain ⟨m', rfl⟩ : ∃ m', m = m' + 1 := ⟨m - 1, by omega⟩
    have hii : ¬ iN n ≤ iN a := by rw [iN_le (by omega) (by omega)]; omega
    obtain ⟨x2, f2, b1, b2, b3, b4, b5⟩ := M_t55 (N := N) (v1 := v1) (v4 := v4) (a := a) hn (by omega) hm h hg n 0 x f N (by omega) hx hl (by omega)
    obtain ⟨y, f', h1, h2, h3, h4, h5⟩ := M_t43 hN hn hm h hg k (a + 1) x2 f2 m' (by omega) b1 b3 (by omega)
    refine ⟨y, f', h1, b2.tr h2, h3, fun i q1 q2 j q3 => ?_, ?_⟩
    · by_cases ei : i = a
      · rw [ei]; exact (b4 j (by omega) q3).mono (by omega) (by omega) le1.rfl h2
      · exact (h4 i (by omega) q2 j q3).mono (by omega) (by omega) b2 le1.rfl
    · rw [fX12_tier_43, hm, if_neg hii, show fX12_tier_55 N v1 w v4 (iN a) N x 0 S = fX12_tier_55 N v1 w v4 (iN a) N x (iN 0) S from rfl, b5]
      show fX12_tier_43 N v1 w v4 m' x2 (iN a + 1) S = _
      rw [iN_1]
      exact h5
/-- how far the sweeps have come -/
def swJ (w : Int32) (n : Nat) (g f : Nat → Int32) (k : Nat) : Prop := ∀ x, x < n → (if w = 0 then n ≤ x + k else x < k) → g x = 1 → f x = 1
theorem M_t31 (hN : 30000 ≤ N) (hw : WF n A) (hc : c < n) (hm : S.1 80 1 = iN n) (h : MR 0 n A S) :
    ∀ k b x f m, b + k = n → bt x f → le1 f (trT w A c) → f c = 1 → swJ w n (trT w A c) f b → k < m → ∃ y, bt y (trT w A c) ∧ fX12_tier_31 N v1 w m x (iN b) S = some (y, iN n, S)
  | 0, b, x, f, m, hb, hx, hl, hfc, hJ, hm' => by
    obtain ⟨m', rfl⟩ : ∃ m', m = m' + 1 := ⟨m - 1, by omega⟩
    have e : b = n := by omega
    subst e
    refine ⟨x, bt_congr hx (fun i hi => eq_01 trT_01 (bt_01 hx hi) ⟨fun q => ?_, hl i hi⟩), ?_⟩
    · have hi2 := trT_n hw hc hi q
      refine hJ i hi2 ?_ q
      split <;> omega
    · rw [fX12_tier_31, hm, if_pos (Int32.le_refl _)]
  | k + 1, b, x, f, m, hb, hx, hl, hfc, hJ, hm' => by
    obtain ⟨m', rfl⟩ : ∃ m', m = m' + 1 := ⟨m - 1, by omega⟩
    have hn := hw.1
    have hii : ¬ iN n ≤ iN b := by rw [iN_le (by omega) (by omega)]; omega
    obtain ⟨x2, f2, b1, b2, b3, b4, b5⟩ := M_t43 (v1 := v1) (v4 := iN b) hN hn hm h (fun t s ht hs q1 q2 => (trT_e hw ht).mpr (Or.inr ⟨s, hs, q1, q2⟩)) n 0 x f N (by omega) hx hl (by omega)
    have hJ2 : swJ w n (trT w A c) f2 (b + 1) := by
      intro i hi hr q
      rcases (trT_e hw (by omega)).mp q with e | ⟨s, h1, h2, h3⟩
      · rw [e]; exact b2 c (by omega) hfc
      · have hr2 := nx_rk hw (by omega) h1 h2
        unfold nxR at h2
        by_cases e0 : w = 0
        · rw [if_pos e0] at h2 hr
          have hu := bl_up hw (by omega) h1 h2
          exact (b4 i (by omega) hi s (by omega) h2).1 e0 (hJ s (by omega) (by rw [if_pos e0]; omega) h3)
        · rw [if_neg e0] at h2 hr
          have hu := bl_up hw h1 (by omega) h2
          exact (b4 s (by omega) (by omega) i hi h2).2 e0 (hJ s (by omega) (by rw [if_neg e0]; omega) h3)
    obtain ⟨y, h1, h2⟩ := M_t31 hN hw hc hm h k (b + 1) x2 f2 m' (by omega) b1 b3 (b2 c (by omega) hfc) hJ2 (by omega)
    refine ⟨y, h1, ?_⟩
    rw [fX12_tier_31, hm, if_neg hii, show fX12_tier_43 N v1 w (iN b) N x 0 S = fX12_tier_43 N v1 w (iN b) N x (iN 0) S from rfl, b5]
    show fX12_tier_31 N v1 w m' x2 (iN b + 1) S = _
    rw [iN_1]
    exact h2
end TIM
def aTier (V : Cv) (A : Rw) (c w : Int32) : Int32 ⊕ String := if inr c V.1 then (if btw w 0 1 then .inl (tieV w A (ix c)) else .inr nNSE) else .inr nNSE
section TIQ
variable {N : Nat} {V : Cv} {A : Rw} {S : PS}
theorem C_tier {c w : Int32} (q : QC N V A S) : rn (fX11_tier N c w S) (fun r => r.1 = aTier V A c w ∧ FQ S r.2) := by
  obtain ⟨hN, hs, hw, hcu, p, hp⟩ := q
  have hn := hw.1
  unfold aTier fX11_tier
  by_cases h1 : inr c V.1
  · obtain ⟨d, hd, rfl⟩ := inr_c h1
    have xd : ix (iN d) = d := ix_iN (by omega)
    rw [nc_t hp hn hd, bU_l, if_pos h1]
    by_cases h2 : btw w 0 1
    · rw [nw_t h2, bU_l, if_pos h2, xd]
      by_cases k0 : w = 0
      · rw [if_pos k0, C_above hN hw hd hcu, bI_s, rn_some, k0]; exact ⟨rfl, FQ.rfl⟩
      · have k1 : w = 1 := by
          obtain ⟨m, rfl, m1, m2⟩ := btw_nat (l := 0) (h := 1) rfl rfl (by omega) (by omega) h2
          have : m ≠ 0 := fun e => k0 (by rw [e]; rfl)
          have : m = 1 := by omega
          rw [this]; rfl
        rw [if_neg k0, C_allBelow hN hw hd hcu, bI_s, rn_some, k1]; exact ⟨rfl, FQ.rfl⟩
    · rw [nw_f h2, bU_r, if_neg h2, rn_some]
      exact ⟨rfl, FQ.rfl⟩
  · rw [nc_f hp hn h1, bU_r, if_neg h1, rn_some]
    exact ⟨rfl, FQ.rfl⟩
theorem M_tier {c w : Int32} (q : QM N V A S) : rn (fX12_tier N c w S) (fun r => MA k1 (aTier V A c w) r.1 (r.2.1 80 0) ∧ FP S r.2) := by
  have hF : FP S (u2 S.1 80 0 0, S.2) := zFP
  have q0 := q.fp hF
  have hz := z0 (S := S)
  unfold aTier fX12_tier
  refine rn_l (fun T eT => ?_)
  rw [← eT] at q0 hF hz
  clear eT
  obtain ⟨hN, hs, hw, hmr, hme⟩ := q0
  have hn := hw.1
  have h80 : T.1 80 1 = iN V.1 := hme.1
  have bad : MA k1 (.inr nNSE : Int32 ⊕ String) 0 (u2 T.1 80 0 1 80 0) := by
    show u2 T.1 80 0 1 80 0 = 1
    rw [u2_at, upd_at]
  by_cases h1 : inr c V.1
  · obtain ⟨d, hd, rfl⟩ := inr_c h1
    have xd : ix (iN d) = d := ix_iN (by omega)
    rw [ic_t hz hn h80 hd, bI_s, if_neg (by decide), if_pos h1]
    by_cases h2 : btw w 0 1
    · rw [iw_t hz h2, bI_s, if_neg (by decide), if_pos h2, xd, lt_b]
      have hb : bt (1 <<< (iN d &&& 31)) (upd (fun _ => 0) d 1) := by
        have := bt_or bt_0 (show d < 9 by omega)
        rw [show (0 : Int32) ||| (1 <<< (iN d &&& 31)) = 1 <<< (iN d &&& 31) from by simp] at this
        exact this
      obtain ⟨y, hy, e⟩ := M_t31 (v1 := iN d) (w := w) hN hw hd h80 hmr V.1 0 _ _ N (by omega) hb (fun i hi q => by
        by_cases ei : i = d
        · rw [ei]; exact trT_c
        · rw [upd_o ei] at q; exact absurd q (by decide)) upd_at (fun x hx hr _ => by
          exfalso
          revert hr
          split <;> intro hr <;> omega) (by omega)
      rw [show fX12_tier_31 N (iN d) w N (1 <<< (iN d &&& 31)) 0 T = fX12_tier_31 N (iN d) w N (1 <<< (iN d &&& 31)) (iN 0) T from rfl, e]
      show rn (some ((y &&& ((1 <<< (iN d &&& 31)) ^^^ (-1))), T)) _
      rw [rn_some]
      exact ⟨⟨hz, bt_mk (bt_clr hy (show d < 9 by omega))⟩, hF⟩
    · rw [iw_f hz h2, bI_s, if_pos rfl, if_neg h2, rn_some]
      exact ⟨bad, hF.tr zFP⟩
  · rw [ic_f hz hn h80 h1, bI_s, if_pos rfl, if_neg h1, rn_some]
    exact ⟨bad, hF.tr zFP⟩
end TIQ
