/-! ===== phase 2: listen ===== -/
def snF (V : Cv) (A : Rw) (Q : Nat → Bool) (i s : Nat) : Nat → Bool
  | 0 => false
  | k + 1 => if Q k = true ∧ tpK V (ledS A (k / 10) (gsX k)) (i + 1) = iN s then true else snF V A Q i s k
theorem snF_s {V : Cv} {A : Rw} {Q : Nat → Bool} {i s k : Nat} : snF V A Q i s (k + 1) = if Q k = true ∧ tpK V (ledS A (k / 10) (gsX k)) (i + 1) = iN s then true else snF V A Q i s k := by rw [snF]
theorem snF_q {V : Cv} {A : Rw} {Q : Nat → Bool} {i s : Nat} : ∀ k, snF V A Q i s k = true ↔ snQ V A Q k i s
  | 0 => by
    rw [snF]
    constructor
    · intro h; exact absurd h (by decide)
    · rintro ⟨v, h, -⟩; omega
  | k + 1 => by
    rw [snF_s]
    by_cases e : Q k = true ∧ tpK V (ledS A (k / 10) (gsX k)) (i + 1) = iN s
    · rw [if_pos e]
      exact ⟨fun _ => ⟨k, by omega, e.1, e.2⟩, fun _ => rfl⟩
    · rw [if_neg e, snF_q k]
      constructor
      · rintro ⟨v, a, b⟩
        exact ⟨v, by omega, b⟩
      · rintro ⟨v, a, b⟩
        by_cases ev : v = k
        · rw [ev] at b; exact absurd b e
        · exact ⟨v, by omega, b⟩
def ulN (V : Cv) (A : Rw) (Q : Nat → Bool) (k i : Nat) : Nat := sumN (fun s => if snF V A Q i s k = true then 1 else 0) 512
def lisF (u : Nat → Nat) : Nat → Int32 × Int32
  | 0 => (-1, 0)
  | k + 1 => if iN (u k) ≤ (lisF u k).2 then lisF u k else (iN (k + 1), iN (u k))
theorem lisF_s {u : Nat → Nat} {k : Nat} : lisF u (k + 1) = if iN (u k) ≤ (lisF u k).2 then lisF u k else (iN (k + 1), iN (u k)) := by rw [lisF]
def aListen (V : Cv) (M : Mi) (w : Int32) : Int32 ⊕ String :=
  if btw w 0 1 then .inl (if w = 0 then (lisF (ulN V M.1 (gsB V M.1 M.2.2.1 M.2.2.2) (10 * V.1)) 40).1 else (lisF (ulN V M.1 (gsB V M.1 M.2.2.1 M.2.2.2) (10 * V.1)) 40).2) else .inr nNSE
theorem sumN_64 {g : Nat → Nat → Nat} : ∀ k, sumN (fun s => g (s / 64) (s % 64)) (64 * k) = sumN (fun j => sumN (g j) 64) k
  | 0 => by rw [Nat.mul_zero, sumN, sumN]
  | k + 1 => by
    rw [show 64 * (k + 1) = 64 * k + 64 from by omega, sumN_app, sumN_s, sumN_64 k]
    refine addN_cg (sumN_cg 64 (fun s hs => ?_))
    rw [show (64 * k + s) / 64 = k from by omega, show (64 * k + s) % 64 = s from by omega]
theorem lb_cB {x : Int64} {b : Nat} : cB (nnL x) b = if lb x b = true then 1 else 0 := rfl
section LIS
variable {N m : Nat} {V : Cv} {A : Rw} {H : Nat → Nat → Int32} {Q : Nat → Bool} {S : PS}
theorem C_unlike {i k : Nat} (hN : 30000 ≤ N) (hi : i < 40) (h : LQ V A Q k S) : fX9_unlikeIn N (iN (i + 1)) S = some (iN (ulN V A Q k i), S) := by
  have e0 : ulN V A Q k i = sumN (fun j => sumN (cB (nnL (S.2.1 33 (8 * i + j)))) 64) 8 := by
    have e := sumN_64 (g := fun j b => cB (nnL (S.2.1 33 (8 * i + j))) b) 8
    rw [← e]
    unfold ulN
    refine sumN_cg 512 (fun s hs => ?_)
    rw [lb_cB]
    have := h.2.2 i hi s hs
    by_cases q : snF V A Q i s k = true
    · rw [if_pos q, if_pos (this.mpr ((snF_q k).mp q))]
    · rw [if_neg q, if_neg (fun g => q ((snF_q k).mpr (this.mp g)))]
  have key : ∀ d j f', j + d = 8 → d < f' → fX9_unlikeIn_4 N (iN (i + 1)) f' (iN (sumN (fun j => sumN (cB (nnL (S.2.1 33 (8 * i + j)))) 64) j)) (iN j) S = some (iN (sumN (fun j => sumN (cB (nnL (S.2.1 33 (8 * i + j)))) 64) 8), iN 8, S) := by
    intro d
    induction d with
    | zero =>
      intro j f' hj hf
      obtain ⟨f'', rfl⟩ : ∃ f'', f' = f'' + 1 := ⟨f' - 1, by omega⟩
      have e : j = 8 := by omega
      subst e
      rw [fX9_unlikeIn_4, if_pos (show (8 : Int32) ≤ iN 8 from Int32.le_refl _)]
    | succ d ih =>
      intro j f' hj hf
      obtain ⟨f'', rfl⟩ : ∃ f'', f' = f'' + 1 := ⟨f' - 1, by omega⟩
      have ek : (iN (i + 1) - 1) * 8 + iN j = iN (8 * i + j) := by
        rw [iN_s1, show (8 : Int32) = iN 8 from rfl, iN_mul, iN_add, Nat.mul_comm]
      have ik : inr (iN (8 * i + j)) 320 := inr_iN (by omega) (by omega)
      have xk : ix (iN (8 * i + j)) = 8 * i + j := ix_iN (by omega)
      rw [fX9_unlikeIn_4, if_neg (by rw [show (8 : Int32) = iN 8 from rfl, iN_le (by omega) (by omega)]; omega), ek, lt_b, if_neg (iN_pos (by omega)), if_neg (by rw [show (320 : Int32) = iN 320 from rfl, iN_le (by omega) (by omega)]; omega), gd_t ik, xk, bitC, bI_s, lt_b, lt_b, iN_1, iN_add, ← sumN_s (f := fun j => sumN (cB (nnL (S.2.1 33 (8 * i + j)))) 64)]
      exact ih (j + 1) f'' (by omega) (by omega)
  have := key 8 0 N (by omega) (by omega)
  unfold fX9_unlikeIn
  rw [show fX9_unlikeIn_4 N (iN (i + 1)) N 0 0 S = fX9_unlikeIn_4 N (iN (i + 1)) N (iN (sumN (fun j => sumN (cB (nnL (S.2.1 33 (8 * i + j)))) 64) 0)) (iN 0) S from by rw [sumN]; rfl, this, e0]
  rfl
end LIS
section LI2
variable {N : Nat} {V : Cv} {M : Mi} {S : PS}
theorem C_listen {w : Int32} (q : QC N V M.1 S) (hh : HCd M.2.2.1 M.2.2.2 S) (hv : WH V.1 M.2.2.1 M.2.2.2) : rn (fX11_listen N w S) (fun r => r.1 = aListen V M w ∧ FQ S r.2) := by
  have hN := q.1
  unfold aListen fX11_listen
  by_cases h2 : btw w 0 1
  · rw [nw_t h2, bU_l, if_pos h2, rn_bV]
    refine rn_mono (C_search q hh hv) (fun U hU => ?_)
    obtain ⟨u1, u2⟩ := hU
    generalize hu : ulN V M.1 (gsB V M.1 M.2.2.1 M.2.2.2) (10 * V.1) = u
    have key : ∀ d j f', j + d = 40 → d < f' → fX11_listen_27 N w f' (lisF u j).1 (lisF u j).2 (iN (j + 1)) U = some ((lisF u 40).1, (lisF u 40).2, iN 41, U) := by
      intro d
      induction d with
      | zero =>
        intro j f' hj hf
        obtain ⟨f'', rfl⟩ : ∃ f'', f' = f'' + 1 := ⟨f' - 1, by omega⟩
        have e : j = 40 := by omega
        subst e
        rw [fX11_listen_27, if_pos (by rw [show (40 : Int32) = iN 40 from rfl, iN_lt (by omega) (by omega)]; omega)]
      | succ d ih =>
        intro j f' hj hf
        obtain ⟨f'', rfl⟩ : ∃ f'', f' = f'' + 1 := ⟨f' - 1, by omega⟩
        have nx := ih (j + 1) f'' (by omega) (by omega)
        rw [lisF_s] at nx
        rw [fX11_listen_27, if_neg (by rw [show (40 : Int32) = iN 40 from rfl, iN_lt (by omega) (by omega)]; omega), C_unlike hN (by omega) u1, bI_s, hu]
        by_cases e : iN (u j) ≤ (lisF u j).2
        · rw [if_pos e] at nx
          rw [if_pos e, lt_b, iN_1]
          exact nx
        · rw [if_neg e] at nx
          rw [if_neg e, lt_b, iN_1]
          exact nx
    have k0 := key 40 0 N (by omega) (by omega)
    rw [lisF] at k0
    rw [show fX11_listen_27 N w N (-1) 0 1 U = fX11_listen_27 N w N (-1) 0 (iN (0 + 1)) U from rfl, k0]
    generalize lisF u 40 = r
    rw [rn_bT, rn_some, rn_lt, rn_lt, rn_lt, rn_lt, rn_lt, rn_some]
    exact ⟨rfl, u2.fq⟩
  · rw [nw_f h2, bU_r, if_neg h2, rn_some]
    exact ⟨rfl, FQ.rfl⟩
end LI2
